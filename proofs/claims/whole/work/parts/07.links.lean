theorem in_t1 {w : Cond} (h : w ∈ tables_1_1) : w ∈ lw_tbl := List.mem_append_right _ (List.mem_append_left _ h)
theorem in_k1 {w : Cond} (i : Nat) (h : tables_1_1[i]? = some w) : w ∈ lw_tbl := in_t1 (List.mem_of_getElem? h)
theorem in_c1 {w : Cond} (i : Nat) (h : tables_1_1[i]? = some w) (hg : goodWord w = true) : w ∈ lw_g := List.mem_filter.mpr ⟨in_t1 (List.mem_of_getElem? h), hg⟩
theorem in_t2 {w : Cond} (h : w ∈ tables_1_2) : w ∈ lw_tbl := List.mem_append_right _ (List.mem_append_right _ (List.mem_append_left _ h))
theorem in_k2 {w : Cond} (i : Nat) (h : tables_1_2[i]? = some w) : w ∈ lw_tbl := in_t2 (List.mem_of_getElem? h)
theorem in_c2 {w : Cond} (i : Nat) (h : tables_1_2[i]? = some w) (hg : goodWord w = true) : w ∈ lw_g := List.mem_filter.mpr ⟨in_t2 (List.mem_of_getElem? h), hg⟩
theorem in_t3 {w : Cond} (h : w ∈ tables_1_3) : w ∈ lw_tbl := List.mem_append_right _ (List.mem_append_right _ (List.mem_append_right _ (List.mem_append_left _ h)))
theorem in_k3 {w : Cond} (i : Nat) (h : tables_1_3[i]? = some w) : w ∈ lw_tbl := in_t3 (List.mem_of_getElem? h)
theorem in_c3 {w : Cond} (i : Nat) (h : tables_1_3[i]? = some w) (hg : goodWord w = true) : w ∈ lw_g := List.mem_filter.mpr ⟨in_t3 (List.mem_of_getElem? h), hg⟩
theorem in_t4 {w : Cond} (h : w ∈ tables_1_4) : w ∈ lw_tbl := List.mem_append_right _ (List.mem_append_right _ (List.mem_append_right _ (List.mem_append_right _ (List.mem_append_left _ h))))
theorem in_k4 {w : Cond} (i : Nat) (h : tables_1_4[i]? = some w) : w ∈ lw_tbl := in_t4 (List.mem_of_getElem? h)
theorem in_c4 {w : Cond} (i : Nat) (h : tables_1_4[i]? = some w) (hg : goodWord w = true) : w ∈ lw_g := List.mem_filter.mpr ⟨in_t4 (List.mem_of_getElem? h), hg⟩
theorem in_t5 {w : Cond} (h : w ∈ tables_1_5) : w ∈ lw_tbl := List.mem_append_right _ (List.mem_append_right _ (List.mem_append_right _ (List.mem_append_right _ (List.mem_append_right _ (List.mem_append_left _ h)))))
theorem in_k5 {w : Cond} (i : Nat) (h : tables_1_5[i]? = some w) : w ∈ lw_tbl := in_t5 (List.mem_of_getElem? h)
theorem in_c5 {w : Cond} (i : Nat) (h : tables_1_5[i]? = some w) (hg : goodWord w = true) : w ∈ lw_g := List.mem_filter.mpr ⟨in_t5 (List.mem_of_getElem? h), hg⟩
theorem in_t6 {w : Cond} (h : w ∈ tables_1_6) : w ∈ lw_tbl := List.mem_append_right _ (List.mem_append_right _ (List.mem_append_right _ (List.mem_append_right _ (List.mem_append_right _ (List.mem_append_right _ (List.mem_append_left _ h))))))
theorem in_k6 {w : Cond} (i : Nat) (h : tables_1_6[i]? = some w) : w ∈ lw_tbl := in_t6 (List.mem_of_getElem? h)
theorem in_c6 {w : Cond} (i : Nat) (h : tables_1_6[i]? = some w) (hg : goodWord w = true) : w ∈ lw_g := List.mem_filter.mpr ⟨in_t6 (List.mem_of_getElem? h), hg⟩
theorem in_t7 {w : Cond} (h : w ∈ tables_1_7) : w ∈ lw_tbl := List.mem_append_right _ (List.mem_append_right _ (List.mem_append_right _ (List.mem_append_right _ (List.mem_append_right _ (List.mem_append_right _ (List.mem_append_right _ (List.mem_append_left _ h)))))))
theorem in_k7 {w : Cond} (i : Nat) (h : tables_1_7[i]? = some w) : w ∈ lw_tbl := in_t7 (List.mem_of_getElem? h)
theorem in_c7 {w : Cond} (i : Nat) (h : tables_1_7[i]? = some w) (hg : goodWord w = true) : w ∈ lw_g := List.mem_filter.mpr ⟨in_t7 (List.mem_of_getElem? h), hg⟩
theorem in_t8 {w : Cond} (h : w ∈ tables_1_8) : w ∈ lw_tbl := List.mem_append_right _ (List.mem_append_right _ (List.mem_append_right _ (List.mem_append_right _ (List.mem_append_right _ (List.mem_append_right _ (List.mem_append_right _ (List.mem_append_right _ (List.mem_append_left _ h))))))))
theorem in_k8 {w : Cond} (i : Nat) (h : tables_1_8[i]? = some w) : w ∈ lw_tbl := in_t8 (List.mem_of_getElem? h)
theorem in_c8 {w : Cond} (i : Nat) (h : tables_1_8[i]? = some w) (hg : goodWord w = true) : w ∈ lw_g := List.mem_filter.mpr ⟨in_t8 (List.mem_of_getElem? h), hg⟩
theorem in_t9 {w : Cond} (h : w ∈ tables_1_9) : w ∈ lw_tbl := List.mem_append_right _ (List.mem_append_right _ (List.mem_append_right _ (List.mem_append_right _ (List.mem_append_right _ (List.mem_append_right _ (List.mem_append_right _ (List.mem_append_right _ (List.mem_append_right _ (h)))))))))
theorem in_k9 {w : Cond} (i : Nat) (h : tables_1_9[i]? = some w) : w ∈ lw_tbl := in_t9 (List.mem_of_getElem? h)
theorem in_c9 {w : Cond} (i : Nat) (h : tables_1_9[i]? = some w) (hg : goodWord w = true) : w ∈ lw_g := List.mem_filter.mpr ⟨in_t9 (List.mem_of_getElem? h), hg⟩
theorem in_gs (ws : List Cond) (ps : List Nat) (hp : ws = ps.filterMap (fun i => lw_tbl[i]?)) (hg : ws.all goodWord = true) : ∀ w ∈ ws, w ∈ lw_g := by
  intro w hw
  have h1 := List.all_eq_true.mp hg w hw
  rw [hp] at hw
  obtain ⟨i, -, hi⟩ := List.mem_filterMap.mp hw
  exact in_g i hi h1
theorem uw0 : ∀ w ∈ u_ws Rc0 Tc0 8, w ∈ lw_g := in_gs _ [668, 670, 672, 674, 676, 678, 680, 682] (by decide +kernel) (by decide +kernel)
theorem ck0 : CKs 0 Rc0 Tc0 8 := ⟨rfl, uw0, by decide +kernel, ⟨yc0, ty0⟩, nm0⟩
theorem ck12 : CKs 12 Rc0 Tc0 8 := ⟨rfl, uw0, by decide +kernel, ⟨yc0, ty0⟩, nm0⟩
theorem uw1 : ∀ w ∈ u_ws Rc1 Tc1 8, w ∈ lw_g := in_gs _ [331, 333, 335, 337, 339, 341, 343, 345] (by decide +kernel) (by decide +kernel)
theorem ck1 : CKs 1 Rc1 Tc1 8 := ⟨rfl, uw1, by decide +kernel, ⟨yc1, ty1⟩, nm1⟩
theorem ck13 : CKs 13 Rc1 Tc1 8 := ⟨rfl, uw1, by decide +kernel, ⟨yc1, ty1⟩, nm1⟩
theorem uw2 : ∀ w ∈ u_ws Rc2 Tc2 17, w ∈ lw_g := in_gs _ [228, 230, 232, 234, 236, 238, 240, 242, 244, 246, 248, 250, 252, 254, 256, 258, 260] (by decide +kernel) (by decide +kernel)
theorem ck2 : CKs 2 Rc2 Tc2 17 := ⟨rfl, uw2, by decide +kernel, ⟨yc2, ty2⟩, nm2⟩
theorem ck14 : CKs 14 Rc2 Tc2 17 := ⟨rfl, uw2, by decide +kernel, ⟨yc2, ty2⟩, nm2⟩
theorem uw3 : ∀ w ∈ u_ws Rc3 Tc3 4, w ∈ lw_g := in_gs _ [285, 287, 289, 291] (by decide +kernel) (by decide +kernel)
theorem ck3 : CKs 3 Rc3 Tc3 4 := ⟨rfl, uw3, by decide +kernel, ⟨yc3, ty3⟩, nm3⟩
theorem ck15 : CKs 15 Rc3 Tc3 4 := ⟨rfl, uw3, by decide +kernel, ⟨yc3, ty3⟩, nm3⟩
theorem uw4 : ∀ w ∈ u_ws Rc4 Tc4 3, w ∈ lw_g := in_gs _ [308, 310, 312] (by decide +kernel) (by decide +kernel)
theorem ck4 : CKs 4 Rc4 Tc4 3 := ⟨rfl, uw4, by decide +kernel, ⟨yc4, ty4⟩, nm4⟩
theorem ck16 : CKs 16 Rc4 Tc4 3 := ⟨rfl, uw4, by decide +kernel, ⟨yc4, ty4⟩, nm4⟩
theorem uw5 : ∀ w ∈ u_ws Rc5 Tc5 14, w ∈ lw_g := in_gs _ [380, 382, 384, 386, 388, 390, 392, 394, 396, 398, 400, 402, 404, 406] (by decide +kernel) (by decide +kernel)
theorem ck5 : CKs 5 Rc5 Tc5 14 := ⟨rfl, uw5, by decide +kernel, ⟨yc5, ty5⟩, nm5⟩
theorem ck17 : CKs 17 Rc5 Tc5 14 := ⟨rfl, uw5, by decide +kernel, ⟨yc5, ty5⟩, nm5⟩
theorem uw6 : ∀ w ∈ u_ws Rc6 Tc6 11, w ∈ lw_g := in_gs _ [518, 520, 522, 524, 526, 528, 530, 532, 534, 536, 538] (by decide +kernel) (by decide +kernel)
theorem ck6 : CKs 6 Rc6 Tc6 11 := ⟨rfl, uw6, by decide +kernel, ⟨yc6, ty6⟩, nm6⟩
theorem ck18 : CKs 18 Rc6 Tc6 11 := ⟨rfl, uw6, by decide +kernel, ⟨yc6, ty6⟩, nm6⟩
theorem uw7 : ∀ w ∈ u_ws Rc7 Tc7 14, w ∈ lw_g := in_gs _ [458, 460, 462, 464, 466, 468, 470, 472, 474, 476, 478, 480, 482, 484] (by decide +kernel) (by decide +kernel)
theorem ck7 : CKs 7 Rc7 Tc7 14 := ⟨rfl, uw7, by decide +kernel, ⟨yc7, ty7⟩, nm7⟩
theorem ck19 : CKs 19 Rc7 Tc7 14 := ⟨rfl, uw7, by decide +kernel, ⟨yc7, ty7⟩, nm7⟩
theorem uw8 : ∀ w ∈ u_ws Rc8 Tc8 4, w ∈ lw_g := in_gs _ [559, 561, 563, 565] (by decide +kernel) (by decide +kernel)
theorem ck8 : CKs 8 Rc8 Tc8 4 := ⟨rfl, uw8, by decide +kernel, ⟨yc8, ty8⟩, nm8⟩
theorem ck20 : CKs 20 Rc8 Tc8 4 := ⟨rfl, uw8, by decide +kernel, ⟨yc8, ty8⟩, nm8⟩
theorem uw9 : ∀ w ∈ u_ws Rc9 Tc9 8, w ∈ lw_g := in_gs _ [591, 593, 595, 597, 599, 601, 603, 605] (by decide +kernel) (by decide +kernel)
theorem ck9 : CKs 9 Rc9 Tc9 8 := ⟨rfl, uw9, by decide +kernel, ⟨yc9, ty9⟩, nm9⟩
theorem ck21 : CKs 21 Rc9 Tc9 8 := ⟨rfl, uw9, by decide +kernel, ⟨yc9, ty9⟩, nm9⟩
theorem uw10 : ∀ w ∈ u_ws Rc10 Tc10 16, w ∈ lw_g := in_gs _ [627, 629, 631, 633, 635, 637, 639, 641, 643, 645, 647, 649, 651, 653, 655, 657] (by decide +kernel) (by decide +kernel)
theorem ck10 : CKs 10 Rc10 Tc10 16 := ⟨rfl, uw10, by decide +kernel, ⟨yc10, ty10⟩, nm10⟩
theorem ck22 : CKs 22 Rc10 Tc10 16 := ⟨rfl, uw10, by decide +kernel, ⟨yc10, ty10⟩, nm10⟩
theorem uw11 : ∀ w ∈ u_ws Rc11 Tc11 87, w ∈ lw_g := in_gs _ [1386, 1388, 1390, 1392, 1394, 1396, 1398, 1400, 1402, 1404, 1406, 1408, 1410, 1412, 1414, 1416, 1418, 1420, 1422, 1424, 1426, 1428, 1430, 1432, 1434, 1436, 1438, 1440, 1442, 1444, 1446, 1448, 1450, 1452, 1454, 1456, 1458, 1460, 1462, 1464, 1466, 1468, 1470, 1472, 1474, 1476, 1478, 1480, 1482, 1484, 1486, 1488, 1490, 1492, 1494, 1496, 1498, 1500, 1502, 1504, 1506, 1508, 1510, 1512, 1514, 1516, 1518, 1520, 1522, 1524, 1526, 1528, 1530, 1532, 1534, 1536, 1538, 1540, 1542, 1544, 1546, 1548, 1550, 1552, 1554, 1556, 1558] (by decide +kernel) (by decide +kernel)
theorem ck11 : CKs 11 Rc11 Tc11 87 := ⟨rfl, uw11, by decide +kernel, ⟨yc11, ty11⟩, nm11⟩
theorem ck23 : CKs 23 Rc11 Tc11 87 := ⟨rfl, uw11, by decide +kernel, ⟨yc11, ty11⟩, nm11⟩
def y0_init : MethodName := ⟨Rc0, "<init>", "()V"⟩
def y0_after : MethodName := ⟨Rc0, "after", "(III)I"⟩
def y0_again : MethodName := ⟨Rc0, "again", "(I)Z"⟩
def y0_agrees : MethodName := ⟨Rc0, "agrees", "(LAskedNames$Run;LAskedNames$Log;I)Z"⟩
def y0_alone : MethodName := ⟨Rc0, "alone", "(IIIII)I"⟩
def y0_begins : MethodName := ⟨Rc0, "begins", "(II)Z"⟩
def y0_count : MethodName := ⟨Rc0, "count", "(I)I"⟩
def y0_deed : MethodName := ⟨Rc0, "deed", "(III)I"⟩
def y0_drawn : MethodName := ⟨Rc0, "drawn", "(IIII)I"⟩
def y0_edges : MethodName := ⟨Rc0, "edges", "(II)I"⟩
def y0_end : MethodName := ⟨Rc0, "end", "(I)I"⟩
def y0_entry : MethodName := ⟨Rc0, "entry", "(IIIIII)I"⟩
def y0_fact : MethodName := ⟨Rc0, "fact", "(III)I"⟩
def y0_far : MethodName := ⟨Rc0, "far", "(III)I"⟩
def y0_fault : MethodName := ⟨Rc0, "fault", "(I)I"⟩
def y0_feed : MethodName := ⟨Rc0, "feed", "(IIIII)I"⟩
def y0_fits : MethodName := ⟨Rc0, "fits", "(IIII)I"⟩
def y0_got : MethodName := ⟨Rc0, "got", "(LAskedNames$Run;II)Z"⟩
def y0_image : MethodName := ⟨Rc0, "image", "(I)Z"⟩
def y0_isName : MethodName := ⟨Rc0, "isName", "(I)Z"⟩
def y0_lettersOf : MethodName := ⟨Rc0, "lettersOf", "(I)I"⟩
def y0_logAt : MethodName := ⟨Rc0, "logAt", "(I)LAskedNames$Log;"⟩
def y0_mean : MethodName := ⟨Rc0, "mean", "(LAskedNames$Run;IZ)I"⟩
def y0_net : MethodName := ⟨Rc0, "net", "(II)I"⟩
def y0_netAt : MethodName := ⟨Rc0, "netAt", "(I)LAskedNames$Net;"⟩
def y0_noteGot : MethodName := ⟨Rc0, "noteGot", "(LAskedNames$Run;I)V"⟩
def y0_runAt : MethodName := ⟨Rc0, "runAt", "(I)LAskedNames$Run;"⟩
def y0_shorten : MethodName := ⟨Rc0, "shorten", "(III)V"⟩
def y0_state : MethodName := ⟨Rc0, "state", "(IIII)I"⟩
def y0_stop : MethodName := ⟨Rc0, "stop", "(II)I"⟩
def y0_stored : MethodName := ⟨Rc0, "stored", "(IIIIII)I"⟩
def y0_table : MethodName := ⟨Rc0, "table", "(III)I"⟩
def y0_tellingAsk : MethodName := ⟨Rc0, "tellingAsk", "(LAskedNames$Run;I)I"⟩
def y0_text : MethodName := ⟨Rc0, "text", "(II)I"⟩
def y0_trail : MethodName := ⟨Rc0, "trail", "(IIII)I"⟩
def y0_ways : MethodName := ⟨Rc0, "ways", "(IIIZ)I"⟩
def y0_why : MethodName := ⟨Rc0, "why", "(IIII)I"⟩
def y10_init : MethodName := ⟨Rc10, "<init>", "()V"⟩
def y10_answer : MethodName := ⟨Rc10, "answer", "(III)V"⟩
def y10_ask : MethodName := ⟨Rc10, "ask", "(IIII)V"⟩
def y10_askAlone : MethodName := ⟨Rc10, "askAlone", "(LAskedNames$Net;III)V"⟩
def y10_begin : MethodName := ⟨Rc10, "begin", "(LAskedNames$Net;I)V"⟩
def y10_below : MethodName := ⟨Rc10, "below", "(I)I"⟩
def y10_bestWay : MethodName := ⟨Rc10, "bestWay", "(III)I"⟩
def y10_close : MethodName := ⟨Rc10, "close", "(I)V"⟩
def y10_draw : MethodName := ⟨Rc10, "draw", "(LAskedNames$Net;II)V"⟩
def y10_drawAsk : MethodName := ⟨Rc10, "drawAsk", "(II)V"⟩
def y10_drawWait : MethodName := ⟨Rc10, "drawWait", "()V"⟩
def y10_drop : MethodName := ⟨Rc10, "drop", "(I)V"⟩
def y10_endEntries : MethodName := ⟨Rc10, "endEntries", "()V"⟩
def y10_entriesAt : MethodName := ⟨Rc10, "entriesAt", "(I)I"⟩
def y10_entryAt : MethodName := ⟨Rc10, "entryAt", "(II)LAskedNames$Entry;"⟩
def y10_find : MethodName := ⟨Rc10, "find", "(III)I"⟩
def y10_firstServed : MethodName := ⟨Rc10, "firstServed", "(IZ)I"⟩
def y10_goOn : MethodName := ⟨Rc10, "goOn", "(LAskedNames$Entry;)Z"⟩
def y10_isMet : MethodName := ⟨Rc10, "isMet", "(IIIII)Z"⟩
def y10_isServed : MethodName := ⟨Rc10, "isServed", "(LAskedNames$Entry;IZ)Z"⟩
def y10_isUp : MethodName := ⟨Rc10, "isUp", "(I)Z"⟩
def y10_land : MethodName := ⟨Rc10, "land", "(I)V"⟩
def y10_look : MethodName := ⟨Rc10, "look", "(I)I"⟩
def y10_makeEntry : MethodName := ⟨Rc10, "makeEntry", "(IIIII)V"⟩
def y10_passMinute : MethodName := ⟨Rc10, "passMinute", "()V"⟩
def y10_perform : MethodName := ⟨Rc10, "perform", "(LAskedNames$Run;I)Z"⟩
def y10_replay : MethodName := ⟨Rc10, "replay", "(LAskedNames$Net;LAskedNames$Run;II)I"⟩
def y10_sayNack : MethodName := ⟨Rc10, "sayNack", "(IIII)V"⟩
def y10_sayServed : MethodName := ⟨Rc10, "sayServed", "(III)V"⟩
def y10_sayStored : MethodName := ⟨Rc10, "sayStored", "(LAskedNames$Store;II)V"⟩
def y10_send : MethodName := ⟨Rc10, "send", "(II)V"⟩
def y10_settle : MethodName := ⟨Rc10, "settle", "(I)V"⟩
def y10_takeData : MethodName := ⟨Rc10, "takeData", "()V"⟩
def y10_takeNack : MethodName := ⟨Rc10, "takeNack", "()V"⟩
def y6_init : MethodName := ⟨Rc6, "<init>", "()V"⟩
def y6_join : MethodName := ⟨Rc6, "join", "(II)V"⟩
def y6_look : MethodName := ⟨Rc6, "look", "(I)I"⟩
def y9_init : MethodName := ⟨Rc9, "<init>", "()V"⟩
def y9_begin : MethodName := ⟨Rc9, "begin", "(I)V"⟩
def y9_look : MethodName := ⟨Rc9, "look", "(I)I"⟩
def y4_init : MethodName := ⟨Rc4, "<init>", "()V"⟩
def y4_add : MethodName := ⟨Rc4, "add", "(II)V"⟩
def y4_copy : MethodName := ⟨Rc4, "copy", "(LAskedNames$Log;)V"⟩
def y7_init : MethodName := ⟨Rc7, "<init>", "()V"⟩
def y7_copy : MethodName := ⟨Rc7, "copy", "(LAskedNames$Message;)V"⟩
def y2_init : MethodName := ⟨Rc2, "<init>", "()V"⟩
def y2_addLink : MethodName := ⟨Rc2, "addLink", "(III)V"⟩
def y2_addRoute : MethodName := ⟨Rc2, "addRoute", "(IIII)V"⟩
def y2_addServe : MethodName := ⟨Rc2, "addServe", "(III)V"⟩
def y2_blindAsBits : MethodName := ⟨Rc2, "blindAsBits", "()I"⟩
def y2_clear : MethodName := ⟨Rc2, "clear", "()V"⟩
def y2_copy : MethodName := ⟨Rc2, "copy", "(LAskedNames$Net;)V"⟩
def y2_hasNode : MethodName := ⟨Rc2, "hasNode", "(I)Z"⟩
def y2_hiddenAsBits : MethodName := ⟨Rc2, "hiddenAsBits", "()I"⟩
def y2_leavesAsBits : MethodName := ⟨Rc2, "leavesAsBits", "()I"⟩
def y2_linkBetween : MethodName := ⟨Rc2, "linkBetween", "(II)I"⟩
def y2_ofPair : MethodName := ⟨Rc2, "ofPair", "(I)I"⟩
def y2_ofRoute : MethodName := ⟨Rc2, "ofRoute", "(I)I"⟩
def y2_ofServe : MethodName := ⟨Rc2, "ofServe", "(I)I"⟩
def y2_routed : MethodName := ⟨Rc2, "routed", "(II)I"⟩
def y2_routesAt : MethodName := ⟨Rc2, "routesAt", "(I)I"⟩
def y2_rowBefore : MethodName := ⟨Rc2, "rowBefore", "(II)Z"⟩
def y2_rowsAt : MethodName := ⟨Rc2, "rowsAt", "(I)I"⟩
def y2_servedAsBits : MethodName := ⟨Rc2, "servedAsBits", "()I"⟩
def y2_serversAsBits : MethodName := ⟨Rc2, "serversAsBits", "()I"⟩
def y2_serving : MethodName := ⟨Rc2, "serving", "(II)I"⟩
def y2_waysFor : MethodName := ⟨Rc2, "waysFor", "(II)I"⟩
def y5_init : MethodName := ⟨Rc5, "<init>", "()V"⟩
def y5_canBe : MethodName := ⟨Rc5, "canBe", "(C)Z"⟩
def y5_isDigit : MethodName := ⟨Rc5, "isDigit", "(I)Z"⟩
def y5_isHere : MethodName := ⟨Rc5, "isHere", "(Ljava/lang/String;)Z"⟩
def y5_isLetter : MethodName := ⟨Rc5, "isLetter", "(I)Z"⟩
def y5_isOneTooMany : MethodName := ⟨Rc5, "isOneTooMany", "(I)Z"⟩
def y5_mark : MethodName := ⟨Rc5, "mark", "(II)V"⟩
def y5_read : MethodName := ⟨Rc5, "read", "([BII)V"⟩
def y5_readLine : MethodName := ⟨Rc5, "readLine", "()V"⟩
def y5_refuse : MethodName := ⟨Rc5, "refuse", "()V"⟩
def y5_shapeOf : MethodName := ⟨Rc5, "shapeOf", "(I)Ljava/lang/String;"⟩
def y5_step : MethodName := ⟨Rc5, "step", "()V"⟩
def y5_takeNumber : MethodName := ⟨Rc5, "takeNumber", "()V"⟩
def y5_takeWord : MethodName := ⟨Rc5, "takeWord", "()V"⟩
def y5_tell : MethodName := ⟨Rc5, "tell", "(I)V"⟩
def y5_verbHere : MethodName := ⟨Rc5, "verbHere", "()I"⟩
def y5_wordOf : MethodName := ⟨Rc5, "wordOf", "(I)Ljava/lang/String;"⟩
def y3_init : MethodName := ⟨Rc3, "<init>", "()V"⟩
def y3_add : MethodName := ⟨Rc3, "add", "(III)V"⟩
def y3_asks : MethodName := ⟨Rc3, "asks", "(I)Z"⟩
def y3_copy : MethodName := ⟨Rc3, "copy", "(LAskedNames$Run;)V"⟩
def y8_init : MethodName := ⟨Rc8, "<init>", "()V"⟩
def y8_add : MethodName := ⟨Rc8, "add", "(III)V"⟩
def y8_find : MethodName := ⟨Rc8, "find", "(I)I"⟩
def y8_keep : MethodName := ⟨Rc8, "keep", "(LAskedNames$Message;I)V"⟩
def y8_remove : MethodName := ⟨Rc8, "remove", "(I)V"⟩
def y8_use : MethodName := ⟨Rc8, "use", "(I)V"⟩
def y1_init : MethodName := ⟨Rc1, "<init>", "()V"⟩
def y1_append : MethodName := ⟨Rc1, "append", "(I)V"⟩
def y1_copy : MethodName := ⟨Rc1, "copy", "(LAskedNames$Told;)V"⟩
def y1_put : MethodName := ⟨Rc1, "put", "(IILAskedNames$Reader;)V"⟩
def y11_init : MethodName := ⟨Rc11, "<init>", "()V"⟩
def y11_addsFault : MethodName := ⟨Rc11, "addsFault", "(II)V"⟩
def y11_after : MethodName := ⟨Rc11, "after", "(III)I"⟩
def y11_again : MethodName := ⟨Rc11, "again", "(I)Z"⟩
def y11_allLines : MethodName := ⟨Rc11, "allLines", "(I)Z"⟩
def y11_alone : MethodName := ⟨Rc11, "alone", "(IIIII)I"⟩
def y11_answers : MethodName := ⟨Rc11, "answers", "(II)V"⟩
def y11_askWhat : MethodName := ⟨Rc11, "askWhat", "()I"⟩
def y11_asks : MethodName := ⟨Rc11, "asks", "(IIII)Z"⟩
def y11_begin : MethodName := ⟨Rc11, "begin", "(I)V"⟩
def y11_changes : MethodName := ⟨Rc11, "changes", "(IIZ)Z"⟩
def y11_comes : MethodName := ⟨Rc11, "comes", "(I)V"⟩
def y11_common : MethodName := ⟨Rc11, "common", "(II)I"⟩
def y11_copyAll : MethodName := ⟨Rc11, "copyAll", "(II)V"⟩
def y11_copyRow : MethodName := ⟨Rc11, "copyRow", "([IIII)V"⟩
def y11_count : MethodName := ⟨Rc11, "count", "(I)I"⟩
def y11_dataCome : MethodName := ⟨Rc11, "dataCome", "(III)V"⟩
def y11_dataTo : MethodName := ⟨Rc11, "dataTo", "(III)V"⟩
def y11_deed : MethodName := ⟨Rc11, "deed", "(III)I"⟩
def y11_deedBy : MethodName := ⟨Rc11, "deedBy", "(J)I"⟩
def y11_deedOf : MethodName := ⟨Rc11, "deedOf", "(II)I"⟩
def y11_deeds : MethodName := ⟨Rc11, "deeds", "()I"⟩
def y11_does : MethodName := ⟨Rc11, "does", "(IIII)Z"⟩
def y11_draw : MethodName := ⟨Rc11, "draw", "(I)I"⟩
def y11_drawDeed : MethodName := ⟨Rc11, "drawDeed", "(I)V"⟩
def y11_drawn : MethodName := ⟨Rc11, "drawn", "(IIII)I"⟩
def y11_edges : MethodName := ⟨Rc11, "edges", "(II)I"⟩
def y11_end : MethodName := ⟨Rc11, "end", "(I)I"⟩
def y11_endsAll : MethodName := ⟨Rc11, "endsAll", "()V"⟩
def y11_entriesAll : MethodName := ⟨Rc11, "entriesAll", "()I"⟩
def y11_entry : MethodName := ⟨Rc11, "entry", "(IIIIII)I"⟩
def y11_entryOf : MethodName := ⟨Rc11, "entryOf", "(III)I"⟩
def y11_fact : MethodName := ⟨Rc11, "fact", "(III)I"⟩
def y11_factOf : MethodName := ⟨Rc11, "factOf", "(II)I"⟩
def y11_facts : MethodName := ⟨Rc11, "facts", "()I"⟩
def y11_fails : MethodName := ⟨Rc11, "fails", "()Z"⟩
def y11_far : MethodName := ⟨Rc11, "far", "(III)I"⟩
def y11_fault : MethodName := ⟨Rc11, "fault", "(I)I"⟩
def y11_feed : MethodName := ⟨Rc11, "feed", "(IIIII)I"⟩
def y11_firstFor : MethodName := ⟨Rc11, "firstFor", "(IIZ)I"⟩
def y11_firstNack : MethodName := ⟨Rc11, "firstNack", "(IIIII)V"⟩
def y11_fits : MethodName := ⟨Rc11, "fits", "(IIII)I"⟩
def y11_four : MethodName := ⟨Rc11, "four", "(I)V"⟩
def y11_fromServer : MethodName := ⟨Rc11, "fromServer", "(IIII)V"⟩
def y11_fromStore : MethodName := ⟨Rc11, "fromStore", "(IIII)V"⟩
def y11_full : MethodName := ⟨Rc11, "full", "(III)V"⟩
def y11_gets : MethodName := ⟨Rc11, "gets", "(I)V"⟩
def y11_goesBy : MethodName := ⟨Rc11, "goesBy", "()V"⟩
def y11_goesOn : MethodName := ⟨Rc11, "goesOn", "(II)Z"⟩
def y11_greater : MethodName := ⟨Rc11, "greater", "(II)I"⟩
def y11_has : MethodName := ⟨Rc11, "has", "(II)Z"⟩
def y11_hasL : MethodName := ⟨Rc11, "hasL", "(JI)Z"⟩
def y11_hasLog : MethodName := ⟨Rc11, "hasLog", "(I)Z"⟩
def y11_hasNet : MethodName := ⟨Rc11, "hasNet", "(I)Z"⟩
def y11_hasRun : MethodName := ⟨Rc11, "hasRun", "(I)Z"⟩
def y11_image : MethodName := ⟨Rc11, "image", "(I)Z"⟩
def y11_in : MethodName := ⟨Rc11, "in", "(III)Z"⟩
def y11_interest : MethodName := ⟨Rc11, "interest", "(IIIII)V"⟩
def y11_is : MethodName := ⟨Rc11, "is", "(II)Z"⟩
def y11_isBeginning : MethodName := ⟨Rc11, "isBeginning", "(II)Z"⟩
def y11_isHidden : MethodName := ⟨Rc11, "isHidden", "(I)Z"⟩
def y11_isName : MethodName := ⟨Rc11, "isName", "(I)Z"⟩
def y11_isNode : MethodName := ⟨Rc11, "isNode", "(I)Z"⟩
def y11_isOf : MethodName := ⟨Rc11, "isOf", "(II)Z"⟩
def y11_isRoute : MethodName := ⟨Rc11, "isRoute", "(IIII)Z"⟩
def y11_isServed : MethodName := ⟨Rc11, "isServed", "(I)Z"⟩
def y11_isSo : MethodName := ⟨Rc11, "isSo", "()Z"⟩
def y11_isUp : MethodName := ⟨Rc11, "isUp", "(II)Z"⟩
def y11_joins : MethodName := ⟨Rc11, "joins", "(III)V"⟩
def y11_keep : MethodName := ⟨Rc11, "keep", "([III)V"⟩
def y11_keepLink : MethodName := ⟨Rc11, "keepLink", "()V"⟩
def y11_keepRow : MethodName := ⟨Rc11, "keepRow", "(IIII)V"⟩
def y11_lay : MethodName := ⟨Rc11, "lay", "(II)Z"⟩
def y11_layLinks : MethodName := ⟨Rc11, "layLinks", "(I)V"⟩
def y11_layState : MethodName := ⟨Rc11, "layState", "(III)Z"⟩
def y11_lesser : MethodName := ⟨Rc11, "lesser", "(II)I"⟩
def y11_lettersOf : MethodName := ⟨Rc11, "lettersOf", "(I)I"⟩
def y11_linkAt : MethodName := ⟨Rc11, "linkAt", "(II)I"⟩
def y11_links : MethodName := ⟨Rc11, "links", "()I"⟩
def y11_linksAt : MethodName := ⟨Rc11, "linksAt", "(I)I"⟩
def y11_logLine : MethodName := ⟨Rc11, "logLine", "(JI)Z"⟩
def y11_longestAt : MethodName := ⟨Rc11, "longestAt", "(II)I"⟩
def y11_makesEntry : MethodName := ⟨Rc11, "makesEntry", "(IIIII)V"⟩
def y11_mean : MethodName := ⟨Rc11, "mean", "(Z)I"⟩
def y11_moves : MethodName := ⟨Rc11, "moves", "(II)V"⟩
def y11_nackComes : MethodName := ⟨Rc11, "nackComes", "(IIII)V"⟩
def y11_nackTo : MethodName := ⟨Rc11, "nackTo", "(IIII)V"⟩
def y11_net : MethodName := ⟨Rc11, "net", "(II)I"⟩
def y11_netLine : MethodName := ⟨Rc11, "netLine", "(JI)Z"⟩
def y11_nextWay : MethodName := ⟨Rc11, "nextWay", "(III)I"⟩
def y11_noteFit : MethodName := ⟨Rc11, "noteFit", "(II)V"⟩
def y11_numberOf : MethodName := ⟨Rc11, "numberOf", "(J)I"⟩
def y11_ofAsk : MethodName := ⟨Rc11, "ofAsk", "(II)I"⟩
def y11_ofNet : MethodName := ⟨Rc11, "ofNet", "(I)I"⟩
def y11_ofPlace : MethodName := ⟨Rc11, "ofPlace", "(II)I"⟩
def y11_ofState : MethodName := ⟨Rc11, "ofState", "(I)I"⟩
def y11_ones : MethodName := ⟨Rc11, "ones", "(I)I"⟩
def y11_onesL : MethodName := ⟨Rc11, "onesL", "(J)I"⟩
def y11_play : MethodName := ⟨Rc11, "play", "(I)I"⟩
def y11_putsLast : MethodName := ⟨Rc11, "putsLast", "(IIII)V"⟩
def y11_readText : MethodName := ⟨Rc11, "readText", "(I)Z"⟩
def y11_refused : MethodName := ⟨Rc11, "refused", "(I)V"⟩
def y11_removes : MethodName := ⟨Rc11, "removes", "(II)V"⟩
def y11_routeAt : MethodName := ⟨Rc11, "routeAt", "(II)I"⟩
def y11_routes : MethodName := ⟨Rc11, "routes", "()I"⟩
def y11_rowsAt : MethodName := ⟨Rc11, "rowsAt", "(I)I"⟩
def y11_runLine : MethodName := ⟨Rc11, "runLine", "(JI)Z"⟩
def y11_see : MethodName := ⟨Rc11, "see", "()I"⟩
def y11_sends : MethodName := ⟨Rc11, "sends", "(IIIIII)V"⟩
def y11_serveAt : MethodName := ⟨Rc11, "serveAt", "(II)I"⟩
def y11_serveFor : MethodName := ⟨Rc11, "serveFor", "(II)I"⟩
def y11_serves : MethodName := ⟨Rc11, "serves", "()I"⟩
def y11_state : MethodName := ⟨Rc11, "state", "(IIII)I"⟩
def y11_stop : MethodName := ⟨Rc11, "stop", "(II)I"⟩
def y11_stored : MethodName := ⟨Rc11, "stored", "(IIIIII)I"⟩
def y11_storedAt : MethodName := ⟨Rc11, "storedAt", "(II)I"⟩
def y11_table : MethodName := ⟨Rc11, "table", "(III)I"⟩
def y11_take : MethodName := ⟨Rc11, "take", "(III)Z"⟩
def y11_takeBut : MethodName := ⟨Rc11, "takeBut", "(IIII)Z"⟩
def y11_takeName : MethodName := ⟨Rc11, "takeName", "(I)Z"⟩
def y11_takeNode : MethodName := ⟨Rc11, "takeNode", "(II)Z"⟩
def y11_takesOut : MethodName := ⟨Rc11, "takesOut", "(II)V"⟩
def y11_text : MethodName := ⟨Rc11, "text", "(II)I"⟩
def y11_token : MethodName := ⟨Rc11, "token", "()V"⟩
def y11_trail : MethodName := ⟨Rc11, "trail", "(IIII)I"⟩
def y11_waits : MethodName := ⟨Rc11, "waits", "(I)Z"⟩
def y11_walks : MethodName := ⟨Rc11, "walks", "(II)I"⟩
def y11_ways : MethodName := ⟨Rc11, "ways", "(IIIZ)I"⟩
def y11_why : MethodName := ⟨Rc11, "why", "(IIII)I"⟩
def yJInteger_bitCount : MethodName := ⟨"java/lang/Integer", "bitCount", "(I)I"⟩
def yJLong_bitCount : MethodName := ⟨"java/lang/Long", "bitCount", "(J)I"⟩
def yJMath_max : MethodName := ⟨"java/lang/Math", "max", "(II)I"⟩
def yJMath_min : MethodName := ⟨"java/lang/Math", "min", "(II)I"⟩
def yJObject_init : MethodName := ⟨"java/lang/Object", "<init>", "()V"⟩
def yJString_charAt : MethodName := ⟨"java/lang/String", "charAt", "(I)C"⟩
def yJString_checkIndex : MethodName := ⟨"java/lang/String", "checkIndex", "(II)V"⟩
def yJString_coder : MethodName := ⟨"java/lang/String", "coder", "()B"⟩
def yJString_isLatin1 : MethodName := ⟨"java/lang/String", "isLatin1", "()Z"⟩
def yJString_length : MethodName := ⟨"java/lang/String", "length", "()I"⟩
def yJStringLatin1_charAt : MethodName := ⟨"java/lang/StringLatin1", "charAt", "([BI)C"⟩
def yJStringUTF16_charAt : MethodName := ⟨"java/lang/StringUTF16", "charAt", "([BI)C"⟩
def yJStringUTF16_checkIndex : MethodName := ⟨"java/lang/StringUTF16", "checkIndex", "(I[B)V"⟩
def yJStringUTF16_getChar : MethodName := ⟨"java/lang/StringUTF16", "getChar", "([BI)C"⟩
def yJStringUTF16_length : MethodName := ⟨"java/lang/StringUTF16", "length", "([B)I"⟩
def yJArrays_fill_IIV : MethodName := ⟨"java/util/Arrays", "fill", "([II)V"⟩
def yJArrays_fill_JJV : MethodName := ⟨"java/util/Arrays", "fill", "([JJ)V"⟩
def yJPreconditions_checkIndex : MethodName := ⟨"jdk/internal/util/Preconditions", "checkIndex", "(IILjava/util/function/BiFunction;)I"⟩
def MKk (kind : Nat) (y : MethodName) (b : ByteArray) (nL : Nat) (ret : Option FieldType) (n : Nat) : Prop := Cond.code y b nL ret ∈ lw_g ∧ Cond.initialized y.cls ∈ lw_g ∧ (y.cls ≠ "java/lang/invoke/MethodHandle" ∧ y.cls ≠ "java/lang/invoke/VarHandle" ∧ (parseMethodDescriptor y.desc).map (fun d => d.parameters.length) = some n) ∧ nL ≤ 21 ∧ (match kind with
  | 0 => Cond.instanceMethod y ∈ lw_g ∧ Cond.selects y.cls y y ∈ lw_g
  | 1 => Cond.static y ∈ lw_g
  | _ => y.name = "<init>" ∧ Cond.instanceMethod y ∈ lw_g)
theorem MKk.link {kind : Nat} {y : MethodName} {b : ByteArray} {nL : Nat} {ret : Option FieldType} {n : Nat} (h : MKk kind y b nL ret n) {own : String} {idx : Nat} (hl : Cond.methodLink own idx y ∈ lw_g ∨ ∃ host, Cond.methodLinkNest own idx y host ∈ lw_tbl) : MLk kind own idx y b nL ret n := ⟨h.1, h.2.1, hl, h.2.2.1, h.2.2.2.1, h.2.2.2.2⟩
set_option maxRecDepth 100000 in
theorem ini0 : Cond.initialized Rc0 ∈ lw_g := in_c1 1 rfl rfl
set_option maxRecDepth 100000 in
theorem ini1 : Cond.initialized Rc1 ∈ lw_g := in_c1 2 rfl rfl
set_option maxRecDepth 100000 in
theorem ini2 : Cond.initialized Rc2 ∈ lw_g := in_c1 3 rfl rfl
set_option maxRecDepth 100000 in
theorem ini3 : Cond.initialized Rc3 ∈ lw_g := in_c1 4 rfl rfl
set_option maxRecDepth 100000 in
theorem ini4 : Cond.initialized Rc4 ∈ lw_g := in_c1 5 rfl rfl
set_option maxRecDepth 100000 in
theorem ini5 : Cond.initialized Rc5 ∈ lw_g := in_c1 6 rfl rfl
set_option maxRecDepth 100000 in
theorem ini6 : Cond.initialized Rc6 ∈ lw_g := in_c1 9 rfl rfl
set_option maxRecDepth 100000 in
theorem ini7 : Cond.initialized Rc7 ∈ lw_g := in_c1 8 rfl rfl
set_option maxRecDepth 100000 in
theorem ini8 : Cond.initialized Rc8 ∈ lw_g := in_c1 10 rfl rfl
set_option maxRecDepth 100000 in
theorem ini9 : Cond.initialized Rc9 ∈ lw_g := in_c1 11 rfl rfl
set_option maxRecDepth 100000 in
theorem ini10 : Cond.initialized Rc10 ∈ lw_g := in_c1 7 rfl rfl
set_option maxRecDepth 100000 in
theorem ini11 : Cond.initialized Rc11 ∈ lw_g := in_c1 12 rfl rfl
set_option maxRecDepth 100000 in
theorem fl0_10 : FLc Rc0 10 0 0 4 := ⟨⟨Rc0, Tc0, 8, ck0, by decide, Or.inl (in_c3 40 rfl rfl)⟩, by decide +kernel⟩
set_option maxRecDepth 100000 in
theorem fl0_10r : FLc Rc0 10 12 0 2 := ⟨⟨Rc0, Tc0, 8, ck12, by decide, Or.inl (in_c3 40 rfl rfl)⟩, by decide +kernel⟩
set_option maxRecDepth 100000 in
theorem fl0_16 : FLc Rc0 16 0 1 50 := ⟨⟨Rc0, Tc0, 8, ck0, by decide, Or.inl (in_c3 41 rfl rfl)⟩, by decide +kernel⟩
set_option maxRecDepth 100000 in
theorem fl0_16r : FLc Rc0 16 12 1 2 := ⟨⟨Rc0, Tc0, 8, ck12, by decide, Or.inl (in_c3 41 rfl rfl)⟩, by decide +kernel⟩
set_option maxRecDepth 100000 in
theorem fl0_20 : FLc Rc0 20 0 2 189 := ⟨⟨Rc0, Tc0, 8, ck0, by decide, Or.inl (in_c3 42 rfl rfl)⟩, by decide +kernel⟩
set_option maxRecDepth 100000 in
theorem fl0_20r : FLc Rc0 20 12 2 2 := ⟨⟨Rc0, Tc0, 8, ck12, by decide, Or.inl (in_c3 42 rfl rfl)⟩, by decide +kernel⟩
set_option maxRecDepth 100000 in
theorem fl0_27 : FLc Rc0 27 0 3 190 := ⟨⟨Rc0, Tc0, 8, ck0, by decide, Or.inl (in_c3 43 rfl rfl)⟩, by decide +kernel⟩
set_option maxRecDepth 100000 in
theorem fl0_27r : FLc Rc0 27 12 3 2 := ⟨⟨Rc0, Tc0, 8, ck12, by decide, Or.inl (in_c3 43 rfl rfl)⟩, by decide +kernel⟩
set_option maxRecDepth 100000 in
theorem fl0_34 : FLc Rc0 34 0 4 213 := ⟨⟨Rc0, Tc0, 8, ck0, by decide, Or.inl (in_c3 44 rfl rfl)⟩, by decide +kernel⟩
set_option maxRecDepth 100000 in
theorem fl0_34r : FLc Rc0 34 12 4 2 := ⟨⟨Rc0, Tc0, 8, ck12, by decide, Or.inl (in_c3 44 rfl rfl)⟩, by decide +kernel⟩
set_option maxRecDepth 100000 in
theorem fl0_38 : FLc Rc0 38 0 5 1040 := ⟨⟨Rc0, Tc0, 8, ck0, by decide, Or.inl (in_c3 45 rfl rfl)⟩, by decide +kernel⟩
set_option maxRecDepth 100000 in
theorem fl0_38r : FLc Rc0 38 12 5 2 := ⟨⟨Rc0, Tc0, 8, ck12, by decide, Or.inl (in_c3 45 rfl rfl)⟩, by decide +kernel⟩
set_option maxRecDepth 100000 in
theorem fl0_42 : FLc Rc0 42 0 6 1041 := ⟨⟨Rc0, Tc0, 8, ck0, by decide, Or.inl (in_c3 46 rfl rfl)⟩, by decide +kernel⟩
set_option maxRecDepth 100000 in
theorem fl0_42r : FLc Rc0 42 12 6 2 := ⟨⟨Rc0, Tc0, 8, ck12, by decide, Or.inl (in_c3 46 rfl rfl)⟩, by decide +kernel⟩
set_option maxRecDepth 100000 in
theorem fl0_45 : FLc Rc0 45 0 7 1042 := ⟨⟨Rc0, Tc0, 8, ck0, by decide, Or.inl (in_c3 47 rfl rfl)⟩, by decide +kernel⟩
set_option maxRecDepth 100000 in
theorem fl0_45r : FLc Rc0 45 12 7 2 := ⟨⟨Rc0, Tc0, 8, ck12, by decide, Or.inl (in_c3 47 rfl rfl)⟩, by decide +kernel⟩
set_option maxRecDepth 100000 in
theorem fl0_48 : FLc Rc0 48 1 1 0 := ⟨⟨Rc1, Tc1, 8, ck1, by decide, Or.inr ⟨"AskedNames", in_k1 178 rfl⟩⟩, by decide +kernel⟩
set_option maxRecDepth 100000 in
theorem mk1_append : MKk 0 y1_append prog_11_method_2_code 3 none 1 := ⟨in_c3 72 rfl rfl, ini1, ⟨by decide +kernel, by decide +kernel, by decide +kernel⟩, by decide, ⟨in_c3 70 rfl rfl, in_c3 71 rfl rfl⟩⟩
set_option maxRecDepth 100000 in
theorem ml0_52 : MLk 0 Rc0 52 y1_append prog_11_method_2_code 3 none 1 := mk1_append.link (Or.inl (in_c3 69 rfl rfl))
theorem fp0_48 : FPc Rc0 48 1 1 0 (.int) := ⟨fl0_48.1, fun C T N h => by cases h; exact ⟨rfl, by decide +kernel⟩, fl0_48.2⟩
set_option maxRecDepth 100000 in
theorem fl0_56 : FLc Rc0 56 1 2 0 := ⟨⟨Rc1, Tc1, 8, ck1, by decide, Or.inr ⟨"AskedNames", in_k1 180 rfl⟩⟩, by decide +kernel⟩
theorem fp0_56 : FPc Rc0 56 1 2 0 (.int) := ⟨fl0_56.1, fun C T N h => by cases h; exact ⟨rfl, by decide +kernel⟩, fl0_56.2⟩
set_option maxRecDepth 100000 in
theorem fl0_59 : FLc Rc0 59 1 3 0 := ⟨⟨Rc1, Tc1, 8, ck1, by decide, Or.inr ⟨"AskedNames", in_k1 182 rfl⟩⟩, by decide +kernel⟩
theorem fp0_59 : FPc Rc0 59 1 3 0 (.int) := ⟨fl0_59.1, fun C T N h => by cases h; exact ⟨rfl, by decide +kernel⟩, fl0_59.2⟩
set_option maxRecDepth 100000 in
theorem fl0_62 : FLc Rc0 62 1 4 5 := ⟨⟨Rc1, Tc1, 8, ck1, by decide, Or.inr ⟨"AskedNames", in_k1 184 rfl⟩⟩, by decide +kernel⟩
set_option maxRecDepth 100000 in
theorem fl0_65 : FLc Rc0 65 1 0 4 := ⟨⟨Rc1, Tc1, 8, ck1, by decide, Or.inr ⟨"AskedNames", in_k1 176 rfl⟩⟩, by decide +kernel⟩
set_option maxRecDepth 100000 in
theorem mk5_read : MKk 0 y5_read prog_8_method_2_code 5 none 3 := ⟨in_c3 84 rfl rfl, ini5, ⟨by decide +kernel, by decide +kernel, by decide +kernel⟩, by decide, ⟨in_c3 82 rfl rfl, in_c3 83 rfl rfl⟩⟩
set_option maxRecDepth 100000 in
theorem ml0_69 : MLk 0 Rc0 69 y5_read prog_8_method_2_code 5 none 3 := mk5_read.link (Or.inl (in_c3 81 rfl rfl))
set_option maxRecDepth 100000 in
theorem fl0_73 : FLc Rc0 73 5 12 0 := ⟨⟨Rc5, Tc5, 14, ck5, by decide, Or.inr ⟨"AskedNames", in_k1 237 rfl⟩⟩, by decide +kernel⟩
set_option maxRecDepth 100000 in
theorem fl0_74 : FLc Rc0 74 5 13 0 := ⟨⟨Rc5, Tc5, 14, ck5, by decide, Or.inr ⟨"AskedNames", in_k1 239 rfl⟩⟩, by decide +kernel⟩
set_option maxRecDepth 100000 in
theorem mk1_put : MKk 0 y1_put prog_11_method_3_code 4 none 3 := ⟨in_c4 8 rfl rfl, ini1, ⟨by decide +kernel, by decide +kernel, by decide +kernel⟩, by decide, ⟨in_c4 6 rfl rfl, in_c4 7 rfl rfl⟩⟩
set_option maxRecDepth 100000 in
theorem ml0_75 : MLk 0 Rc0 75 y1_put prog_11_method_3_code 4 none 3 := mk1_put.link (Or.inl (in_c4 5 rfl rfl))
set_option maxRecDepth 100000 in
theorem mk0_netAt : MKk 0 y0_netAt prog_1_method_26_code 2 (some (.object "AskedNames$Net")) 1 := ⟨in_c4 38 rfl rfl, ini0, ⟨by decide +kernel, by decide +kernel, by decide +kernel⟩, by decide, ⟨in_c4 37 rfl rfl, in_g 11 (by decide +kernel) (by decide +kernel)⟩⟩
set_option maxRecDepth 100000 in
theorem ml0_79 : MLk 0 Rc0 79 y0_netAt prog_1_method_26_code 2 (some (.object "AskedNames$Net")) 1 := mk0_netAt.link (Or.inl (in_c4 35 rfl rfl))
set_option maxRecDepth 100000 in
theorem fl0_83 : FLc Rc0 83 2 0 0 := ⟨⟨Rc2, Tc2, 17, ck2, by decide, Or.inr ⟨"AskedNames", in_k1 45 rfl⟩⟩, by decide +kernel⟩
set_option maxRecDepth 100000 in
theorem fl0_88 : FLc Rc0 88 2 1 0 := ⟨⟨Rc2, Tc2, 17, ck2, by decide, Or.inr ⟨"AskedNames", in_k1 48 rfl⟩⟩, by decide +kernel⟩
set_option maxRecDepth 100000 in
theorem fl0_91 : FLc Rc0 91 2 2 0 := ⟨⟨Rc2, Tc2, 17, ck2, by decide, Or.inr ⟨"AskedNames", in_k1 52 rfl⟩⟩, by decide +kernel⟩
set_option maxRecDepth 100000 in
theorem fl0_94 : FLc Rc0 94 2 3 0 := ⟨⟨Rc2, Tc2, 17, ck2, by decide, Or.inr ⟨"AskedNames", in_k1 56 rfl⟩⟩, by decide +kernel⟩
set_option maxRecDepth 100000 in
theorem fl0_97 : FLc Rc0 97 2 4 0 := ⟨⟨Rc2, Tc2, 17, ck2, by decide, Or.inr ⟨"AskedNames", in_k1 59 rfl⟩⟩, by decide +kernel⟩
set_option maxRecDepth 100000 in
theorem mk2_ofServe : MKk 0 y2_ofServe prog_7_method_11_code 3 (some (.int)) 1 := ⟨in_c4 42 rfl rfl, ini2, ⟨by decide +kernel, by decide +kernel, by decide +kernel⟩, by decide, ⟨in_c4 40 rfl rfl, in_c4 41 rfl rfl⟩⟩
set_option maxRecDepth 100000 in
theorem ml0_100 : MLk 0 Rc0 100 y2_ofServe prog_7_method_11_code 3 (some (.int)) 1 := mk2_ofServe.link (Or.inl (in_c4 39 rfl rfl))
set_option maxRecDepth 100000 in
theorem mk2_ofRoute : MKk 0 y2_ofRoute prog_7_method_10_code 3 (some (.int)) 1 := ⟨in_c4 46 rfl rfl, ini2, ⟨by decide +kernel, by decide +kernel, by decide +kernel⟩, by decide, ⟨in_c4 44 rfl rfl, in_c4 45 rfl rfl⟩⟩
set_option maxRecDepth 100000 in
theorem ml0_104 : MLk 0 Rc0 104 y2_ofRoute prog_7_method_10_code 3 (some (.int)) 1 := mk2_ofRoute.link (Or.inl (in_c4 43 rfl rfl))
set_option maxRecDepth 100000 in
theorem mk2_ofPair : MKk 0 y2_ofPair prog_7_method_9_code 5 (some (.int)) 1 := ⟨in_c4 50 rfl rfl, ini2, ⟨by decide +kernel, by decide +kernel, by decide +kernel⟩, by decide, ⟨in_c4 48 rfl rfl, in_c4 49 rfl rfl⟩⟩
set_option maxRecDepth 100000 in
theorem ml0_107 : MLk 0 Rc0 107 y2_ofPair prog_7_method_9_code 5 (some (.int)) 1 := mk2_ofPair.link (Or.inl (in_c4 47 rfl rfl))
set_option maxRecDepth 100000 in
theorem fl0_110 : FLc Rc0 110 2 5 4 := ⟨⟨Rc2, Tc2, 17, ck2, by decide, Or.inr ⟨"AskedNames", in_k1 63 rfl⟩⟩, by decide +kernel⟩
set_option maxRecDepth 100000 in
theorem mk0_runAt : MKk 0 y0_runAt prog_1_method_27_code 2 (some (.object "AskedNames$Run")) 1 := ⟨in_c4 62 rfl rfl, ini0, ⟨by decide +kernel, by decide +kernel, by decide +kernel⟩, by decide, ⟨in_c4 61 rfl rfl, in_g 12 (by decide +kernel) (by decide +kernel)⟩⟩
set_option maxRecDepth 100000 in
theorem ml0_113 : MLk 0 Rc0 113 y0_runAt prog_1_method_27_code 2 (some (.object "AskedNames$Run")) 1 := mk0_runAt.link (Or.inl (in_c4 59 rfl rfl))
set_option maxRecDepth 100000 in
theorem fl0_117 : FLc Rc0 117 3 0 0 := ⟨⟨Rc3, Tc3, 4, ck3, by decide, Or.inr ⟨"AskedNames", in_k1 135 rfl⟩⟩, by decide +kernel⟩
set_option maxRecDepth 100000 in
theorem fl0_122 : FLc Rc0 122 3 1 4 := ⟨⟨Rc3, Tc3, 4, ck3, by decide, Or.inr ⟨"AskedNames", in_k1 138 rfl⟩⟩, by decide +kernel⟩
set_option maxRecDepth 100000 in
theorem fl0_125 : FLc Rc0 125 3 2 5 := ⟨⟨Rc3, Tc3, 4, ck3, by decide, Or.inr ⟨"AskedNames", in_k1 141 rfl⟩⟩, by decide +kernel⟩
set_option maxRecDepth 100000 in
theorem fl0_128 : FLc Rc0 128 3 3 6 := ⟨⟨Rc3, Tc3, 4, ck3, by decide, Or.inr ⟨"AskedNames", in_k1 144 rfl⟩⟩, by decide +kernel⟩
set_option maxRecDepth 100000 in
theorem mk10_replay : MKk 0 y10_replay prog_2_method_3_code 6 (some (.int)) 4 := ⟨in_c4 70 rfl rfl, ini10, ⟨by decide +kernel, by decide +kernel, by decide +kernel⟩, by decide, ⟨in_c4 68 rfl rfl, in_c4 69 rfl rfl⟩⟩
set_option maxRecDepth 100000 in
theorem ml0_131 : MLk 0 Rc0 131 y10_replay prog_2_method_3_code 6 (some (.int)) 4 := mk10_replay.link (Or.inl (in_c4 67 rfl rfl))
set_option maxRecDepth 100000 in
theorem mk10_look : MKk 0 y10_look prog_2_method_34_code 4 (some (.int)) 1 := ⟨in_c4 228 rfl rfl, ini10, ⟨by decide +kernel, by decide +kernel, by decide +kernel⟩, by decide, ⟨in_c4 226 rfl rfl, in_c4 227 rfl rfl⟩⟩
set_option maxRecDepth 100000 in
theorem ml0_135 : MLk 0 Rc0 135 y10_look prog_2_method_34_code 4 (some (.int)) 1 := mk10_look.link (Or.inl (in_c4 225 rfl rfl))
set_option maxRecDepth 100000 in
theorem mk2_hasNode : MKk 0 y2_hasNode prog_7_method_7_code 2 (some (.boolean)) 1 := ⟨in_c4 54 rfl rfl, ini2, ⟨by decide +kernel, by decide +kernel, by decide +kernel⟩, by decide, ⟨in_c4 52 rfl rfl, in_c4 53 rfl rfl⟩⟩
set_option maxRecDepth 100000 in
theorem ml0_138 : MLk 0 Rc0 138 y2_hasNode prog_7_method_7_code 2 (some (.boolean)) 1 := mk2_hasNode.link (Or.inl (in_c5 9 rfl rfl))
set_option maxRecDepth 100000 in
theorem fl0_142 : FLc Rc0 142 10 13 23 := ⟨⟨Rc10, Tc10, 16, ck10, by decide, Or.inr ⟨"AskedNames", in_k3 2 rfl⟩⟩, by decide +kernel⟩
set_option maxRecDepth 100000 in
theorem fl0_146 : FLc Rc0 146 8 0 0 := ⟨⟨Rc8, Tc8, 4, ck8, by decide, Or.inr ⟨"AskedNames", in_k2 169 rfl⟩⟩, by decide +kernel⟩
set_option maxRecDepth 100000 in
theorem fl0_151 : FLc Rc0 151 8 1 4 := ⟨⟨Rc8, Tc8, 4, ck8, by decide, Or.inr ⟨"AskedNames", in_k2 171 rfl⟩⟩, by decide +kernel⟩
set_option maxRecDepth 100000 in
theorem fl0_154 : FLc Rc0 154 8 2 5 := ⟨⟨Rc8, Tc8, 4, ck8, by decide, Or.inr ⟨"AskedNames", in_k2 174 rfl⟩⟩, by decide +kernel⟩
set_option maxRecDepth 100000 in
theorem fl0_157 : FLc Rc0 157 8 3 6 := ⟨⟨Rc8, Tc8, 4, ck8, by decide, Or.inr ⟨"AskedNames", in_k2 177 rfl⟩⟩, by decide +kernel⟩
set_option maxRecDepth 100000 in
theorem mk10_entryAt : MKk 0 y10_entryAt prog_2_method_32_code 5 (some (.object "AskedNames$Entry")) 2 := ⟨in_c5 17 rfl rfl, ini10, ⟨by decide +kernel, by decide +kernel, by decide +kernel⟩, by decide, ⟨in_c5 15 rfl rfl, in_c5 16 rfl rfl⟩⟩
set_option maxRecDepth 100000 in
theorem ml0_160 : MLk 0 Rc0 160 y10_entryAt prog_2_method_32_code 5 (some (.object "AskedNames$Entry")) 2 := mk10_entryAt.link (Or.inl (in_c5 14 rfl rfl))
set_option maxRecDepth 100000 in
theorem mk6_look : MKk 0 y6_look prog_3_method_3_code 2 (some (.int)) 1 := ⟨in_c5 21 rfl rfl, ini6, ⟨by decide +kernel, by decide +kernel, by decide +kernel⟩, by decide, ⟨in_c5 19 rfl rfl, in_c5 20 rfl rfl⟩⟩
set_option maxRecDepth 100000 in
theorem ml0_164 : MLk 0 Rc0 164 y6_look prog_3_method_3_code 2 (some (.int)) 1 := mk6_look.link (Or.inl (in_c5 18 rfl rfl))
set_option maxRecDepth 100000 in
theorem mk3_asks : MKk 0 y3_asks prog_9_method_4_code 2 (some (.boolean)) 1 := ⟨in_c5 30 rfl rfl, ini3, ⟨by decide +kernel, by decide +kernel, by decide +kernel⟩, by decide, ⟨in_c5 28 rfl rfl, in_c5 29 rfl rfl⟩⟩
set_option maxRecDepth 100000 in
theorem ml0_167 : MLk 0 Rc0 167 y3_asks prog_9_method_4_code 2 (some (.boolean)) 1 := mk3_asks.link (Or.inl (in_c5 27 rfl rfl))
set_option maxRecDepth 100000 in
theorem fl0_170 : FLc Rc0 170 10 14 24 := ⟨⟨Rc10, Tc10, 16, ck10, by decide, Or.inr ⟨"AskedNames", in_k3 4 rfl⟩⟩, by decide +kernel⟩
set_option maxRecDepth 100000 in
theorem mk9_look : MKk 0 y9_look prog_4_method_3_code 2 (some (.int)) 1 := ⟨in_c5 34 rfl rfl, ini9, ⟨by decide +kernel, by decide +kernel, by decide +kernel⟩, by decide, ⟨in_c5 32 rfl rfl, in_c5 33 rfl rfl⟩⟩
set_option maxRecDepth 100000 in
theorem ml0_174 : MLk 0 Rc0 174 y9_look prog_4_method_3_code 2 (some (.int)) 1 := mk9_look.link (Or.inl (in_c5 31 rfl rfl))
set_option maxRecDepth 100000 in
theorem mk0_isName : MKk 1 y0_isName prog_1_method_35_code 3 (some (.boolean)) 1 := ⟨in_c5 41 rfl rfl, ini0, ⟨by decide +kernel, by decide +kernel, by decide +kernel⟩, by decide, in_c5 40 rfl rfl⟩
set_option maxRecDepth 100000 in
theorem ml0_177 : MLk 1 Rc0 177 y0_isName prog_1_method_35_code 3 (some (.boolean)) 1 := mk0_isName.link (Or.inl (in_c5 39 rfl rfl))
set_option maxRecDepth 100000 in
theorem mk10_askAlone : MKk 0 y10_askAlone prog_2_method_5_code 6 none 4 := ⟨in_c5 45 rfl rfl, ini10, ⟨by decide +kernel, by decide +kernel, by decide +kernel⟩, by decide, ⟨in_c5 43 rfl rfl, in_c5 44 rfl rfl⟩⟩
set_option maxRecDepth 100000 in
theorem ml0_180 : MLk 0 Rc0 180 y10_askAlone prog_2_method_5_code 6 none 4 := mk10_askAlone.link (Or.inl (in_c5 42 rfl rfl))
set_option maxRecDepth 100000 in
theorem fl0_184 : FLc Rc0 184 10 15 25 := ⟨⟨Rc10, Tc10, 16, ck10, by decide, Or.inr ⟨"AskedNames", in_k3 6 rfl⟩⟩, by decide +kernel⟩
set_option maxRecDepth 100000 in
theorem mk2_rowsAt : MKk 0 y2_rowsAt prog_7_method_16_code 6 (some (.int)) 1 := ⟨in_c5 53 rfl rfl, ini2, ⟨by decide +kernel, by decide +kernel, by decide +kernel⟩, by decide, ⟨in_c5 51 rfl rfl, in_c5 52 rfl rfl⟩⟩
set_option maxRecDepth 100000 in
theorem ml0_187 : MLk 0 Rc0 187 y2_rowsAt prog_7_method_16_code 6 (some (.int)) 1 := mk2_rowsAt.link (Or.inl (in_c5 50 rfl rfl))
set_option maxRecDepth 100000 in
theorem mk2_routesAt : MKk 0 y2_routesAt prog_7_method_15_code 4 (some (.int)) 1 := ⟨in_c5 64 rfl rfl, ini2, ⟨by decide +kernel, by decide +kernel, by decide +kernel⟩, by decide, ⟨in_c5 62 rfl rfl, in_c5 63 rfl rfl⟩⟩
set_option maxRecDepth 100000 in
theorem ml0_190 : MLk 0 Rc0 190 y2_routesAt prog_7_method_15_code 4 (some (.int)) 1 := mk2_routesAt.link (Or.inl (in_c5 61 rfl rfl))
set_option maxRecDepth 100000 in
theorem mk2_routed : MKk 0 y2_routed prog_7_method_12_code 6 (some (.int)) 2 := ⟨in_c4 171 rfl rfl, ini2, ⟨by decide +kernel, by decide +kernel, by decide +kernel⟩, by decide, ⟨in_c4 169 rfl rfl, in_c4 170 rfl rfl⟩⟩
set_option maxRecDepth 100000 in
theorem ml0_193 : MLk 0 Rc0 193 y2_routed prog_7_method_12_code 6 (some (.int)) 2 := mk2_routed.link (Or.inl (in_c5 69 rfl rfl))
set_option maxRecDepth 100000 in
theorem mk0_lettersOf : MKk 1 y0_lettersOf prog_1_method_36_code 4 (some (.int)) 1 := ⟨in_c5 72 rfl rfl, ini0, ⟨by decide +kernel, by decide +kernel, by decide +kernel⟩, by decide, in_c5 71 rfl rfl⟩
set_option maxRecDepth 100000 in
theorem ml0_197 : MLk 1 Rc0 197 y0_lettersOf prog_1_method_36_code 4 (some (.int)) 1 := mk0_lettersOf.link (Or.inl (in_c5 70 rfl rfl))
set_option maxRecDepth 100000 in
theorem mk2_waysFor : MKk 0 y2_waysFor prog_7_method_13_code 6 (some (.int)) 2 := ⟨in_c5 76 rfl rfl, ini2, ⟨by decide +kernel, by decide +kernel, by decide +kernel⟩, by decide, ⟨in_c5 74 rfl rfl, in_c5 75 rfl rfl⟩⟩
set_option maxRecDepth 100000 in
theorem ml0_200 : MLk 0 Rc0 200 y2_waysFor prog_7_method_13_code 6 (some (.int)) 2 := mk2_waysFor.link (Or.inl (in_c5 73 rfl rfl))
set_option maxRecDepth 100000 in
theorem mk10_begin : MKk 0 y10_begin prog_2_method_2_code 4 none 2 := ⟨in_c4 74 rfl rfl, ini10, ⟨by decide +kernel, by decide +kernel, by decide +kernel⟩, by decide, ⟨in_c4 72 rfl rfl, in_c4 73 rfl rfl⟩⟩
set_option maxRecDepth 100000 in
theorem ml0_203 : MLk 0 Rc0 203 y10_begin prog_2_method_2_code 4 none 2 := mk10_begin.link (Or.inl (in_c5 82 rfl rfl))
set_option maxRecDepth 100000 in
theorem mk10_bestWay : MKk 0 y10_bestWay prog_2_method_17_code 12 (some (.int)) 3 := ⟨in_c4 167 rfl rfl, ini10, ⟨by decide +kernel, by decide +kernel, by decide +kernel⟩, by decide, ⟨in_c4 165 rfl rfl, in_c4 166 rfl rfl⟩⟩
set_option maxRecDepth 100000 in
theorem ml0_207 : MLk 0 Rc0 207 y10_bestWay prog_2_method_17_code 12 (some (.int)) 3 := mk10_bestWay.link (Or.inl (in_c5 83 rfl rfl))
set_option maxRecDepth 100000 in
theorem mk2_serving : MKk 0 y2_serving prog_7_method_14_code 6 (some (.int)) 2 := ⟨in_c4 107 rfl rfl, ini2, ⟨by decide +kernel, by decide +kernel, by decide +kernel⟩, by decide, ⟨in_c4 105 rfl rfl, in_c4 106 rfl rfl⟩⟩
set_option maxRecDepth 100000 in
theorem ml0_211 : MLk 0 Rc0 211 y2_serving prog_7_method_14_code 6 (some (.int)) 2 := mk2_serving.link (Or.inl (in_c5 84 rfl rfl))
set_option maxRecDepth 100000 in
theorem mkJArrays_fill_IIV : MKk 1 yJArrays_fill_IIV prog_21_method_103_code 4 none 2 := ⟨in_c3 91 rfl rfl, in_c1 13 rfl rfl, ⟨by decide +kernel, by decide +kernel, by decide +kernel⟩, by decide, in_c3 90 rfl rfl⟩
set_option maxRecDepth 100000 in
theorem ml0_214 : MLk 1 Rc0 214 yJArrays_fill_IIV prog_21_method_103_code 4 none 2 := mkJArrays_fill_IIV.link (Or.inl (in_c5 89 rfl rfl))
set_option maxRecDepth 100000 in
theorem fl0_220 : FLc Rc0 220 2 6 5 := ⟨⟨Rc2, Tc2, 17, ck2, by decide, Or.inr ⟨"AskedNames", in_k1 67 rfl⟩⟩, by decide +kernel⟩
set_option maxRecDepth 100000 in
theorem fl0_223 : FLc Rc0 223 2 7 6 := ⟨⟨Rc2, Tc2, 17, ck2, by decide, Or.inr ⟨"AskedNames", in_k1 69 rfl⟩⟩, by decide +kernel⟩
set_option maxRecDepth 100000 in
theorem fl0_226 : FLc Rc0 226 2 8 7 := ⟨⟨Rc2, Tc2, 17, ck2, by decide, Or.inr ⟨"AskedNames", in_k1 71 rfl⟩⟩, by decide +kernel⟩
set_option maxRecDepth 100000 in
theorem mk0_shorten : MKk 0 y0_shorten prog_1_method_29_code 4 none 3 := ⟨in_c5 93 rfl rfl, ini0, ⟨by decide +kernel, by decide +kernel, by decide +kernel⟩, by decide, ⟨in_c5 92 rfl rfl, in_g 39 (by decide +kernel) (by decide +kernel)⟩⟩
set_option maxRecDepth 100000 in
theorem ml0_229 : MLk 0 Rc0 229 y0_shorten prog_1_method_29_code 4 none 3 := mk0_shorten.link (Or.inl (in_c5 90 rfl rfl))
set_option maxRecDepth 100000 in
theorem mk0_logAt : MKk 0 y0_logAt prog_1_method_28_code 2 (some (.object "AskedNames$Log")) 1 := ⟨in_c5 101 rfl rfl, ini0, ⟨by decide +kernel, by decide +kernel, by decide +kernel⟩, by decide, ⟨in_c5 100 rfl rfl, in_g 40 (by decide +kernel) (by decide +kernel)⟩⟩
set_option maxRecDepth 100000 in
theorem ml0_233 : MLk 0 Rc0 233 y0_logAt prog_1_method_28_code 2 (some (.object "AskedNames$Log")) 1 := mk0_logAt.link (Or.inl (in_c5 98 rfl rfl))
set_option maxRecDepth 100000 in
theorem fl0_237 : FLc Rc0 237 4 0 0 := ⟨⟨Rc4, Tc4, 3, ck4, by decide, Or.inr ⟨"AskedNames", in_k1 163 rfl⟩⟩, by decide +kernel⟩
set_option maxRecDepth 100000 in
theorem fl0_242 : FLc Rc0 242 4 1 4 := ⟨⟨Rc4, Tc4, 3, ck4, by decide, Or.inr ⟨"AskedNames", in_k1 165 rfl⟩⟩, by decide +kernel⟩
set_option maxRecDepth 100000 in
theorem fl0_245 : FLc Rc0 245 4 2 5 := ⟨⟨Rc4, Tc4, 3, ck4, by decide, Or.inr ⟨"AskedNames", in_k1 167 rfl⟩⟩, by decide +kernel⟩
set_option maxRecDepth 100000 in
theorem mk0_agrees : MKk 0 y0_agrees prog_1_method_31_code 8 (some (.boolean)) 3 := ⟨in_c5 109 rfl rfl, ini0, ⟨by decide +kernel, by decide +kernel, by decide +kernel⟩, by decide, ⟨in_c5 108 rfl rfl, in_g 41 (by decide +kernel) (by decide +kernel)⟩⟩
set_option maxRecDepth 100000 in
theorem ml0_248 : MLk 0 Rc0 248 y0_agrees prog_1_method_31_code 8 (some (.boolean)) 3 := mk0_agrees.link (Or.inl (in_c5 106 rfl rfl))
set_option maxRecDepth 100000 in
theorem mk0_noteGot : MKk 0 y0_noteGot prog_1_method_32_code 4 none 2 := ⟨in_c5 117 rfl rfl, ini0, ⟨by decide +kernel, by decide +kernel, by decide +kernel⟩, by decide, ⟨in_c5 116 rfl rfl, in_g 43 (by decide +kernel) (by decide +kernel)⟩⟩
set_option maxRecDepth 100000 in
theorem ml0_252 : MLk 0 Rc0 252 y0_noteGot prog_1_method_32_code 4 none 2 := mk0_noteGot.link (Or.inl (in_c5 114 rfl rfl))
set_option maxRecDepth 100000 in
theorem mk0_tellingAsk : MKk 0 y0_tellingAsk prog_1_method_33_code 7 (some (.int)) 2 := ⟨in_c5 121 rfl rfl, ini0, ⟨by decide +kernel, by decide +kernel, by decide +kernel⟩, by decide, ⟨in_c5 120 rfl rfl, in_g 44 (by decide +kernel) (by decide +kernel)⟩⟩
set_option maxRecDepth 100000 in
theorem ml0_256 : MLk 0 Rc0 256 y0_tellingAsk prog_1_method_33_code 7 (some (.int)) 2 := mk0_tellingAsk.link (Or.inl (in_c5 118 rfl rfl))
set_option maxRecDepth 100000 in
theorem mk10_draw : MKk 0 y10_draw prog_2_method_6_code 6 none 3 := ⟨in_c5 130 rfl rfl, ini10, ⟨by decide +kernel, by decide +kernel, by decide +kernel⟩, by decide, ⟨in_c5 128 rfl rfl, in_c5 129 rfl rfl⟩⟩
set_option maxRecDepth 100000 in
theorem ml0_260 : MLk 0 Rc0 260 y10_draw prog_2_method_6_code 6 none 3 := mk10_draw.link (Or.inl (in_c5 127 rfl rfl))
set_option maxRecDepth 100000 in
theorem mk0_mean : MKk 0 y0_mean prog_1_method_34_code 10 (some (.int)) 3 := ⟨in_c5 151 rfl rfl, ini0, ⟨by decide +kernel, by decide +kernel, by decide +kernel⟩, by decide, ⟨in_c5 150 rfl rfl, in_g 48 (by decide +kernel) (by decide +kernel)⟩⟩
set_option maxRecDepth 100000 in
theorem ml0_264 : MLk 0 Rc0 264 y0_mean prog_1_method_34_code 10 (some (.int)) 3 := mk0_mean.link (Or.inl (in_c5 148 rfl rfl))
set_option maxRecDepth 100000 in
theorem mk2_serversAsBits : MKk 0 y2_serversAsBits prog_7_method_18_code 3 (some (.int)) 0 := ⟨in_c5 159 rfl rfl, ini2, ⟨by decide +kernel, by decide +kernel, by decide +kernel⟩, by decide, ⟨in_c5 157 rfl rfl, in_c5 158 rfl rfl⟩⟩
set_option maxRecDepth 100000 in
theorem ml0_268 : MLk 0 Rc0 268 y2_serversAsBits prog_7_method_18_code 3 (some (.int)) 0 := mk2_serversAsBits.link (Or.inl (in_c5 156 rfl rfl))
set_option maxRecDepth 100000 in
theorem mk2_leavesAsBits : MKk 0 y2_leavesAsBits prog_7_method_19_code 5 (some (.int)) 0 := ⟨in_c5 163 rfl rfl, ini2, ⟨by decide +kernel, by decide +kernel, by decide +kernel⟩, by decide, ⟨in_c5 161 rfl rfl, in_c5 162 rfl rfl⟩⟩
set_option maxRecDepth 100000 in
theorem ml0_272 : MLk 0 Rc0 272 y2_leavesAsBits prog_7_method_19_code 5 (some (.int)) 0 := mk2_leavesAsBits.link (Or.inl (in_c5 160 rfl rfl))
set_option maxRecDepth 100000 in
theorem mk2_blindAsBits : MKk 0 y2_blindAsBits prog_7_method_20_code 3 (some (.int)) 0 := ⟨in_c5 167 rfl rfl, ini2, ⟨by decide +kernel, by decide +kernel, by decide +kernel⟩, by decide, ⟨in_c5 165 rfl rfl, in_c5 166 rfl rfl⟩⟩
set_option maxRecDepth 100000 in
theorem ml0_275 : MLk 0 Rc0 275 y2_blindAsBits prog_7_method_20_code 3 (some (.int)) 0 := mk2_blindAsBits.link (Or.inl (in_c5 164 rfl rfl))
set_option maxRecDepth 100000 in
theorem mk2_hiddenAsBits : MKk 0 y2_hiddenAsBits prog_7_method_21_code 5 (some (.int)) 0 := ⟨in_c5 171 rfl rfl, ini2, ⟨by decide +kernel, by decide +kernel, by decide +kernel⟩, by decide, ⟨in_c5 169 rfl rfl, in_c5 170 rfl rfl⟩⟩
set_option maxRecDepth 100000 in
theorem ml0_278 : MLk 0 Rc0 278 y2_hiddenAsBits prog_7_method_21_code 5 (some (.int)) 0 := mk2_hiddenAsBits.link (Or.inl (in_c5 168 rfl rfl))
set_option maxRecDepth 100000 in
theorem mk2_servedAsBits : MKk 0 y2_servedAsBits prog_7_method_22_code 5 (some (.int)) 0 := ⟨in_c5 175 rfl rfl, ini2, ⟨by decide +kernel, by decide +kernel, by decide +kernel⟩, by decide, ⟨in_c5 173 rfl rfl, in_c5 174 rfl rfl⟩⟩
set_option maxRecDepth 100000 in
theorem ml0_281 : MLk 0 Rc0 281 y2_servedAsBits prog_7_method_22_code 5 (some (.int)) 0 := mk2_servedAsBits.link (Or.inl (in_c5 172 rfl rfl))
set_option maxRecDepth 100000 in
theorem mk1_copy : MKk 0 y1_copy prog_11_method_4_code 3 none 1 := ⟨in_c5 187 rfl rfl, ini1, ⟨by decide +kernel, by decide +kernel, by decide +kernel⟩, by decide, ⟨in_c5 185 rfl rfl, in_c5 186 rfl rfl⟩⟩
set_option maxRecDepth 100000 in
theorem ml0_284 : MLk 0 Rc0 284 y1_copy prog_11_method_4_code 3 none 1 := mk1_copy.link (Or.inl (in_c5 184 rfl rfl))
set_option maxRecDepth 100000 in
theorem fl0_288 : FLc Rc0 288 1 5 6 := ⟨⟨Rc1, Tc1, 8, ck1, by decide, Or.inr ⟨"AskedNames", in_k1 186 rfl⟩⟩, by decide +kernel⟩
set_option maxRecDepth 100000 in
theorem fl0_292 : FLc Rc0 292 1 6 33 := ⟨⟨Rc1, Tc1, 8, ck1, by decide, Or.inr ⟨"AskedNames", in_k1 188 rfl⟩⟩, by decide +kernel⟩
set_option maxRecDepth 100000 in
theorem fl0_296 : FLc Rc0 296 1 7 42 := ⟨⟨Rc1, Tc1, 8, ck1, by decide, Or.inr ⟨"AskedNames", in_k1 190 rfl⟩⟩, by decide +kernel⟩
set_option maxRecDepth 100000 in
theorem fl0_300 : FLc Rc0 300 9 0 0 := ⟨⟨Rc9, Tc9, 8, ck9, by decide, Or.inr ⟨"AskedNames", in_k2 195 rfl⟩⟩, by decide +kernel⟩
set_option maxRecDepth 100000 in
theorem mk0_got : MKk 0 y0_got prog_1_method_30_code 4 (some (.boolean)) 3 := ⟨in_c5 113 rfl rfl, ini0, ⟨by decide +kernel, by decide +kernel, by decide +kernel⟩, by decide, ⟨in_c5 112 rfl rfl, in_g 42 (by decide +kernel) (by decide +kernel)⟩⟩
set_option maxRecDepth 100000 in
theorem ml0_303 : MLk 0 Rc0 303 y0_got prog_1_method_30_code 4 (some (.boolean)) 3 := mk0_got.link (Or.inl (in_c5 110 rfl rfl))
set_option maxRecDepth 100000 in
theorem fl0_307 : FLc Rc0 307 9 2 0 := ⟨⟨Rc9, Tc9, 8, ck9, by decide, Or.inr ⟨"AskedNames", in_k2 200 rfl⟩⟩, by decide +kernel⟩
set_option maxRecDepth 100000 in
theorem mkJMath_max : MKk 1 yJMath_max prog_16_method_65_code 2 (some (.int)) 2 := ⟨in_c3 220 rfl rfl, in_c1 18 rfl rfl, ⟨by decide +kernel, by decide +kernel, by decide +kernel⟩, by decide, in_c3 219 rfl rfl⟩
set_option maxRecDepth 100000 in
theorem ml0_309 : MLk 1 Rc0 309 yJMath_max prog_16_method_65_code 2 (some (.int)) 2 := mkJMath_max.link (Or.inl (in_c5 122 rfl rfl))
set_option maxRecDepth 100000 in
theorem fl0_314 : FLc Rc0 314 9 1 0 := ⟨⟨Rc9, Tc9, 8, ck9, by decide, Or.inr ⟨"AskedNames", in_k2 197 rfl⟩⟩, by decide +kernel⟩
set_option maxRecDepth 100000 in
theorem fl11_7 : FLc Rc11 7 11 1 4 := ⟨⟨Rc11, Tc11, 87, ck11, by decide, Or.inl (in_c5 200 rfl rfl)⟩, by decide +kernel⟩
set_option maxRecDepth 100000 in
theorem fl11_7r : FLc Rc11 7 23 1 2 := ⟨⟨Rc11, Tc11, 87, ck23, by decide, Or.inl (in_c5 200 rfl rfl)⟩, by decide +kernel⟩
set_option maxRecDepth 100000 in
theorem fl11_13 : FLc Rc11 13 11 2 5 := ⟨⟨Rc11, Tc11, 87, ck11, by decide, Or.inl (in_c5 201 rfl rfl)⟩, by decide +kernel⟩
set_option maxRecDepth 100000 in
theorem fl11_13r : FLc Rc11 13 23 2 2 := ⟨⟨Rc11, Tc11, 87, ck23, by decide, Or.inl (in_c5 201 rfl rfl)⟩, by decide +kernel⟩
set_option maxRecDepth 100000 in
theorem fl11_17 : FLc Rc11 17 11 3 6 := ⟨⟨Rc11, Tc11, 87, ck11, by decide, Or.inl (in_c5 202 rfl rfl)⟩, by decide +kernel⟩
set_option maxRecDepth 100000 in
theorem fl11_17r : FLc Rc11 17 23 3 2 := ⟨⟨Rc11, Tc11, 87, ck23, by decide, Or.inl (in_c5 202 rfl rfl)⟩, by decide +kernel⟩
set_option maxRecDepth 100000 in
theorem fl11_20 : FLc Rc11 20 11 4 7 := ⟨⟨Rc11, Tc11, 87, ck11, by decide, Or.inl (in_c5 203 rfl rfl)⟩, by decide +kernel⟩
set_option maxRecDepth 100000 in
theorem fl11_20r : FLc Rc11 20 23 4 2 := ⟨⟨Rc11, Tc11, 87, ck23, by decide, Or.inl (in_c5 203 rfl rfl)⟩, by decide +kernel⟩
set_option maxRecDepth 100000 in
theorem fl11_23 : FLc Rc11 23 11 5 8 := ⟨⟨Rc11, Tc11, 87, ck11, by decide, Or.inl (in_c5 204 rfl rfl)⟩, by decide +kernel⟩
set_option maxRecDepth 100000 in
theorem fl11_23r : FLc Rc11 23 23 5 2 := ⟨⟨Rc11, Tc11, 87, ck23, by decide, Or.inl (in_c5 204 rfl rfl)⟩, by decide +kernel⟩
set_option maxRecDepth 100000 in
theorem fl11_26 : FLc Rc11 26 11 6 9 := ⟨⟨Rc11, Tc11, 87, ck11, by decide, Or.inl (in_c5 205 rfl rfl)⟩, by decide +kernel⟩
set_option maxRecDepth 100000 in
theorem fl11_26r : FLc Rc11 26 23 6 2 := ⟨⟨Rc11, Tc11, 87, ck23, by decide, Or.inl (in_c5 205 rfl rfl)⟩, by decide +kernel⟩
set_option maxRecDepth 100000 in
theorem fl11_29 : FLc Rc11 29 11 7 10 := ⟨⟨Rc11, Tc11, 87, ck11, by decide, Or.inl (in_c5 206 rfl rfl)⟩, by decide +kernel⟩
set_option maxRecDepth 100000 in
theorem fl11_29r : FLc Rc11 29 23 7 2 := ⟨⟨Rc11, Tc11, 87, ck23, by decide, Or.inl (in_c5 206 rfl rfl)⟩, by decide +kernel⟩
set_option maxRecDepth 100000 in
theorem fl11_32 : FLc Rc11 32 11 8 11 := ⟨⟨Rc11, Tc11, 87, ck11, by decide, Or.inl (in_c5 207 rfl rfl)⟩, by decide +kernel⟩
set_option maxRecDepth 100000 in
theorem fl11_32r : FLc Rc11 32 23 8 2 := ⟨⟨Rc11, Tc11, 87, ck23, by decide, Or.inl (in_c5 207 rfl rfl)⟩, by decide +kernel⟩
set_option maxRecDepth 100000 in
theorem fl11_35 : FLc Rc11 35 11 18 12 := ⟨⟨Rc11, Tc11, 87, ck11, by decide, Or.inl (in_c5 217 rfl rfl)⟩, by decide +kernel⟩
set_option maxRecDepth 100000 in
theorem fl11_35r : FLc Rc11 35 23 18 2 := ⟨⟨Rc11, Tc11, 87, ck23, by decide, Or.inl (in_c5 217 rfl rfl)⟩, by decide +kernel⟩
set_option maxRecDepth 100000 in
theorem fl11_38 : FLc Rc11 38 11 19 13 := ⟨⟨Rc11, Tc11, 87, ck11, by decide, Or.inl (in_c5 218 rfl rfl)⟩, by decide +kernel⟩
set_option maxRecDepth 100000 in
theorem fl11_38r : FLc Rc11 38 23 19 2 := ⟨⟨Rc11, Tc11, 87, ck23, by decide, Or.inl (in_c5 218 rfl rfl)⟩, by decide +kernel⟩
set_option maxRecDepth 100000 in
theorem fl11_41 : FLc Rc11 41 11 25 14 := ⟨⟨Rc11, Tc11, 87, ck11, by decide, Or.inl (in_c5 224 rfl rfl)⟩, by decide +kernel⟩
set_option maxRecDepth 100000 in
theorem fl11_41r : FLc Rc11 41 23 25 2 := ⟨⟨Rc11, Tc11, 87, ck23, by decide, Or.inl (in_c5 224 rfl rfl)⟩, by decide +kernel⟩
set_option maxRecDepth 100000 in
theorem fl11_44 : FLc Rc11 44 11 28 15 := ⟨⟨Rc11, Tc11, 87, ck11, by decide, Or.inl (in_c5 227 rfl rfl)⟩, by decide +kernel⟩
set_option maxRecDepth 100000 in
theorem fl11_44r : FLc Rc11 44 23 28 2 := ⟨⟨Rc11, Tc11, 87, ck23, by decide, Or.inl (in_c5 227 rfl rfl)⟩, by decide +kernel⟩
set_option maxRecDepth 100000 in
theorem fl11_48 : FLc Rc11 48 11 29 16 := ⟨⟨Rc11, Tc11, 87, ck11, by decide, Or.inl (in_c5 228 rfl rfl)⟩, by decide +kernel⟩
set_option maxRecDepth 100000 in
theorem fl11_48r : FLc Rc11 48 23 29 2 := ⟨⟨Rc11, Tc11, 87, ck23, by decide, Or.inl (in_c5 228 rfl rfl)⟩, by decide +kernel⟩
set_option maxRecDepth 100000 in
theorem fl11_51 : FLc Rc11 51 11 30 17 := ⟨⟨Rc11, Tc11, 87, ck11, by decide, Or.inl (in_c5 229 rfl rfl)⟩, by decide +kernel⟩
set_option maxRecDepth 100000 in
theorem fl11_51r : FLc Rc11 51 23 30 2 := ⟨⟨Rc11, Tc11, 87, ck23, by decide, Or.inl (in_c5 229 rfl rfl)⟩, by decide +kernel⟩
set_option maxRecDepth 100000 in
theorem fl11_54 : FLc Rc11 54 11 31 18 := ⟨⟨Rc11, Tc11, 87, ck11, by decide, Or.inl (in_c5 230 rfl rfl)⟩, by decide +kernel⟩
set_option maxRecDepth 100000 in
theorem fl11_54r : FLc Rc11 54 23 31 2 := ⟨⟨Rc11, Tc11, 87, ck23, by decide, Or.inl (in_c5 230 rfl rfl)⟩, by decide +kernel⟩
set_option maxRecDepth 100000 in
theorem fl11_57 : FLc Rc11 57 11 32 19 := ⟨⟨Rc11, Tc11, 87, ck11, by decide, Or.inl (in_c5 231 rfl rfl)⟩, by decide +kernel⟩
set_option maxRecDepth 100000 in
theorem fl11_57r : FLc Rc11 57 23 32 2 := ⟨⟨Rc11, Tc11, 87, ck23, by decide, Or.inl (in_c5 231 rfl rfl)⟩, by decide +kernel⟩
set_option maxRecDepth 100000 in
theorem fl11_60 : FLc Rc11 60 11 33 20 := ⟨⟨Rc11, Tc11, 87, ck11, by decide, Or.inl (in_c5 232 rfl rfl)⟩, by decide +kernel⟩
set_option maxRecDepth 100000 in
theorem fl11_60r : FLc Rc11 60 23 33 2 := ⟨⟨Rc11, Tc11, 87, ck23, by decide, Or.inl (in_c5 232 rfl rfl)⟩, by decide +kernel⟩
set_option maxRecDepth 100000 in
theorem fl11_63 : FLc Rc11 63 11 34 21 := ⟨⟨Rc11, Tc11, 87, ck11, by decide, Or.inl (in_c5 233 rfl rfl)⟩, by decide +kernel⟩
set_option maxRecDepth 100000 in
theorem fl11_63r : FLc Rc11 63 23 34 2 := ⟨⟨Rc11, Tc11, 87, ck23, by decide, Or.inl (in_c5 233 rfl rfl)⟩, by decide +kernel⟩
set_option maxRecDepth 100000 in
theorem fl11_66 : FLc Rc11 66 11 35 22 := ⟨⟨Rc11, Tc11, 87, ck11, by decide, Or.inl (in_c5 234 rfl rfl)⟩, by decide +kernel⟩
set_option maxRecDepth 100000 in
theorem fl11_66r : FLc Rc11 66 23 35 2 := ⟨⟨Rc11, Tc11, 87, ck23, by decide, Or.inl (in_c5 234 rfl rfl)⟩, by decide +kernel⟩
set_option maxRecDepth 100000 in
theorem fl11_69 : FLc Rc11 69 11 36 23 := ⟨⟨Rc11, Tc11, 87, ck11, by decide, Or.inl (in_c5 235 rfl rfl)⟩, by decide +kernel⟩
set_option maxRecDepth 100000 in
theorem fl11_69r : FLc Rc11 69 23 36 2 := ⟨⟨Rc11, Tc11, 87, ck23, by decide, Or.inl (in_c5 235 rfl rfl)⟩, by decide +kernel⟩
set_option maxRecDepth 100000 in
theorem fl11_72 : FLc Rc11 72 11 37 24 := ⟨⟨Rc11, Tc11, 87, ck11, by decide, Or.inl (in_c5 236 rfl rfl)⟩, by decide +kernel⟩
set_option maxRecDepth 100000 in
theorem fl11_72r : FLc Rc11 72 23 37 2 := ⟨⟨Rc11, Tc11, 87, ck23, by decide, Or.inl (in_c5 236 rfl rfl)⟩, by decide +kernel⟩
set_option maxRecDepth 100000 in
theorem fl11_75 : FLc Rc11 75 11 38 25 := ⟨⟨Rc11, Tc11, 87, ck11, by decide, Or.inl (in_c5 237 rfl rfl)⟩, by decide +kernel⟩
set_option maxRecDepth 100000 in
theorem fl11_75r : FLc Rc11 75 23 38 2 := ⟨⟨Rc11, Tc11, 87, ck23, by decide, Or.inl (in_c5 237 rfl rfl)⟩, by decide +kernel⟩
set_option maxRecDepth 100000 in
theorem fl11_78 : FLc Rc11 78 11 39 26 := ⟨⟨Rc11, Tc11, 87, ck11, by decide, Or.inl (in_c5 238 rfl rfl)⟩, by decide +kernel⟩
set_option maxRecDepth 100000 in
theorem fl11_78r : FLc Rc11 78 23 39 2 := ⟨⟨Rc11, Tc11, 87, ck23, by decide, Or.inl (in_c5 238 rfl rfl)⟩, by decide +kernel⟩
set_option maxRecDepth 100000 in
theorem fl11_81 : FLc Rc11 81 11 40 27 := ⟨⟨Rc11, Tc11, 87, ck11, by decide, Or.inl (in_c5 239 rfl rfl)⟩, by decide +kernel⟩
set_option maxRecDepth 100000 in
theorem fl11_81r : FLc Rc11 81 23 40 2 := ⟨⟨Rc11, Tc11, 87, ck23, by decide, Or.inl (in_c5 239 rfl rfl)⟩, by decide +kernel⟩
set_option maxRecDepth 100000 in
theorem fl11_84 : FLc Rc11 84 11 41 28 := ⟨⟨Rc11, Tc11, 87, ck11, by decide, Or.inl (in_c6 0 rfl rfl)⟩, by decide +kernel⟩
set_option maxRecDepth 100000 in
theorem fl11_84r : FLc Rc11 84 23 41 2 := ⟨⟨Rc11, Tc11, 87, ck23, by decide, Or.inl (in_c6 0 rfl rfl)⟩, by decide +kernel⟩
set_option maxRecDepth 100000 in
theorem fl11_87 : FLc Rc11 87 11 42 29 := ⟨⟨Rc11, Tc11, 87, ck11, by decide, Or.inl (in_c6 1 rfl rfl)⟩, by decide +kernel⟩
set_option maxRecDepth 100000 in
theorem fl11_87r : FLc Rc11 87 23 42 2 := ⟨⟨Rc11, Tc11, 87, ck23, by decide, Or.inl (in_c6 1 rfl rfl)⟩, by decide +kernel⟩
set_option maxRecDepth 100000 in
theorem fl11_90 : FLc Rc11 90 11 43 30 := ⟨⟨Rc11, Tc11, 87, ck11, by decide, Or.inl (in_c6 2 rfl rfl)⟩, by decide +kernel⟩
set_option maxRecDepth 100000 in
theorem fl11_90r : FLc Rc11 90 23 43 2 := ⟨⟨Rc11, Tc11, 87, ck23, by decide, Or.inl (in_c6 2 rfl rfl)⟩, by decide +kernel⟩
set_option maxRecDepth 100000 in
theorem fl11_93 : FLc Rc11 93 11 44 31 := ⟨⟨Rc11, Tc11, 87, ck11, by decide, Or.inl (in_c6 3 rfl rfl)⟩, by decide +kernel⟩
set_option maxRecDepth 100000 in
theorem fl11_93r : FLc Rc11 93 23 44 2 := ⟨⟨Rc11, Tc11, 87, ck23, by decide, Or.inl (in_c6 3 rfl rfl)⟩, by decide +kernel⟩
set_option maxRecDepth 100000 in
theorem fl11_96 : FLc Rc11 96 11 46 32 := ⟨⟨Rc11, Tc11, 87, ck11, by decide, Or.inl (in_c6 5 rfl rfl)⟩, by decide +kernel⟩
set_option maxRecDepth 100000 in
theorem fl11_96r : FLc Rc11 96 23 46 2 := ⟨⟨Rc11, Tc11, 87, ck23, by decide, Or.inl (in_c6 5 rfl rfl)⟩, by decide +kernel⟩
set_option maxRecDepth 100000 in
theorem fl11_99 : FLc Rc11 99 11 47 33 := ⟨⟨Rc11, Tc11, 87, ck11, by decide, Or.inl (in_c6 6 rfl rfl)⟩, by decide +kernel⟩
set_option maxRecDepth 100000 in
theorem fl11_99r : FLc Rc11 99 23 47 2 := ⟨⟨Rc11, Tc11, 87, ck23, by decide, Or.inl (in_c6 6 rfl rfl)⟩, by decide +kernel⟩
set_option maxRecDepth 100000 in
theorem fl11_102 : FLc Rc11 102 11 48 34 := ⟨⟨Rc11, Tc11, 87, ck11, by decide, Or.inl (in_c6 7 rfl rfl)⟩, by decide +kernel⟩
set_option maxRecDepth 100000 in
theorem fl11_102r : FLc Rc11 102 23 48 2 := ⟨⟨Rc11, Tc11, 87, ck23, by decide, Or.inl (in_c6 7 rfl rfl)⟩, by decide +kernel⟩
set_option maxRecDepth 100000 in
theorem fl11_105 : FLc Rc11 105 11 49 35 := ⟨⟨Rc11, Tc11, 87, ck11, by decide, Or.inl (in_c6 8 rfl rfl)⟩, by decide +kernel⟩
set_option maxRecDepth 100000 in
theorem fl11_105r : FLc Rc11 105 23 49 2 := ⟨⟨Rc11, Tc11, 87, ck23, by decide, Or.inl (in_c6 8 rfl rfl)⟩, by decide +kernel⟩
set_option maxRecDepth 100000 in
theorem fl11_108 : FLc Rc11 108 11 50 36 := ⟨⟨Rc11, Tc11, 87, ck11, by decide, Or.inl (in_c6 9 rfl rfl)⟩, by decide +kernel⟩
set_option maxRecDepth 100000 in
theorem fl11_108r : FLc Rc11 108 23 50 2 := ⟨⟨Rc11, Tc11, 87, ck23, by decide, Or.inl (in_c6 9 rfl rfl)⟩, by decide +kernel⟩
set_option maxRecDepth 100000 in
theorem fl11_111 : FLc Rc11 111 11 51 37 := ⟨⟨Rc11, Tc11, 87, ck11, by decide, Or.inl (in_c6 10 rfl rfl)⟩, by decide +kernel⟩
set_option maxRecDepth 100000 in
theorem fl11_111r : FLc Rc11 111 23 51 2 := ⟨⟨Rc11, Tc11, 87, ck23, by decide, Or.inl (in_c6 10 rfl rfl)⟩, by decide +kernel⟩
set_option maxRecDepth 100000 in
theorem fl11_114 : FLc Rc11 114 11 52 38 := ⟨⟨Rc11, Tc11, 87, ck11, by decide, Or.inl (in_c6 11 rfl rfl)⟩, by decide +kernel⟩
set_option maxRecDepth 100000 in
theorem fl11_114r : FLc Rc11 114 23 52 2 := ⟨⟨Rc11, Tc11, 87, ck23, by decide, Or.inl (in_c6 11 rfl rfl)⟩, by decide +kernel⟩
set_option maxRecDepth 100000 in
theorem fl11_117 : FLc Rc11 117 11 53 39 := ⟨⟨Rc11, Tc11, 87, ck11, by decide, Or.inl (in_c6 12 rfl rfl)⟩, by decide +kernel⟩
set_option maxRecDepth 100000 in
theorem fl11_117r : FLc Rc11 117 23 53 2 := ⟨⟨Rc11, Tc11, 87, ck23, by decide, Or.inl (in_c6 12 rfl rfl)⟩, by decide +kernel⟩
set_option maxRecDepth 100000 in
theorem fl11_120 : FLc Rc11 120 11 54 40 := ⟨⟨Rc11, Tc11, 87, ck11, by decide, Or.inl (in_c6 13 rfl rfl)⟩, by decide +kernel⟩
set_option maxRecDepth 100000 in
theorem fl11_120r : FLc Rc11 120 23 54 2 := ⟨⟨Rc11, Tc11, 87, ck23, by decide, Or.inl (in_c6 13 rfl rfl)⟩, by decide +kernel⟩
set_option maxRecDepth 100000 in
theorem fl11_123 : FLc Rc11 123 11 55 41 := ⟨⟨Rc11, Tc11, 87, ck11, by decide, Or.inl (in_c6 14 rfl rfl)⟩, by decide +kernel⟩
set_option maxRecDepth 100000 in
theorem fl11_123r : FLc Rc11 123 23 55 2 := ⟨⟨Rc11, Tc11, 87, ck23, by decide, Or.inl (in_c6 14 rfl rfl)⟩, by decide +kernel⟩
set_option maxRecDepth 100000 in
theorem fl11_126 : FLc Rc11 126 11 56 42 := ⟨⟨Rc11, Tc11, 87, ck11, by decide, Or.inl (in_c6 15 rfl rfl)⟩, by decide +kernel⟩
set_option maxRecDepth 100000 in
theorem fl11_126r : FLc Rc11 126 23 56 2 := ⟨⟨Rc11, Tc11, 87, ck23, by decide, Or.inl (in_c6 15 rfl rfl)⟩, by decide +kernel⟩
set_option maxRecDepth 100000 in
theorem fl11_129 : FLc Rc11 129 11 57 43 := ⟨⟨Rc11, Tc11, 87, ck11, by decide, Or.inl (in_c6 16 rfl rfl)⟩, by decide +kernel⟩
set_option maxRecDepth 100000 in
theorem fl11_129r : FLc Rc11 129 23 57 2 := ⟨⟨Rc11, Tc11, 87, ck23, by decide, Or.inl (in_c6 16 rfl rfl)⟩, by decide +kernel⟩
set_option maxRecDepth 100000 in
theorem fl11_132 : FLc Rc11 132 11 58 44 := ⟨⟨Rc11, Tc11, 87, ck11, by decide, Or.inl (in_c6 17 rfl rfl)⟩, by decide +kernel⟩
set_option maxRecDepth 100000 in
theorem fl11_132r : FLc Rc11 132 23 58 2 := ⟨⟨Rc11, Tc11, 87, ck23, by decide, Or.inl (in_c6 17 rfl rfl)⟩, by decide +kernel⟩
set_option maxRecDepth 100000 in
theorem fl11_135 : FLc Rc11 135 11 59 45 := ⟨⟨Rc11, Tc11, 87, ck11, by decide, Or.inl (in_c6 18 rfl rfl)⟩, by decide +kernel⟩
set_option maxRecDepth 100000 in
theorem fl11_135r : FLc Rc11 135 23 59 2 := ⟨⟨Rc11, Tc11, 87, ck23, by decide, Or.inl (in_c6 18 rfl rfl)⟩, by decide +kernel⟩
set_option maxRecDepth 100000 in
theorem fl11_138 : FLc Rc11 138 11 60 46 := ⟨⟨Rc11, Tc11, 87, ck11, by decide, Or.inl (in_c6 19 rfl rfl)⟩, by decide +kernel⟩
set_option maxRecDepth 100000 in
theorem fl11_138r : FLc Rc11 138 23 60 2 := ⟨⟨Rc11, Tc11, 87, ck23, by decide, Or.inl (in_c6 19 rfl rfl)⟩, by decide +kernel⟩
set_option maxRecDepth 100000 in
theorem fl11_141 : FLc Rc11 141 11 61 47 := ⟨⟨Rc11, Tc11, 87, ck11, by decide, Or.inl (in_c6 20 rfl rfl)⟩, by decide +kernel⟩
set_option maxRecDepth 100000 in
theorem fl11_141r : FLc Rc11 141 23 61 2 := ⟨⟨Rc11, Tc11, 87, ck23, by decide, Or.inl (in_c6 20 rfl rfl)⟩, by decide +kernel⟩
set_option maxRecDepth 100000 in
theorem fl11_144 : FLc Rc11 144 11 62 48 := ⟨⟨Rc11, Tc11, 87, ck11, by decide, Or.inl (in_c6 21 rfl rfl)⟩, by decide +kernel⟩
set_option maxRecDepth 100000 in
theorem fl11_144r : FLc Rc11 144 23 62 2 := ⟨⟨Rc11, Tc11, 87, ck23, by decide, Or.inl (in_c6 21 rfl rfl)⟩, by decide +kernel⟩
set_option maxRecDepth 100000 in
theorem fl11_147 : FLc Rc11 147 11 63 49 := ⟨⟨Rc11, Tc11, 87, ck11, by decide, Or.inl (in_c6 22 rfl rfl)⟩, by decide +kernel⟩
set_option maxRecDepth 100000 in
theorem fl11_147r : FLc Rc11 147 23 63 2 := ⟨⟨Rc11, Tc11, 87, ck23, by decide, Or.inl (in_c6 22 rfl rfl)⟩, by decide +kernel⟩
set_option maxRecDepth 100000 in
theorem fl11_150 : FLc Rc11 150 11 64 50 := ⟨⟨Rc11, Tc11, 87, ck11, by decide, Or.inl (in_c6 23 rfl rfl)⟩, by decide +kernel⟩
set_option maxRecDepth 100000 in
theorem fl11_150r : FLc Rc11 150 23 64 2 := ⟨⟨Rc11, Tc11, 87, ck23, by decide, Or.inl (in_c6 23 rfl rfl)⟩, by decide +kernel⟩
set_option maxRecDepth 100000 in
theorem fl11_153 : FLc Rc11 153 11 77 51 := ⟨⟨Rc11, Tc11, 87, ck11, by decide, Or.inl (in_c6 36 rfl rfl)⟩, by decide +kernel⟩
set_option maxRecDepth 100000 in
theorem fl11_153r : FLc Rc11 153 23 77 2 := ⟨⟨Rc11, Tc11, 87, ck23, by decide, Or.inl (in_c6 36 rfl rfl)⟩, by decide +kernel⟩
set_option maxRecDepth 100000 in
theorem fl11_156 : FLc Rc11 156 11 78 52 := ⟨⟨Rc11, Tc11, 87, ck11, by decide, Or.inl (in_c6 37 rfl rfl)⟩, by decide +kernel⟩
set_option maxRecDepth 100000 in
theorem fl11_156r : FLc Rc11 156 23 78 2 := ⟨⟨Rc11, Tc11, 87, ck23, by decide, Or.inl (in_c6 37 rfl rfl)⟩, by decide +kernel⟩
set_option maxRecDepth 100000 in
theorem fl11_159 : FLc Rc11 159 11 80 53 := ⟨⟨Rc11, Tc11, 87, ck11, by decide, Or.inl (in_c6 39 rfl rfl)⟩, by decide +kernel⟩
set_option maxRecDepth 100000 in
theorem fl11_159r : FLc Rc11 159 23 80 2 := ⟨⟨Rc11, Tc11, 87, ck23, by decide, Or.inl (in_c6 39 rfl rfl)⟩, by decide +kernel⟩
set_option maxRecDepth 100000 in
theorem fl11_162 : FLc Rc11 162 11 84 54 := ⟨⟨Rc11, Tc11, 87, ck11, by decide, Or.inl (in_c6 43 rfl rfl)⟩, by decide +kernel⟩
set_option maxRecDepth 100000 in
theorem fl11_162r : FLc Rc11 162 23 84 2 := ⟨⟨Rc11, Tc11, 87, ck23, by decide, Or.inl (in_c6 43 rfl rfl)⟩, by decide +kernel⟩
set_option maxRecDepth 100000 in
theorem fl11_165 : FLc Rc11 165 11 86 55 := ⟨⟨Rc11, Tc11, 87, ck11, by decide, Or.inl (in_c6 45 rfl rfl)⟩, by decide +kernel⟩
set_option maxRecDepth 100000 in
theorem fl11_165r : FLc Rc11 165 23 86 2 := ⟨⟨Rc11, Tc11, 87, ck23, by decide, Or.inl (in_c6 45 rfl rfl)⟩, by decide +kernel⟩
set_option maxRecDepth 100000 in
theorem mk11_has : MKk 1 y11_has prog_13_method_4_code 2 (some (.boolean)) 2 := ⟨in_c7 232 rfl rfl, ini11, ⟨by decide +kernel, by decide +kernel, by decide +kernel⟩, by decide, in_c7 231 rfl rfl⟩
set_option maxRecDepth 100000 in
theorem ml11_173 : MLk 1 Rc11 173 y11_has prog_13_method_4_code 2 (some (.boolean)) 2 := mk11_has.link (Or.inl (in_c7 230 rfl rfl))
set_option maxRecDepth 100000 in
theorem mk11_copyRow : MKk 1 y11_copyRow prog_13_method_8_code 5 none 4 := ⟨in_c9 11 rfl rfl, ini11, ⟨by decide +kernel, by decide +kernel, by decide +kernel⟩, by decide, in_c9 10 rfl rfl⟩
set_option maxRecDepth 100000 in
theorem ml11_177 : MLk 1 Rc11 177 y11_copyRow prog_13_method_8_code 5 none 4 := mk11_copyRow.link (Or.inl (in_c9 9 rfl rfl))
set_option maxRecDepth 100000 in
theorem mk11_in : MKk 1 y11_in prog_13_method_3_code 3 (some (.boolean)) 3 := ⟨in_c6 235 rfl rfl, ini11, ⟨by decide +kernel, by decide +kernel, by decide +kernel⟩, by decide, in_c6 234 rfl rfl⟩
set_option maxRecDepth 100000 in
theorem ml11_181 : MLk 1 Rc11 181 y11_in prog_13_method_3_code 3 (some (.boolean)) 3 := mk11_in.link (Or.inl (in_c6 233 rfl rfl))
set_option maxRecDepth 100000 in
theorem fl11_169 : FLc Rc11 169 11 0 0 := ⟨⟨Rc11, Tc11, 87, ck11, by decide, Or.inl (in_c5 199 rfl rfl)⟩, by decide +kernel⟩
theorem fp11_169 : FPc Rc11 169 11 0 0 (.int) := ⟨fl11_169.1, fun C T N h => by cases h; exact ⟨rfl, by decide +kernel⟩, fl11_169.2⟩
set_option maxRecDepth 100000 in
theorem mk11_four : MKk 0 y11_four prog_13_method_12_code 3 none 1 := ⟨in_c6 228 rfl rfl, ini11, ⟨by decide +kernel, by decide +kernel, by decide +kernel⟩, by decide, ⟨in_c6 227 rfl rfl, in_g 49 (by decide +kernel) (by decide +kernel)⟩⟩
set_option maxRecDepth 100000 in
theorem ml11_185 : MLk 0 Rc11 185 y11_four prog_13_method_12_code 3 none 1 := mk11_four.link (Or.inl (in_c6 225 rfl rfl))
set_option maxRecDepth 100000 in
theorem fl11_189 : FLc Rc11 189 11 9 0 := ⟨⟨Rc11, Tc11, 87, ck11, by decide, Or.inl (in_c5 208 rfl rfl)⟩, by decide +kernel⟩
set_option maxRecDepth 100000 in
theorem fl11_192 : FLc Rc11 192 11 10 0 := ⟨⟨Rc11, Tc11, 87, ck11, by decide, Or.inl (in_c5 209 rfl rfl)⟩, by decide +kernel⟩
set_option maxRecDepth 100000 in
theorem mk11_see : MKk 0 y11_see prog_13_method_14_code 1 (some (.int)) 0 := ⟨in_c7 15 rfl rfl, ini11, ⟨by decide +kernel, by decide +kernel, by decide +kernel⟩, by decide, ⟨in_c7 14 rfl rfl, in_g 53 (by decide +kernel) (by decide +kernel)⟩⟩
set_option maxRecDepth 100000 in
theorem ml11_195 : MLk 0 Rc11 195 y11_see prog_13_method_14_code 1 (some (.int)) 0 := mk11_see.link (Or.inl (in_c7 12 rfl rfl))
theorem fp11_189 : FPc Rc11 189 11 9 0 (.int) := ⟨fl11_189.1, fun C T N h => by cases h; exact ⟨rfl, by decide +kernel⟩, fl11_189.2⟩
set_option maxRecDepth 100000 in
theorem fl11_199 : FLc Rc11 199 11 11 0 := ⟨⟨Rc11, Tc11, 87, ck11, by decide, Or.inl (in_c5 210 rfl rfl)⟩, by decide +kernel⟩
theorem fp11_199 : FPc Rc11 199 11 11 0 (.int) := ⟨fl11_199.1, fun C T N h => by cases h; exact ⟨rfl, by decide +kernel⟩, fl11_199.2⟩
set_option maxRecDepth 100000 in
theorem fl11_202 : FLc Rc11 202 11 14 1 := ⟨⟨Rc11, Tc11, 87, ck11, by decide, Or.inl (in_c5 213 rfl rfl)⟩, by decide +kernel⟩
theorem fp11_202 : FPc Rc11 202 11 14 1 (.long) := ⟨fl11_202.1, fun C T N h => by cases h; exact ⟨rfl, by decide +kernel⟩, fl11_202.2⟩
set_option maxRecDepth 100000 in
theorem fl11_206 : FLc Rc11 206 11 12 0 := ⟨⟨Rc11, Tc11, 87, ck11, by decide, Or.inl (in_c5 211 rfl rfl)⟩, by decide +kernel⟩
theorem fp11_206 : FPc Rc11 206 11 12 0 (.int) := ⟨fl11_206.1, fun C T N h => by cases h; exact ⟨rfl, by decide +kernel⟩, fl11_206.2⟩
set_option maxRecDepth 100000 in
theorem fl11_209 : FLc Rc11 209 11 13 0 := ⟨⟨Rc11, Tc11, 87, ck11, by decide, Or.inl (in_c5 212 rfl rfl)⟩, by decide +kernel⟩
theorem fp11_209 : FPc Rc11 209 11 13 0 (.int) := ⟨fl11_209.1, fun C T N h => by cases h; exact ⟨rfl, by decide +kernel⟩, fl11_209.2⟩
set_option maxRecDepth 100000 in
theorem fl11_212 : FLc Rc11 212 11 15 0 := ⟨⟨Rc11, Tc11, 87, ck11, by decide, Or.inl (in_c5 214 rfl rfl)⟩, by decide +kernel⟩
theorem fp11_212 : FPc Rc11 212 11 15 0 (.int) := ⟨fl11_212.1, fun C T N h => by cases h; exact ⟨rfl, by decide +kernel⟩, fl11_212.2⟩
set_option maxRecDepth 100000 in
theorem fl11_215 : FLc Rc11 215 11 16 0 := ⟨⟨Rc11, Tc11, 87, ck11, by decide, Or.inl (in_c5 215 rfl rfl)⟩, by decide +kernel⟩
set_option maxRecDepth 100000 in
theorem fl11_218 : FLc Rc11 218 11 17 0 := ⟨⟨Rc11, Tc11, 87, ck11, by decide, Or.inl (in_c5 216 rfl rfl)⟩, by decide +kernel⟩
theorem fp11_215 : FPc Rc11 215 11 16 0 (.int) := ⟨fl11_215.1, fun C T N h => by cases h; exact ⟨rfl, by decide +kernel⟩, fl11_215.2⟩
theorem fp11_218 : FPc Rc11 218 11 17 0 (.int) := ⟨fl11_218.1, fun C T N h => by cases h; exact ⟨rfl, by decide +kernel⟩, fl11_218.2⟩
set_option maxRecDepth 100000 in
theorem mk11_fails : MKk 0 y11_fails prog_13_method_16_code 1 (some (.boolean)) 0 := ⟨in_c7 37 rfl rfl, ini11, ⟨by decide +kernel, by decide +kernel, by decide +kernel⟩, by decide, ⟨in_c7 36 rfl rfl, in_g 58 (by decide +kernel) (by decide +kernel)⟩⟩
set_option maxRecDepth 100000 in
theorem ml11_221 : MLk 0 Rc11 221 y11_fails prog_13_method_16_code 1 (some (.boolean)) 0 := mk11_fails.link (Or.inl (in_c7 34 rfl rfl))
set_option maxRecDepth 100000 in
theorem mk11_addsFault : MKk 0 y11_addsFault prog_13_method_17_code 3 none 2 := ⟨in_c7 41 rfl rfl, ini11, ⟨by decide +kernel, by decide +kernel, by decide +kernel⟩, by decide, ⟨in_c7 40 rfl rfl, in_g 59 (by decide +kernel) (by decide +kernel)⟩⟩
set_option maxRecDepth 100000 in
theorem ml11_225 : MLk 0 Rc11 225 y11_addsFault prog_13_method_17_code 3 none 2 := mk11_addsFault.link (Or.inl (in_c7 38 rfl rfl))
set_option maxRecDepth 100000 in
theorem fl11_229 : FLc Rc11 229 11 21 0 := ⟨⟨Rc11, Tc11, 87, ck11, by decide, Or.inl (in_c5 220 rfl rfl)⟩, by decide +kernel⟩
theorem fp11_229 : FPc Rc11 229 11 21 0 (.boolean) := ⟨fl11_229.1, fun C T N h => by cases h; exact ⟨rfl, by decide +kernel⟩, fl11_229.2⟩
set_option maxRecDepth 100000 in
theorem mk11_token : MKk 0 y11_token prog_13_method_15_code 3 none 0 := ⟨in_c7 11 rfl rfl, ini11, ⟨by decide +kernel, by decide +kernel, by decide +kernel⟩, by decide, ⟨in_c7 10 rfl rfl, in_g 52 (by decide +kernel) (by decide +kernel)⟩⟩
set_option maxRecDepth 100000 in
theorem ml11_233 : MLk 0 Rc11 233 y11_token prog_13_method_15_code 3 none 0 := mk11_token.link (Or.inl (in_c7 8 rfl rfl))
set_option maxRecDepth 100000 in
theorem mk11_takeBut : MKk 0 y11_takeBut prog_13_method_18_code 5 (some (.boolean)) 4 := ⟨in_c7 33 rfl rfl, ini11, ⟨by decide +kernel, by decide +kernel, by decide +kernel⟩, by decide, ⟨in_c7 32 rfl rfl, in_g 57 (by decide +kernel) (by decide +kernel)⟩⟩
set_option maxRecDepth 100000 in
theorem ml11_236 : MLk 0 Rc11 236 y11_takeBut prog_13_method_18_code 5 (some (.boolean)) 4 := mk11_takeBut.link (Or.inl (in_c7 30 rfl rfl))
set_option maxRecDepth 100000 in
theorem fl11_240 : FLc Rc11 240 11 20 0 := ⟨⟨Rc11, Tc11, 87, ck11, by decide, Or.inl (in_c5 219 rfl rfl)⟩, by decide +kernel⟩
set_option maxRecDepth 100000 in
theorem mk11_greater : MKk 1 y11_greater prog_13_method_5_code 2 (some (.int)) 2 := ⟨in_c7 49 rfl rfl, ini11, ⟨by decide +kernel, by decide +kernel, by decide +kernel⟩, by decide, in_c7 48 rfl rfl⟩
set_option maxRecDepth 100000 in
theorem ml11_243 : MLk 1 Rc11 243 y11_greater prog_13_method_5_code 2 (some (.int)) 2 := mk11_greater.link (Or.inl (in_c7 47 rfl rfl))
theorem fp11_240 : FPc Rc11 240 11 20 0 (.int) := ⟨fl11_240.1, fun C T N h => by cases h; exact ⟨rfl, by decide +kernel⟩, fl11_240.2⟩
set_option maxRecDepth 100000 in
theorem mk11_numberOf : MKk 1 y11_numberOf prog_13_method_21_code 5 (some (.int)) 1 := ⟨in_c7 78 rfl rfl, ini11, ⟨by decide +kernel, by decide +kernel, by decide +kernel⟩, by decide, in_c7 77 rfl rfl⟩
set_option maxRecDepth 100000 in
theorem ml11_249 : MLk 1 Rc11 249 y11_numberOf prog_13_method_21_code 5 (some (.int)) 1 := mk11_numberOf.link (Or.inl (in_c7 76 rfl rfl))
set_option maxRecDepth 100000 in
theorem mk11_lesser : MKk 1 y11_lesser prog_13_method_6_code 2 (some (.int)) 2 := ⟨in_c7 65 rfl rfl, ini11, ⟨by decide +kernel, by decide +kernel, by decide +kernel⟩, by decide, in_c7 64 rfl rfl⟩
set_option maxRecDepth 100000 in
theorem ml11_253 : MLk 1 Rc11 253 y11_lesser prog_13_method_6_code 2 (some (.int)) 2 := mk11_lesser.link (Or.inl (in_c7 63 rfl rfl))
set_option maxRecDepth 100000 in
theorem mk11_isOf : MKk 0 y11_isOf prog_13_method_26_code 3 (some (.boolean)) 2 := ⟨in_c7 58 rfl rfl, ini11, ⟨by decide +kernel, by decide +kernel, by decide +kernel⟩, by decide, ⟨in_c7 57 rfl rfl, in_g 62 (by decide +kernel) (by decide +kernel)⟩⟩
set_option maxRecDepth 100000 in
theorem ml11_256 : MLk 0 Rc11 256 y11_isOf prog_13_method_26_code 3 (some (.boolean)) 2 := mk11_isOf.link (Or.inl (in_c7 55 rfl rfl))
set_option maxRecDepth 100000 in
theorem mk11_keepRow : MKk 0 y11_keepRow prog_13_method_24_code 7 none 4 := ⟨in_c7 62 rfl rfl, ini11, ⟨by decide +kernel, by decide +kernel, by decide +kernel⟩, by decide, ⟨in_c7 61 rfl rfl, in_g 63 (by decide +kernel) (by decide +kernel)⟩⟩
set_option maxRecDepth 100000 in
theorem ml11_259 : MLk 0 Rc11 259 y11_keepRow prog_13_method_24_code 7 none 4 := mk11_keepRow.link (Or.inl (in_c7 59 rfl rfl))
set_option maxRecDepth 100000 in
theorem mk11_take : MKk 0 y11_take prog_13_method_19_code 4 (some (.boolean)) 3 := ⟨in_c7 29 rfl rfl, ini11, ⟨by decide +kernel, by decide +kernel, by decide +kernel⟩, by decide, ⟨in_c7 28 rfl rfl, in_g 56 (by decide +kernel) (by decide +kernel)⟩⟩
set_option maxRecDepth 100000 in
theorem ml11_267 : MLk 0 Rc11 267 y11_take prog_13_method_19_code 4 (some (.boolean)) 3 := mk11_take.link (Or.inl (in_c7 26 rfl rfl))
set_option maxRecDepth 100000 in
theorem mk11_takeNode : MKk 0 y11_takeNode prog_13_method_20_code 3 (some (.boolean)) 2 := ⟨in_c7 46 rfl rfl, ini11, ⟨by decide +kernel, by decide +kernel, by decide +kernel⟩, by decide, ⟨in_c7 45 rfl rfl, in_g 60 (by decide +kernel) (by decide +kernel)⟩⟩
set_option maxRecDepth 100000 in
theorem ml11_272 : MLk 0 Rc11 272 y11_takeNode prog_13_method_20_code 3 (some (.boolean)) 2 := mk11_takeNode.link (Or.inl (in_c7 43 rfl rfl))
set_option maxRecDepth 100000 in
theorem mk11_keepLink : MKk 0 y11_keepLink prog_13_method_25_code 2 none 0 := ⟨in_c7 54 rfl rfl, ini11, ⟨by decide +kernel, by decide +kernel, by decide +kernel⟩, by decide, ⟨in_c7 53 rfl rfl, in_g 61 (by decide +kernel) (by decide +kernel)⟩⟩
set_option maxRecDepth 100000 in
theorem ml11_277 : MLk 0 Rc11 277 y11_keepLink prog_13_method_25_code 2 none 0 := mk11_keepLink.link (Or.inl (in_c7 51 rfl rfl))
set_option maxRecDepth 100000 in
theorem mk11_full : MKk 0 y11_full prog_13_method_23_code 4 none 3 := ⟨in_c7 71 rfl rfl, ini11, ⟨by decide +kernel, by decide +kernel, by decide +kernel⟩, by decide, ⟨in_c7 70 rfl rfl, in_g 64 (by decide +kernel) (by decide +kernel)⟩⟩
set_option maxRecDepth 100000 in
theorem ml11_284 : MLk 0 Rc11 284 y11_full prog_13_method_23_code 4 none 3 := mk11_full.link (Or.inl (in_c7 68 rfl rfl))
set_option maxRecDepth 100000 in
theorem mk11_takeName : MKk 0 y11_takeName prog_13_method_22_code 2 (some (.boolean)) 1 := ⟨in_c7 75 rfl rfl, ini11, ⟨by decide +kernel, by decide +kernel, by decide +kernel⟩, by decide, ⟨in_c7 74 rfl rfl, in_g 65 (by decide +kernel) (by decide +kernel)⟩⟩
set_option maxRecDepth 100000 in
theorem ml11_288 : MLk 0 Rc11 288 y11_takeName prog_13_method_22_code 2 (some (.boolean)) 1 := mk11_takeName.link (Or.inl (in_c7 72 rfl rfl))
set_option maxRecDepth 100000 in
theorem mk11_deedBy : MKk 0 y11_deedBy prog_13_method_28_code 3 (some (.int)) 1 := ⟨in_c7 87 rfl rfl, ini11, ⟨by decide +kernel, by decide +kernel, by decide +kernel⟩, by decide, ⟨in_c7 86 rfl rfl, in_g 67 (by decide +kernel) (by decide +kernel)⟩⟩
set_option maxRecDepth 100000 in
theorem ml11_302 : MLk 0 Rc11 302 y11_deedBy prog_13_method_28_code 3 (some (.int)) 1 := mk11_deedBy.link (Or.inl (in_c7 84 rfl rfl))
set_option maxRecDepth 100000 in
theorem mk11_netLine : MKk 0 y11_netLine prog_13_method_27_code 5 (some (.boolean)) 2 := ⟨in_c7 23 rfl rfl, ini11, ⟨by decide +kernel, by decide +kernel, by decide +kernel⟩, by decide, ⟨in_c7 22 rfl rfl, in_g 55 (by decide +kernel) (by decide +kernel)⟩⟩
set_option maxRecDepth 100000 in
theorem ml11_309 : MLk 0 Rc11 309 y11_netLine prog_13_method_27_code 5 (some (.boolean)) 2 := mk11_netLine.link (Or.inl (in_c7 20 rfl rfl))
set_option maxRecDepth 100000 in
theorem mk11_runLine : MKk 0 y11_runLine prog_13_method_29_code 5 (some (.boolean)) 2 := ⟨in_c7 83 rfl rfl, ini11, ⟨by decide +kernel, by decide +kernel, by decide +kernel⟩, by decide, ⟨in_c7 82 rfl rfl, in_g 66 (by decide +kernel) (by decide +kernel)⟩⟩
set_option maxRecDepth 100000 in
theorem ml11_313 : MLk 0 Rc11 313 y11_runLine prog_13_method_29_code 5 (some (.boolean)) 2 := mk11_runLine.link (Or.inl (in_c7 80 rfl rfl))
set_option maxRecDepth 100000 in
theorem mk11_logLine : MKk 0 y11_logLine prog_13_method_30_code 4 (some (.boolean)) 2 := ⟨in_c7 96 rfl rfl, ini11, ⟨by decide +kernel, by decide +kernel, by decide +kernel⟩, by decide, ⟨in_c7 95 rfl rfl, in_g 68 (by decide +kernel) (by decide +kernel)⟩⟩
set_option maxRecDepth 100000 in
theorem ml11_316 : MLk 0 Rc11 316 y11_logLine prog_13_method_30_code 4 (some (.boolean)) 2 := mk11_logLine.link (Or.inl (in_c7 93 rfl rfl))
set_option maxRecDepth 100000 in
theorem mk11_allLines : MKk 0 y11_allLines prog_13_method_31_code 6 (some (.boolean)) 1 := ⟨in_c7 19 rfl rfl, ini11, ⟨by decide +kernel, by decide +kernel, by decide +kernel⟩, by decide, ⟨in_c7 18 rfl rfl, in_g 54 (by decide +kernel) (by decide +kernel)⟩⟩
set_option maxRecDepth 100000 in
theorem ml11_319 : MLk 0 Rc11 319 y11_allLines prog_13_method_31_code 6 (some (.boolean)) 1 := mk11_allLines.link (Or.inl (in_c7 16 rfl rfl))
theorem fp11_192 : FPc Rc11 192 11 10 0 (.int) := ⟨fl11_192.1, fun C T N h => by cases h; exact ⟨rfl, by decide +kernel⟩, fl11_192.2⟩
set_option maxRecDepth 100000 in
theorem mk11_is : MKk 0 y11_is prog_13_method_10_code 3 (some (.boolean)) 2 := ⟨in_c7 3 rfl rfl, ini11, ⟨by decide +kernel, by decide +kernel, by decide +kernel⟩, by decide, ⟨in_c7 2 rfl rfl, in_g 50 (by decide +kernel) (by decide +kernel)⟩⟩
set_option maxRecDepth 100000 in
theorem ml11_322 : MLk 0 Rc11 322 y11_is prog_13_method_10_code 3 (some (.boolean)) 2 := mk11_is.link (Or.inl (in_c7 0 rfl rfl))
set_option maxRecDepth 100000 in
theorem mk11_readText : MKk 0 y11_readText prog_13_method_32_code 3 (some (.boolean)) 1 := ⟨in_c7 7 rfl rfl, ini11, ⟨by decide +kernel, by decide +kernel, by decide +kernel⟩, by decide, ⟨in_c7 6 rfl rfl, in_g 51 (by decide +kernel) (by decide +kernel)⟩⟩
set_option maxRecDepth 100000 in
theorem ml11_325 : MLk 0 Rc11 325 y11_readText prog_13_method_32_code 3 (some (.boolean)) 1 := mk11_readText.link (Or.inl (in_c7 4 rfl rfl))
set_option maxRecDepth 100000 in
theorem mk11_keep : MKk 0 y11_keep prog_13_method_33_code 5 none 3 := ⟨in_c7 102 rfl rfl, ini11, ⟨by decide +kernel, by decide +kernel, by decide +kernel⟩, by decide, ⟨in_c7 101 rfl rfl, in_g 69 (by decide +kernel) (by decide +kernel)⟩⟩
set_option maxRecDepth 100000 in
theorem ml11_328 : MLk 0 Rc11 328 y11_keep prog_13_method_33_code 5 none 3 := mk11_keep.link (Or.inl (in_c7 99 rfl rfl))
set_option maxRecDepth 100000 in
theorem fl11_332 : FLc Rc11 332 11 22 0 := ⟨⟨Rc11, Tc11, 87, ck11, by decide, Or.inl (in_c5 221 rfl rfl)⟩, by decide +kernel⟩
theorem fp11_332 : FPc Rc11 332 11 22 0 (.int) := ⟨fl11_332.1, fun C T N h => by cases h; exact ⟨rfl, by decide +kernel⟩, fl11_332.2⟩
set_option maxRecDepth 100000 in
theorem mk11_ofNet : MKk 0 y11_ofNet prog_13_method_36_code 2 (some (.int)) 1 := ⟨in_c7 118 rfl rfl, ini11, ⟨by decide +kernel, by decide +kernel, by decide +kernel⟩, by decide, ⟨in_c7 117 rfl rfl, in_g 71 (by decide +kernel) (by decide +kernel)⟩⟩
set_option maxRecDepth 100000 in
theorem ml11_335 : MLk 0 Rc11 335 y11_ofNet prog_13_method_36_code 2 (some (.int)) 1 := mk11_ofNet.link (Or.inl (in_c7 115 rfl rfl))
set_option maxRecDepth 100000 in
theorem fl11_339 : FLc Rc11 339 11 23 0 := ⟨⟨Rc11, Tc11, 87, ck11, by decide, Or.inl (in_c5 222 rfl rfl)⟩, by decide +kernel⟩
theorem fp11_339 : FPc Rc11 339 11 23 0 (.int) := ⟨fl11_339.1, fun C T N h => by cases h; exact ⟨rfl, by decide +kernel⟩, fl11_339.2⟩
set_option maxRecDepth 100000 in
theorem fl11_342 : FLc Rc11 342 11 24 0 := ⟨⟨Rc11, Tc11, 87, ck11, by decide, Or.inl (in_c5 223 rfl rfl)⟩, by decide +kernel⟩
theorem fp11_342 : FPc Rc11 342 11 24 0 (.int) := ⟨fl11_342.1, fun C T N h => by cases h; exact ⟨rfl, by decide +kernel⟩, fl11_342.2⟩
set_option maxRecDepth 100000 in
theorem mk11_links : MKk 0 y11_links prog_13_method_39_code 1 (some (.int)) 0 := ⟨in_c7 130 rfl rfl, ini11, ⟨by decide +kernel, by decide +kernel, by decide +kernel⟩, by decide, ⟨in_c7 129 rfl rfl, in_g 74 (by decide +kernel) (by decide +kernel)⟩⟩
set_option maxRecDepth 100000 in
theorem ml11_345 : MLk 0 Rc11 345 y11_links prog_13_method_39_code 1 (some (.int)) 0 := mk11_links.link (Or.inl (in_c7 127 rfl rfl))
set_option maxRecDepth 100000 in
theorem mk11_linkAt : MKk 0 y11_linkAt prog_13_method_40_code 3 (some (.int)) 2 := ⟨in_c7 134 rfl rfl, ini11, ⟨by decide +kernel, by decide +kernel, by decide +kernel⟩, by decide, ⟨in_c7 133 rfl rfl, in_g 75 (by decide +kernel) (by decide +kernel)⟩⟩
set_option maxRecDepth 100000 in
theorem ml11_348 : MLk 0 Rc11 348 y11_linkAt prog_13_method_40_code 3 (some (.int)) 2 := mk11_linkAt.link (Or.inl (in_c7 131 rfl rfl))
set_option maxRecDepth 100000 in
theorem fl11_351 : FLc Rc11 351 11 26 0 := ⟨⟨Rc11, Tc11, 87, ck11, by decide, Or.inl (in_c5 225 rfl rfl)⟩, by decide +kernel⟩
set_option maxRecDepth 100000 in
theorem mk11_lettersOf : MKk 1 y11_lettersOf prog_13_method_47_code 3 (some (.int)) 1 := ⟨in_c8 22 rfl rfl, ini11, ⟨by decide +kernel, by decide +kernel, by decide +kernel⟩, by decide, in_c8 21 rfl rfl⟩
set_option maxRecDepth 100000 in
theorem ml11_354 : MLk 1 Rc11 354 y11_lettersOf prog_13_method_47_code 3 (some (.int)) 1 := mk11_lettersOf.link (Or.inl (in_c8 20 rfl rfl))
set_option maxRecDepth 100000 in
theorem mk11_routes : MKk 0 y11_routes prog_13_method_41_code 1 (some (.int)) 0 := ⟨in_c7 142 rfl rfl, ini11, ⟨by decide +kernel, by decide +kernel, by decide +kernel⟩, by decide, ⟨in_c7 141 rfl rfl, in_g 77 (by decide +kernel) (by decide +kernel)⟩⟩
set_option maxRecDepth 100000 in
theorem ml11_357 : MLk 0 Rc11 357 y11_routes prog_13_method_41_code 1 (some (.int)) 0 := mk11_routes.link (Or.inl (in_c7 139 rfl rfl))
set_option maxRecDepth 100000 in
theorem mk11_routeAt : MKk 0 y11_routeAt prog_13_method_42_code 3 (some (.int)) 2 := ⟨in_c7 146 rfl rfl, ini11, ⟨by decide +kernel, by decide +kernel, by decide +kernel⟩, by decide, ⟨in_c7 145 rfl rfl, in_g 78 (by decide +kernel) (by decide +kernel)⟩⟩
set_option maxRecDepth 100000 in
theorem ml11_360 : MLk 0 Rc11 360 y11_routeAt prog_13_method_42_code 3 (some (.int)) 2 := mk11_routeAt.link (Or.inl (in_c7 143 rfl rfl))
set_option maxRecDepth 100000 in
theorem mk11_isBeginning : MKk 1 y11_isBeginning prog_13_method_48_code 4 (some (.boolean)) 2 := ⟨in_c8 19 rfl rfl, ini11, ⟨by decide +kernel, by decide +kernel, by decide +kernel⟩, by decide, in_c8 18 rfl rfl⟩
set_option maxRecDepth 100000 in
theorem ml11_363 : MLk 1 Rc11 363 y11_isBeginning prog_13_method_48_code 4 (some (.boolean)) 2 := mk11_isBeginning.link (Or.inl (in_c8 17 rfl rfl))
set_option maxRecDepth 100000 in
theorem mk11_serves : MKk 0 y11_serves prog_13_method_43_code 1 (some (.int)) 0 := ⟨in_c7 150 rfl rfl, ini11, ⟨by decide +kernel, by decide +kernel, by decide +kernel⟩, by decide, ⟨in_c7 149 rfl rfl, in_g 79 (by decide +kernel) (by decide +kernel)⟩⟩
set_option maxRecDepth 100000 in
theorem ml11_366 : MLk 0 Rc11 366 y11_serves prog_13_method_43_code 1 (some (.int)) 0 := mk11_serves.link (Or.inl (in_c7 147 rfl rfl))
set_option maxRecDepth 100000 in
theorem mk11_serveAt : MKk 0 y11_serveAt prog_13_method_44_code 3 (some (.int)) 2 := ⟨in_c7 154 rfl rfl, ini11, ⟨by decide +kernel, by decide +kernel, by decide +kernel⟩, by decide, ⟨in_c7 153 rfl rfl, in_g 80 (by decide +kernel) (by decide +kernel)⟩⟩
set_option maxRecDepth 100000 in
theorem ml11_369 : MLk 0 Rc11 369 y11_serveAt prog_13_method_44_code 3 (some (.int)) 2 := mk11_serveAt.link (Or.inl (in_c7 151 rfl rfl))
set_option maxRecDepth 100000 in
theorem mk11_hasNet : MKk 0 y11_hasNet prog_13_method_37_code 2 (some (.boolean)) 1 := ⟨in_c7 114 rfl rfl, ini11, ⟨by decide +kernel, by decide +kernel, by decide +kernel⟩, by decide, ⟨in_c7 113 rfl rfl, in_g 70 (by decide +kernel) (by decide +kernel)⟩⟩
set_option maxRecDepth 100000 in
theorem ml11_372 : MLk 0 Rc11 372 y11_hasNet prog_13_method_37_code 2 (some (.boolean)) 1 := mk11_hasNet.link (Or.inl (in_c7 111 rfl rfl))
set_option maxRecDepth 100000 in
theorem mk11_isNode : MKk 0 y11_isNode prog_13_method_38_code 2 (some (.boolean)) 1 := ⟨in_c7 122 rfl rfl, ini11, ⟨by decide +kernel, by decide +kernel, by decide +kernel⟩, by decide, ⟨in_c7 121 rfl rfl, in_g 72 (by decide +kernel) (by decide +kernel)⟩⟩
set_option maxRecDepth 100000 in
theorem ml11_375 : MLk 0 Rc11 375 y11_isNode prog_13_method_38_code 2 (some (.boolean)) 1 := mk11_isNode.link (Or.inl (in_c7 119 rfl rfl))
set_option maxRecDepth 100000 in
theorem mk11_layLinks : MKk 0 y11_layLinks prog_13_method_45_code 3 none 1 := ⟨in_c7 126 rfl rfl, ini11, ⟨by decide +kernel, by decide +kernel, by decide +kernel⟩, by decide, ⟨in_c7 125 rfl rfl, in_g 73 (by decide +kernel) (by decide +kernel)⟩⟩
set_option maxRecDepth 100000 in
theorem ml11_378 : MLk 0 Rc11 378 y11_layLinks prog_13_method_45_code 3 none 1 := mk11_layLinks.link (Or.inl (in_c7 123 rfl rfl))
set_option maxRecDepth 100000 in
theorem mk11_ofPlace : MKk 0 y11_ofPlace prog_13_method_53_code 3 (some (.int)) 2 := ⟨in_c7 138 rfl rfl, ini11, ⟨by decide +kernel, by decide +kernel, by decide +kernel⟩, by decide, ⟨in_c7 137 rfl rfl, in_g 76 (by decide +kernel) (by decide +kernel)⟩⟩
set_option maxRecDepth 100000 in
theorem ml11_381 : MLk 0 Rc11 381 y11_ofPlace prog_13_method_53_code 3 (some (.int)) 2 := mk11_ofPlace.link (Or.inl (in_c7 135 rfl rfl))
theorem fp11_351 : FPc Rc11 351 11 26 0 (.int) := ⟨fl11_351.1, fun C T N h => by cases h; exact ⟨rfl, by decide +kernel⟩, fl11_351.2⟩
set_option maxRecDepth 100000 in
theorem fl11_384 : FLc Rc11 384 11 27 0 := ⟨⟨Rc11, Tc11, 87, ck11, by decide, Or.inl (in_c5 226 rfl rfl)⟩, by decide +kernel⟩
theorem fp11_384 : FPc Rc11 384 11 27 0 (.int) := ⟨fl11_384.1, fun C T N h => by cases h; exact ⟨rfl, by decide +kernel⟩, fl11_384.2⟩
set_option maxRecDepth 100000 in
theorem fl11_387 : FLc Rc11 387 11 45 0 := ⟨⟨Rc11, Tc11, 87, ck11, by decide, Or.inl (in_c6 4 rfl rfl)⟩, by decide +kernel⟩
theorem fp11_387 : FPc Rc11 387 11 45 0 (.int) := ⟨fl11_387.1, fun C T N h => by cases h; exact ⟨rfl, by decide +kernel⟩, fl11_387.2⟩
set_option maxRecDepth 100000 in
theorem fl11_390 : FLc Rc11 390 11 65 0 := ⟨⟨Rc11, Tc11, 87, ck11, by decide, Or.inl (in_c6 24 rfl rfl)⟩, by decide +kernel⟩
theorem fp11_390 : FPc Rc11 390 11 65 0 (.int) := ⟨fl11_390.1, fun C T N h => by cases h; exact ⟨rfl, by decide +kernel⟩, fl11_390.2⟩
set_option maxRecDepth 100000 in
theorem fl11_393 : FLc Rc11 393 11 66 0 := ⟨⟨Rc11, Tc11, 87, ck11, by decide, Or.inl (in_c6 25 rfl rfl)⟩, by decide +kernel⟩
theorem fp11_393 : FPc Rc11 393 11 66 0 (.int) := ⟨fl11_393.1, fun C T N h => by cases h; exact ⟨rfl, by decide +kernel⟩, fl11_393.2⟩
set_option maxRecDepth 100000 in
theorem fl11_396 : FLc Rc11 396 11 67 0 := ⟨⟨Rc11, Tc11, 87, ck11, by decide, Or.inl (in_c6 26 rfl rfl)⟩, by decide +kernel⟩
theorem fp11_396 : FPc Rc11 396 11 67 0 (.int) := ⟨fl11_396.1, fun C T N h => by cases h; exact ⟨rfl, by decide +kernel⟩, fl11_396.2⟩
set_option maxRecDepth 100000 in
theorem fl11_399 : FLc Rc11 399 11 68 0 := ⟨⟨Rc11, Tc11, 87, ck11, by decide, Or.inl (in_c6 27 rfl rfl)⟩, by decide +kernel⟩
theorem fp11_399 : FPc Rc11 399 11 68 0 (.int) := ⟨fl11_399.1, fun C T N h => by cases h; exact ⟨rfl, by decide +kernel⟩, fl11_399.2⟩
set_option maxRecDepth 100000 in
theorem fl11_402 : FLc Rc11 402 11 69 0 := ⟨⟨Rc11, Tc11, 87, ck11, by decide, Or.inl (in_c6 28 rfl rfl)⟩, by decide +kernel⟩
theorem fp11_402 : FPc Rc11 402 11 69 0 (.int) := ⟨fl11_402.1, fun C T N h => by cases h; exact ⟨rfl, by decide +kernel⟩, fl11_402.2⟩
set_option maxRecDepth 100000 in
theorem fl11_405 : FLc Rc11 405 11 70 0 := ⟨⟨Rc11, Tc11, 87, ck11, by decide, Or.inl (in_c6 29 rfl rfl)⟩, by decide +kernel⟩
theorem fp11_405 : FPc Rc11 405 11 70 0 (.int) := ⟨fl11_405.1, fun C T N h => by cases h; exact ⟨rfl, by decide +kernel⟩, fl11_405.2⟩
set_option maxRecDepth 100000 in
theorem mk11_isUp : MKk 0 y11_isUp prog_13_method_46_code 4 (some (.boolean)) 2 := ⟨in_c7 229 rfl rfl, ini11, ⟨by decide +kernel, by decide +kernel, by decide +kernel⟩, by decide, ⟨in_c7 228 rfl rfl, in_g 96 (by decide +kernel) (by decide +kernel)⟩⟩
set_option maxRecDepth 100000 in
theorem ml11_408 : MLk 0 Rc11 408 y11_isUp prog_13_method_46_code 4 (some (.boolean)) 2 := mk11_isUp.link (Or.inl (in_c7 226 rfl rfl))
set_option maxRecDepth 100000 in
theorem fl11_411 : FLc Rc11 411 11 71 0 := ⟨⟨Rc11, Tc11, 87, ck11, by decide, Or.inl (in_c6 30 rfl rfl)⟩, by decide +kernel⟩
set_option maxRecDepth 100000 in
theorem fl11_414 : FLc Rc11 414 11 72 0 := ⟨⟨Rc11, Tc11, 87, ck11, by decide, Or.inl (in_c6 31 rfl rfl)⟩, by decide +kernel⟩
set_option maxRecDepth 100000 in
theorem fl11_417 : FLc Rc11 417 11 73 0 := ⟨⟨Rc11, Tc11, 87, ck11, by decide, Or.inl (in_c6 32 rfl rfl)⟩, by decide +kernel⟩
set_option maxRecDepth 100000 in
theorem fl11_420 : FLc Rc11 420 11 74 0 := ⟨⟨Rc11, Tc11, 87, ck11, by decide, Or.inl (in_c6 33 rfl rfl)⟩, by decide +kernel⟩
set_option maxRecDepth 100000 in
theorem mk11_gets : MKk 0 y11_gets prog_13_method_57_code 2 none 1 := ⟨in_c8 12 rfl rfl, ini11, ⟨by decide +kernel, by decide +kernel, by decide +kernel⟩, by decide, ⟨in_c8 11 rfl rfl, in_g 101 (by decide +kernel) (by decide +kernel)⟩⟩
set_option maxRecDepth 100000 in
theorem ml11_423 : MLk 0 Rc11 423 y11_gets prog_13_method_57_code 2 none 1 := mk11_gets.link (Or.inl (in_c8 9 rfl rfl))
set_option maxRecDepth 100000 in
theorem mk11_sends : MKk 0 y11_sends prog_13_method_56_code 7 none 6 := ⟨in_c7 225 rfl rfl, ini11, ⟨by decide +kernel, by decide +kernel, by decide +kernel⟩, by decide, ⟨in_c7 224 rfl rfl, in_g 95 (by decide +kernel) (by decide +kernel)⟩⟩
set_option maxRecDepth 100000 in
theorem ml11_426 : MLk 0 Rc11 426 y11_sends prog_13_method_56_code 7 none 6 := mk11_sends.link (Or.inl (in_c7 222 rfl rfl))
set_option maxRecDepth 100000 in
theorem mk11_refused : MKk 0 y11_refused prog_13_method_58_code 2 none 1 := ⟨in_c7 221 rfl rfl, ini11, ⟨by decide +kernel, by decide +kernel, by decide +kernel⟩, by decide, ⟨in_c7 220 rfl rfl, in_g 94 (by decide +kernel) (by decide +kernel)⟩⟩
set_option maxRecDepth 100000 in
theorem ml11_430 : MLk 0 Rc11 430 y11_refused prog_13_method_58_code 2 none 1 := mk11_refused.link (Or.inl (in_c7 218 rfl rfl))
theorem fp11_411 : FPc Rc11 411 11 71 0 (.int) := ⟨fl11_411.1, fun C T N h => by cases h; exact ⟨rfl, by decide +kernel⟩, fl11_411.2⟩
theorem fp11_414 : FPc Rc11 414 11 72 0 (.int) := ⟨fl11_414.1, fun C T N h => by cases h; exact ⟨rfl, by decide +kernel⟩, fl11_414.2⟩
theorem fp11_417 : FPc Rc11 417 11 73 0 (.int) := ⟨fl11_417.1, fun C T N h => by cases h; exact ⟨rfl, by decide +kernel⟩, fl11_417.2⟩
theorem fp11_420 : FPc Rc11 420 11 74 0 (.int) := ⟨fl11_420.1, fun C T N h => by cases h; exact ⟨rfl, by decide +kernel⟩, fl11_420.2⟩
set_option maxRecDepth 100000 in
theorem mk11_nackTo : MKk 0 y11_nackTo prog_13_method_60_code 5 none 4 := ⟨in_c7 217 rfl rfl, ini11, ⟨by decide +kernel, by decide +kernel, by decide +kernel⟩, by decide, ⟨in_c7 216 rfl rfl, in_g 93 (by decide +kernel) (by decide +kernel)⟩⟩
set_option maxRecDepth 100000 in
theorem ml11_433 : MLk 0 Rc11 433 y11_nackTo prog_13_method_60_code 5 none 4 := mk11_nackTo.link (Or.inl (in_c7 214 rfl rfl))
set_option maxRecDepth 100000 in
theorem mk11_storedAt : MKk 0 y11_storedAt prog_13_method_62_code 4 (some (.int)) 2 := ⟨in_c7 206 rfl rfl, ini11, ⟨by decide +kernel, by decide +kernel, by decide +kernel⟩, by decide, ⟨in_c7 205 rfl rfl, in_g 91 (by decide +kernel) (by decide +kernel)⟩⟩
set_option maxRecDepth 100000 in
theorem ml11_436 : MLk 0 Rc11 436 y11_storedAt prog_13_method_62_code 4 (some (.int)) 2 := mk11_storedAt.link (Or.inl (in_c7 203 rfl rfl))
set_option maxRecDepth 100000 in
theorem mk11_takesOut : MKk 0 y11_takesOut prog_13_method_63_code 4 none 2 := ⟨in_c8 4 rfl rfl, ini11, ⟨by decide +kernel, by decide +kernel, by decide +kernel⟩, by decide, ⟨in_c8 3 rfl rfl, in_g 99 (by decide +kernel) (by decide +kernel)⟩⟩
set_option maxRecDepth 100000 in
theorem ml11_439 : MLk 0 Rc11 439 y11_takesOut prog_13_method_63_code 4 none 2 := mk11_takesOut.link (Or.inl (in_c8 1 rfl rfl))
set_option maxRecDepth 100000 in
theorem mk11_longestAt : MKk 0 y11_longestAt prog_13_method_50_code 6 (some (.int)) 2 := ⟨in_c8 46 rfl rfl, ini11, ⟨by decide +kernel, by decide +kernel, by decide +kernel⟩, by decide, ⟨in_c8 45 rfl rfl, in_g 108 (by decide +kernel) (by decide +kernel)⟩⟩
set_option maxRecDepth 100000 in
theorem ml11_442 : MLk 0 Rc11 442 y11_longestAt prog_13_method_50_code 6 (some (.int)) 2 := mk11_longestAt.link (Or.inl (in_c8 43 rfl rfl))
set_option maxRecDepth 100000 in
theorem mk11_isRoute : MKk 0 y11_isRoute prog_13_method_51_code 5 (some (.boolean)) 4 := ⟨in_c8 51 rfl rfl, ini11, ⟨by decide +kernel, by decide +kernel, by decide +kernel⟩, by decide, ⟨in_c8 50 rfl rfl, in_g 109 (by decide +kernel) (by decide +kernel)⟩⟩
set_option maxRecDepth 100000 in
theorem ml11_446 : MLk 0 Rc11 446 y11_isRoute prog_13_method_51_code 5 (some (.boolean)) 4 := mk11_isRoute.link (Or.inl (in_c8 48 rfl rfl))
set_option maxRecDepth 100000 in
theorem mk11_nextWay : MKk 0 y11_nextWay prog_13_method_68_code 11 (some (.int)) 3 := ⟨in_c8 42 rfl rfl, ini11, ⟨by decide +kernel, by decide +kernel, by decide +kernel⟩, by decide, ⟨in_c8 41 rfl rfl, in_g 107 (by decide +kernel) (by decide +kernel)⟩⟩
set_option maxRecDepth 100000 in
theorem ml11_449 : MLk 0 Rc11 449 y11_nextWay prog_13_method_68_code 11 (some (.int)) 3 := mk11_nextWay.link (Or.inl (in_c8 39 rfl rfl))
set_option maxRecDepth 100000 in
theorem mk11_joins : MKk 0 y11_joins prog_13_method_70_code 4 none 3 := ⟨in_c8 30 rfl rfl, ini11, ⟨by decide +kernel, by decide +kernel, by decide +kernel⟩, by decide, ⟨in_c8 29 rfl rfl, in_g 104 (by decide +kernel) (by decide +kernel)⟩⟩
set_option maxRecDepth 100000 in
theorem ml11_453 : MLk 0 Rc11 453 y11_joins prog_13_method_70_code 4 none 3 := mk11_joins.link (Or.inl (in_c8 27 rfl rfl))
set_option maxRecDepth 100000 in
theorem mk11_goesOn : MKk 0 y11_goesOn prog_13_method_69_code 4 (some (.boolean)) 2 := ⟨in_c8 38 rfl rfl, ini11, ⟨by decide +kernel, by decide +kernel, by decide +kernel⟩, by decide, ⟨in_c8 37 rfl rfl, in_g 106 (by decide +kernel) (by decide +kernel)⟩⟩
set_option maxRecDepth 100000 in
theorem ml11_456 : MLk 0 Rc11 456 y11_goesOn prog_13_method_69_code 4 (some (.boolean)) 2 := mk11_goesOn.link (Or.inl (in_c8 35 rfl rfl))
set_option maxRecDepth 100000 in
theorem mk11_removes : MKk 0 y11_removes prog_13_method_66_code 4 none 2 := ⟨in_c8 55 rfl rfl, ini11, ⟨by decide +kernel, by decide +kernel, by decide +kernel⟩, by decide, ⟨in_c8 54 rfl rfl, in_g 110 (by decide +kernel) (by decide +kernel)⟩⟩
set_option maxRecDepth 100000 in
theorem ml11_459 : MLk 0 Rc11 459 y11_removes prog_13_method_66_code 4 none 2 := mk11_removes.link (Or.inl (in_c8 52 rfl rfl))
set_option maxRecDepth 100000 in
theorem mk11_firstNack : MKk 0 y11_firstNack prog_13_method_61_code 6 none 5 := ⟨in_c7 213 rfl rfl, ini11, ⟨by decide +kernel, by decide +kernel, by decide +kernel⟩, by decide, ⟨in_c7 212 rfl rfl, in_g 92 (by decide +kernel) (by decide +kernel)⟩⟩
set_option maxRecDepth 100000 in
theorem ml11_462 : MLk 0 Rc11 462 y11_firstNack prog_13_method_61_code 6 none 5 := mk11_firstNack.link (Or.inl (in_c7 210 rfl rfl))
set_option maxRecDepth 100000 in
theorem mk11_putsLast : MKk 0 y11_putsLast prog_13_method_64_code 7 none 4 := ⟨in_c8 0 rfl rfl, ini11, ⟨by decide +kernel, by decide +kernel, by decide +kernel⟩, by decide, ⟨in_c7 239 rfl rfl, in_g 98 (by decide +kernel) (by decide +kernel)⟩⟩
set_option maxRecDepth 100000 in
theorem ml11_466 : MLk 0 Rc11 466 y11_putsLast prog_13_method_64_code 7 none 4 := mk11_putsLast.link (Or.inl (in_c7 237 rfl rfl))
set_option maxRecDepth 100000 in
theorem mk11_dataTo : MKk 0 y11_dataTo prog_13_method_59_code 4 none 3 := ⟨in_c8 8 rfl rfl, ini11, ⟨by decide +kernel, by decide +kernel, by decide +kernel⟩, by decide, ⟨in_c8 7 rfl rfl, in_g 100 (by decide +kernel) (by decide +kernel)⟩⟩
set_option maxRecDepth 100000 in
theorem ml11_469 : MLk 0 Rc11 469 y11_dataTo prog_13_method_59_code 4 none 3 := mk11_dataTo.link (Or.inl (in_c8 5 rfl rfl))
set_option maxRecDepth 100000 in
theorem mk11_entryOf : MKk 0 y11_entryOf prog_13_method_65_code 5 (some (.int)) 3 := ⟨in_c7 202 rfl rfl, ini11, ⟨by decide +kernel, by decide +kernel, by decide +kernel⟩, by decide, ⟨in_c7 201 rfl rfl, in_g 90 (by decide +kernel) (by decide +kernel)⟩⟩
set_option maxRecDepth 100000 in
theorem ml11_472 : MLk 0 Rc11 472 y11_entryOf prog_13_method_65_code 5 (some (.int)) 3 := mk11_entryOf.link (Or.inl (in_c7 199 rfl rfl))
set_option maxRecDepth 100000 in
theorem mk11_hasL : MKk 1 y11_hasL prog_13_method_67_code 3 (some (.boolean)) 2 := ⟨in_c7 209 rfl rfl, ini11, ⟨by decide +kernel, by decide +kernel, by decide +kernel⟩, by decide, in_c7 208 rfl rfl⟩
set_option maxRecDepth 100000 in
theorem ml11_475 : MLk 1 Rc11 475 y11_hasL prog_13_method_67_code 3 (some (.boolean)) 2 := mk11_hasL.link (Or.inl (in_c7 207 rfl rfl))
set_option maxRecDepth 100000 in
theorem mk11_fromStore : MKk 0 y11_fromStore prog_13_method_72_code 6 none 4 := ⟨in_c7 236 rfl rfl, ini11, ⟨by decide +kernel, by decide +kernel, by decide +kernel⟩, by decide, ⟨in_c7 235 rfl rfl, in_g 97 (by decide +kernel) (by decide +kernel)⟩⟩
set_option maxRecDepth 100000 in
theorem ml11_478 : MLk 0 Rc11 478 y11_fromStore prog_13_method_72_code 6 none 4 := mk11_fromStore.link (Or.inl (in_c7 233 rfl rfl))
set_option maxRecDepth 100000 in
theorem mk11_serveFor : MKk 0 y11_serveFor prog_13_method_52_code 6 (some (.int)) 2 := ⟨in_c8 16 rfl rfl, ini11, ⟨by decide +kernel, by decide +kernel, by decide +kernel⟩, by decide, ⟨in_c8 15 rfl rfl, in_g 102 (by decide +kernel) (by decide +kernel)⟩⟩
set_option maxRecDepth 100000 in
theorem ml11_481 : MLk 0 Rc11 481 y11_serveFor prog_13_method_52_code 6 (some (.int)) 2 := mk11_serveFor.link (Or.inl (in_c8 13 rfl rfl))
set_option maxRecDepth 100000 in
theorem mk11_fromServer : MKk 0 y11_fromServer prog_13_method_73_code 5 none 4 := ⟨in_c8 26 rfl rfl, ini11, ⟨by decide +kernel, by decide +kernel, by decide +kernel⟩, by decide, ⟨in_c8 25 rfl rfl, in_g 103 (by decide +kernel) (by decide +kernel)⟩⟩
set_option maxRecDepth 100000 in
theorem ml11_484 : MLk 0 Rc11 484 y11_fromServer prog_13_method_73_code 5 none 4 := mk11_fromServer.link (Or.inl (in_c8 23 rfl rfl))
set_option maxRecDepth 100000 in
theorem mk11_makesEntry : MKk 0 y11_makesEntry prog_13_method_71_code 7 none 5 := ⟨in_c8 34 rfl rfl, ini11, ⟨by decide +kernel, by decide +kernel, by decide +kernel⟩, by decide, ⟨in_c8 33 rfl rfl, in_g 105 (by decide +kernel) (by decide +kernel)⟩⟩
set_option maxRecDepth 100000 in
theorem ml11_487 : MLk 0 Rc11 487 y11_makesEntry prog_13_method_71_code 7 none 5 := mk11_makesEntry.link (Or.inl (in_c8 31 rfl rfl))
set_option maxRecDepth 100000 in
theorem mk11_firstFor : MKk 0 y11_firstFor prog_13_method_76_code 5 (some (.int)) 3 := ⟨in_c8 79 rfl rfl, ini11, ⟨by decide +kernel, by decide +kernel, by decide +kernel⟩, by decide, ⟨in_c8 78 rfl rfl, in_g 116 (by decide +kernel) (by decide +kernel)⟩⟩
set_option maxRecDepth 100000 in
theorem ml11_490 : MLk 0 Rc11 490 y11_firstFor prog_13_method_76_code 5 (some (.int)) 3 := mk11_firstFor.link (Or.inl (in_c8 76 rfl rfl))
set_option maxRecDepth 100000 in
theorem mk11_answers : MKk 0 y11_answers prog_13_method_75_code 4 none 2 := ⟨in_c8 83 rfl rfl, ini11, ⟨by decide +kernel, by decide +kernel, by decide +kernel⟩, by decide, ⟨in_c8 82 rfl rfl, in_g 117 (by decide +kernel) (by decide +kernel)⟩⟩
set_option maxRecDepth 100000 in
theorem ml11_494 : MLk 0 Rc11 494 y11_answers prog_13_method_75_code 4 none 2 := mk11_answers.link (Or.inl (in_c8 80 rfl rfl))
set_option maxRecDepth 100000 in
theorem mk11_interest : MKk 0 y11_interest prog_13_method_74_code 8 none 5 := ⟨in_c7 198 rfl rfl, ini11, ⟨by decide +kernel, by decide +kernel, by decide +kernel⟩, by decide, ⟨in_c7 197 rfl rfl, in_g 89 (by decide +kernel) (by decide +kernel)⟩⟩
set_option maxRecDepth 100000 in
theorem ml11_497 : MLk 0 Rc11 497 y11_interest prog_13_method_74_code 8 none 5 := mk11_interest.link (Or.inl (in_c7 195 rfl rfl))
set_option maxRecDepth 100000 in
theorem mk11_dataCome : MKk 0 y11_dataCome prog_13_method_77_code 6 none 3 := ⟨in_c8 75 rfl rfl, ini11, ⟨by decide +kernel, by decide +kernel, by decide +kernel⟩, by decide, ⟨in_c8 74 rfl rfl, in_g 115 (by decide +kernel) (by decide +kernel)⟩⟩
set_option maxRecDepth 100000 in
theorem ml11_500 : MLk 0 Rc11 500 y11_dataCome prog_13_method_77_code 6 none 3 := mk11_dataCome.link (Or.inl (in_c8 72 rfl rfl))
set_option maxRecDepth 100000 in
theorem mk11_nackComes : MKk 0 y11_nackComes prog_13_method_78_code 7 none 4 := ⟨in_c8 87 rfl rfl, ini11, ⟨by decide +kernel, by decide +kernel, by decide +kernel⟩, by decide, ⟨in_c8 86 rfl rfl, in_g 118 (by decide +kernel) (by decide +kernel)⟩⟩
set_option maxRecDepth 100000 in
theorem ml11_503 : MLk 0 Rc11 503 y11_nackComes prog_13_method_78_code 7 none 4 := mk11_nackComes.link (Or.inl (in_c8 84 rfl rfl))
set_option maxRecDepth 100000 in
theorem mk11_endsAll : MKk 0 y11_endsAll prog_13_method_79_code 5 none 0 := ⟨in_c8 67 rfl rfl, ini11, ⟨by decide +kernel, by decide +kernel, by decide +kernel⟩, by decide, ⟨in_c8 66 rfl rfl, in_g 113 (by decide +kernel) (by decide +kernel)⟩⟩
set_option maxRecDepth 100000 in
theorem ml11_506 : MLk 0 Rc11 506 y11_endsAll prog_13_method_79_code 5 none 0 := mk11_endsAll.link (Or.inl (in_c8 64 rfl rfl))
set_option maxRecDepth 100000 in
theorem mk11_comes : MKk 0 y11_comes prog_13_method_80_code 2 none 1 := ⟨in_c8 71 rfl rfl, ini11, ⟨by decide +kernel, by decide +kernel, by decide +kernel⟩, by decide, ⟨in_c8 70 rfl rfl, in_g 114 (by decide +kernel) (by decide +kernel)⟩⟩
set_option maxRecDepth 100000 in
theorem ml11_509 : MLk 0 Rc11 509 y11_comes prog_13_method_80_code 2 none 1 := mk11_comes.link (Or.inl (in_c8 68 rfl rfl))
set_option maxRecDepth 100000 in
theorem mk11_moves : MKk 0 y11_moves prog_13_method_81_code 3 none 2 := ⟨in_c8 91 rfl rfl, ini11, ⟨by decide +kernel, by decide +kernel, by decide +kernel⟩, by decide, ⟨in_c8 90 rfl rfl, in_g 119 (by decide +kernel) (by decide +kernel)⟩⟩
set_option maxRecDepth 100000 in
theorem ml11_512 : MLk 0 Rc11 512 y11_moves prog_13_method_81_code 3 none 2 := mk11_moves.link (Or.inl (in_c8 88 rfl rfl))
set_option maxRecDepth 100000 in
theorem mk11_goesBy : MKk 0 y11_goesBy prog_13_method_82_code 4 none 0 := ⟨in_c8 63 rfl rfl, ini11, ⟨by decide +kernel, by decide +kernel, by decide +kernel⟩, by decide, ⟨in_c8 62 rfl rfl, in_g 112 (by decide +kernel) (by decide +kernel)⟩⟩
set_option maxRecDepth 100000 in
theorem ml11_515 : MLk 0 Rc11 515 y11_goesBy prog_13_method_82_code 4 none 0 := mk11_goesBy.link (Or.inl (in_c8 60 rfl rfl))
set_option maxRecDepth 100000 in
theorem mk11_asks : MKk 0 y11_asks prog_13_method_84_code 5 (some (.boolean)) 4 := ⟨in_c7 194 rfl rfl, ini11, ⟨by decide +kernel, by decide +kernel, by decide +kernel⟩, by decide, ⟨in_c7 193 rfl rfl, in_g 88 (by decide +kernel) (by decide +kernel)⟩⟩
set_option maxRecDepth 100000 in
theorem ml11_518 : MLk 0 Rc11 518 y11_asks prog_13_method_84_code 5 (some (.boolean)) 4 := mk11_asks.link (Or.inl (in_c7 191 rfl rfl))
set_option maxRecDepth 100000 in
theorem mk11_waits : MKk 0 y11_waits prog_13_method_83_code 3 (some (.boolean)) 1 := ⟨in_c8 59 rfl rfl, ini11, ⟨by decide +kernel, by decide +kernel, by decide +kernel⟩, by decide, ⟨in_c8 58 rfl rfl, in_g 111 (by decide +kernel) (by decide +kernel)⟩⟩
set_option maxRecDepth 100000 in
theorem ml11_521 : MLk 0 Rc11 521 y11_waits prog_13_method_83_code 3 (some (.boolean)) 1 := mk11_waits.link (Or.inl (in_c8 56 rfl rfl))
set_option maxRecDepth 100000 in
theorem mk11_changes : MKk 0 y11_changes prog_13_method_85_code 5 (some (.boolean)) 3 := ⟨in_c8 95 rfl rfl, ini11, ⟨by decide +kernel, by decide +kernel, by decide +kernel⟩, by decide, ⟨in_c8 94 rfl rfl, in_g 120 (by decide +kernel) (by decide +kernel)⟩⟩
set_option maxRecDepth 100000 in
theorem ml11_524 : MLk 0 Rc11 524 y11_changes prog_13_method_85_code 5 (some (.boolean)) 3 := mk11_changes.link (Or.inl (in_c8 92 rfl rfl))
set_option maxRecDepth 100000 in
theorem fl11_528 : FLc Rc11 528 11 75 0 := ⟨⟨Rc11, Tc11, 87, ck11, by decide, Or.inl (in_c6 34 rfl rfl)⟩, by decide +kernel⟩
theorem fp11_528 : FPc Rc11 528 11 75 0 (.int) := ⟨fl11_528.1, fun C T N h => by cases h; exact ⟨rfl, by decide +kernel⟩, fl11_528.2⟩
set_option maxRecDepth 100000 in
theorem mk11_hasRun : MKk 0 y11_hasRun prog_13_method_89_code 2 (some (.boolean)) 1 := ⟨in_c7 162 rfl rfl, ini11, ⟨by decide +kernel, by decide +kernel, by decide +kernel⟩, by decide, ⟨in_c7 161 rfl rfl, in_g 81 (by decide +kernel) (by decide +kernel)⟩⟩
set_option maxRecDepth 100000 in
theorem ml11_531 : MLk 0 Rc11 531 y11_hasRun prog_13_method_89_code 2 (some (.boolean)) 1 := mk11_hasRun.link (Or.inl (in_c7 159 rfl rfl))
set_option maxRecDepth 100000 in
theorem mk11_deeds : MKk 0 y11_deeds prog_13_method_87_code 1 (some (.int)) 0 := ⟨in_c7 166 rfl rfl, ini11, ⟨by decide +kernel, by decide +kernel, by decide +kernel⟩, by decide, ⟨in_c7 165 rfl rfl, in_g 82 (by decide +kernel) (by decide +kernel)⟩⟩
set_option maxRecDepth 100000 in
theorem ml11_534 : MLk 0 Rc11 534 y11_deeds prog_13_method_87_code 1 (some (.int)) 0 := mk11_deeds.link (Or.inl (in_c7 163 rfl rfl))
set_option maxRecDepth 100000 in
theorem mk11_deedOf : MKk 0 y11_deedOf prog_13_method_88_code 3 (some (.int)) 2 := ⟨in_c7 170 rfl rfl, ini11, ⟨by decide +kernel, by decide +kernel, by decide +kernel⟩, by decide, ⟨in_c7 169 rfl rfl, in_g 83 (by decide +kernel) (by decide +kernel)⟩⟩
set_option maxRecDepth 100000 in
theorem ml11_537 : MLk 0 Rc11 537 y11_deedOf prog_13_method_88_code 3 (some (.int)) 2 := mk11_deedOf.link (Or.inl (in_c7 167 rfl rfl))
set_option maxRecDepth 100000 in
theorem fl11_540 : FLc Rc11 540 11 76 0 := ⟨⟨Rc11, Tc11, 87, ck11, by decide, Or.inl (in_c6 35 rfl rfl)⟩, by decide +kernel⟩
theorem fp11_540 : FPc Rc11 540 11 76 0 (.int) := ⟨fl11_540.1, fun C T N h => by cases h; exact ⟨rfl, by decide +kernel⟩, fl11_540.2⟩
set_option maxRecDepth 100000 in
theorem mk11_does : MKk 0 y11_does prog_13_method_86_code 5 (some (.boolean)) 4 := ⟨in_c7 190 rfl rfl, ini11, ⟨by decide +kernel, by decide +kernel, by decide +kernel⟩, by decide, ⟨in_c7 189 rfl rfl, in_g 87 (by decide +kernel) (by decide +kernel)⟩⟩
set_option maxRecDepth 100000 in
theorem ml11_543 : MLk 0 Rc11 543 y11_does prog_13_method_86_code 5 (some (.boolean)) 4 := mk11_does.link (Or.inl (in_c7 187 rfl rfl))
set_option maxRecDepth 100000 in
theorem mk11_entriesAll : MKk 0 y11_entriesAll prog_13_method_91_code 3 (some (.int)) 0 := ⟨in_c8 99 rfl rfl, ini11, ⟨by decide +kernel, by decide +kernel, by decide +kernel⟩, by decide, ⟨in_c8 98 rfl rfl, in_g 121 (by decide +kernel) (by decide +kernel)⟩⟩
set_option maxRecDepth 100000 in
theorem ml11_546 : MLk 0 Rc11 546 y11_entriesAll prog_13_method_91_code 3 (some (.int)) 0 := mk11_entriesAll.link (Or.inl (in_c8 96 rfl rfl))
set_option maxRecDepth 100000 in
theorem mk11_begin : MKk 0 y11_begin prog_13_method_55_code 3 none 1 := ⟨in_c7 182 rfl rfl, ini11, ⟨by decide +kernel, by decide +kernel, by decide +kernel⟩, by decide, ⟨in_c7 181 rfl rfl, in_g 85 (by decide +kernel) (by decide +kernel)⟩⟩
set_option maxRecDepth 100000 in
theorem ml11_549 : MLk 0 Rc11 549 y11_begin prog_13_method_55_code 3 none 1 := mk11_begin.link (Or.inl (in_c7 179 rfl rfl))
set_option maxRecDepth 100000 in
theorem mk11_lay : MKk 0 y11_lay prog_13_method_93_code 3 (some (.boolean)) 2 := ⟨in_c7 178 rfl rfl, ini11, ⟨by decide +kernel, by decide +kernel, by decide +kernel⟩, by decide, ⟨in_c7 177 rfl rfl, in_g 84 (by decide +kernel) (by decide +kernel)⟩⟩
set_option maxRecDepth 100000 in
theorem ml11_552 : MLk 0 Rc11 552 y11_lay prog_13_method_93_code 3 (some (.boolean)) 2 := mk11_lay.link (Or.inl (in_c7 175 rfl rfl))
set_option maxRecDepth 100000 in
theorem mk11_play : MKk 0 y11_play prog_13_method_92_code 3 (some (.int)) 1 := ⟨in_c7 186 rfl rfl, ini11, ⟨by decide +kernel, by decide +kernel, by decide +kernel⟩, by decide, ⟨in_c7 185 rfl rfl, in_g 86 (by decide +kernel) (by decide +kernel)⟩⟩
set_option maxRecDepth 100000 in
theorem ml11_555 : MLk 0 Rc11 555 y11_play prog_13_method_92_code 3 (some (.int)) 1 := mk11_play.link (Or.inl (in_c7 183 rfl rfl))
set_option maxRecDepth 100000 in
theorem mk11_ones : MKk 1 y11_ones prog_13_method_7_code 3 (some (.int)) 1 := ⟨in_c8 114 rfl rfl, ini11, ⟨by decide +kernel, by decide +kernel, by decide +kernel⟩, by decide, in_c8 113 rfl rfl⟩
set_option maxRecDepth 100000 in
theorem ml11_558 : MLk 1 Rc11 558 y11_ones prog_13_method_7_code 3 (some (.int)) 1 := mk11_ones.link (Or.inl (in_c8 112 rfl rfl))
set_option maxRecDepth 100000 in
theorem mk11_onesL : MKk 1 y11_onesL prog_13_method_96_code 4 (some (.int)) 1 := ⟨in_c8 117 rfl rfl, ini11, ⟨by decide +kernel, by decide +kernel, by decide +kernel⟩, by decide, in_c8 116 rfl rfl⟩
set_option maxRecDepth 100000 in
theorem ml11_561 : MLk 1 Rc11 561 y11_onesL prog_13_method_96_code 4 (some (.int)) 1 := mk11_onesL.link (Or.inl (in_c8 115 rfl rfl))
set_option maxRecDepth 100000 in
theorem mk11_layState : MKk 0 y11_layState prog_13_method_95_code 4 (some (.boolean)) 3 := ⟨in_c8 107 rfl rfl, ini11, ⟨by decide +kernel, by decide +kernel, by decide +kernel⟩, by decide, ⟨in_c8 106 rfl rfl, in_g 122 (by decide +kernel) (by decide +kernel)⟩⟩
set_option maxRecDepth 100000 in
theorem ml11_564 : MLk 0 Rc11 564 y11_layState prog_13_method_95_code 4 (some (.boolean)) 3 := mk11_layState.link (Or.inl (in_c8 104 rfl rfl))
set_option maxRecDepth 100000 in
theorem mk11_ofState : MKk 0 y11_ofState prog_13_method_97_code 4 (some (.int)) 1 := ⟨in_c8 111 rfl rfl, ini11, ⟨by decide +kernel, by decide +kernel, by decide +kernel⟩, by decide, ⟨in_c8 110 rfl rfl, in_g 123 (by decide +kernel) (by decide +kernel)⟩⟩
set_option maxRecDepth 100000 in
theorem ml11_567 : MLk 0 Rc11 567 y11_ofState prog_13_method_97_code 4 (some (.int)) 1 := mk11_ofState.link (Or.inl (in_c8 108 rfl rfl))
set_option maxRecDepth 100000 in
theorem mk11_ofAsk : MKk 0 y11_ofAsk prog_13_method_101_code 4 (some (.int)) 2 := ⟨in_c8 133 rfl rfl, ini11, ⟨by decide +kernel, by decide +kernel, by decide +kernel⟩, by decide, ⟨in_c8 132 rfl rfl, in_g 124 (by decide +kernel) (by decide +kernel)⟩⟩
set_option maxRecDepth 100000 in
theorem ml11_570 : MLk 0 Rc11 570 y11_ofAsk prog_13_method_101_code 4 (some (.int)) 2 := mk11_ofAsk.link (Or.inl (in_c8 130 rfl rfl))
set_option maxRecDepth 100000 in
theorem mk11_isName : MKk 1 y11_isName prog_13_method_49_code 3 (some (.boolean)) 1 := ⟨in_c8 140 rfl rfl, ini11, ⟨by decide +kernel, by decide +kernel, by decide +kernel⟩, by decide, in_c8 139 rfl rfl⟩
set_option maxRecDepth 100000 in
theorem ml11_573 : MLk 1 Rc11 573 y11_isName prog_13_method_49_code 3 (some (.boolean)) 1 := mk11_isName.link (Or.inl (in_c8 138 rfl rfl))
set_option maxRecDepth 100000 in
theorem mk11_rowsAt : MKk 0 y11_rowsAt prog_13_method_104_code 7 (some (.int)) 1 := ⟨in_c8 148 rfl rfl, ini11, ⟨by decide +kernel, by decide +kernel, by decide +kernel⟩, by decide, ⟨in_c8 147 rfl rfl, in_g 125 (by decide +kernel) (by decide +kernel)⟩⟩
set_option maxRecDepth 100000 in
theorem ml11_576 : MLk 0 Rc11 576 y11_rowsAt prog_13_method_104_code 7 (some (.int)) 1 := mk11_rowsAt.link (Or.inl (in_c8 145 rfl rfl))
set_option maxRecDepth 100000 in
theorem fl11_579 : FLc Rc11 579 11 79 0 := ⟨⟨Rc11, Tc11, 87, ck11, by decide, Or.inl (in_c6 38 rfl rfl)⟩, by decide +kernel⟩
theorem fp11_579 : FPc Rc11 579 11 79 0 (.int) := ⟨fl11_579.1, fun C T N h => by cases h; exact ⟨rfl, by decide +kernel⟩, fl11_579.2⟩
set_option maxRecDepth 100000 in
theorem mk11_walks : MKk 0 y11_walks prog_13_method_107_code 7 (some (.int)) 2 := ⟨in_c8 160 rfl rfl, ini11, ⟨by decide +kernel, by decide +kernel, by decide +kernel⟩, by decide, ⟨in_c8 159 rfl rfl, in_g 126 (by decide +kernel) (by decide +kernel)⟩⟩
set_option maxRecDepth 100000 in
theorem ml11_582 : MLk 0 Rc11 582 y11_walks prog_13_method_107_code 7 (some (.int)) 2 := mk11_walks.link (Or.inl (in_c8 157 rfl rfl))
set_option maxRecDepth 100000 in
theorem fl11_585 : FLc Rc11 585 11 81 0 := ⟨⟨Rc11, Tc11, 87, ck11, by decide, Or.inl (in_c6 40 rfl rfl)⟩, by decide +kernel⟩
theorem fp11_585 : FPc Rc11 585 11 81 0 (.int) := ⟨fl11_585.1, fun C T N h => by cases h; exact ⟨rfl, by decide +kernel⟩, fl11_585.2⟩
set_option maxRecDepth 100000 in
theorem mk11_hasLog : MKk 0 y11_hasLog prog_13_method_112_code 2 (some (.boolean)) 1 := ⟨in_c8 172 rfl rfl, ini11, ⟨by decide +kernel, by decide +kernel, by decide +kernel⟩, by decide, ⟨in_c8 171 rfl rfl, in_g 127 (by decide +kernel) (by decide +kernel)⟩⟩
set_option maxRecDepth 100000 in
theorem ml11_588 : MLk 0 Rc11 588 y11_hasLog prog_13_method_112_code 2 (some (.boolean)) 1 := mk11_hasLog.link (Or.inl (in_c8 169 rfl rfl))
set_option maxRecDepth 100000 in
theorem mk11_facts : MKk 0 y11_facts prog_13_method_110_code 1 (some (.int)) 0 := ⟨in_c8 176 rfl rfl, ini11, ⟨by decide +kernel, by decide +kernel, by decide +kernel⟩, by decide, ⟨in_c8 175 rfl rfl, in_g 128 (by decide +kernel) (by decide +kernel)⟩⟩
set_option maxRecDepth 100000 in
theorem ml11_591 : MLk 0 Rc11 591 y11_facts prog_13_method_110_code 1 (some (.int)) 0 := mk11_facts.link (Or.inl (in_c8 173 rfl rfl))
set_option maxRecDepth 100000 in
theorem mk11_factOf : MKk 0 y11_factOf prog_13_method_111_code 3 (some (.int)) 2 := ⟨in_c8 180 rfl rfl, ini11, ⟨by decide +kernel, by decide +kernel, by decide +kernel⟩, by decide, ⟨in_c8 179 rfl rfl, in_g 129 (by decide +kernel) (by decide +kernel)⟩⟩
set_option maxRecDepth 100000 in
theorem ml11_594 : MLk 0 Rc11 594 y11_factOf prog_13_method_111_code 3 (some (.int)) 2 := mk11_factOf.link (Or.inl (in_c8 177 rfl rfl))
set_option maxRecDepth 100000 in
theorem fl11_597 : FLc Rc11 597 11 82 0 := ⟨⟨Rc11, Tc11, 87, ck11, by decide, Or.inl (in_c6 41 rfl rfl)⟩, by decide +kernel⟩
set_option maxRecDepth 100000 in
theorem fl11_600 : FLc Rc11 600 11 83 0 := ⟨⟨Rc11, Tc11, 87, ck11, by decide, Or.inl (in_c6 42 rfl rfl)⟩, by decide +kernel⟩
theorem fp11_600 : FPc Rc11 600 11 83 0 (.int) := ⟨fl11_600.1, fun C T N h => by cases h; exact ⟨rfl, by decide +kernel⟩, fl11_600.2⟩
theorem fp11_597 : FPc Rc11 597 11 82 0 (.int) := ⟨fl11_597.1, fun C T N h => by cases h; exact ⟨rfl, by decide +kernel⟩, fl11_597.2⟩
set_option maxRecDepth 100000 in
theorem mk11_isSo : MKk 0 y11_isSo prog_13_method_114_code 4 (some (.boolean)) 0 := ⟨in_c8 188 rfl rfl, ini11, ⟨by decide +kernel, by decide +kernel, by decide +kernel⟩, by decide, ⟨in_c8 187 rfl rfl, in_g 130 (by decide +kernel) (by decide +kernel)⟩⟩
set_option maxRecDepth 100000 in
theorem ml11_603 : MLk 0 Rc11 603 y11_isSo prog_13_method_114_code 4 (some (.boolean)) 0 := mk11_isSo.link (Or.inl (in_c8 185 rfl rfl))
set_option maxRecDepth 100000 in
theorem mk11_noteFit : MKk 0 y11_noteFit prog_13_method_115_code 4 none 2 := ⟨in_c8 192 rfl rfl, ini11, ⟨by decide +kernel, by decide +kernel, by decide +kernel⟩, by decide, ⟨in_c8 191 rfl rfl, in_g 131 (by decide +kernel) (by decide +kernel)⟩⟩
set_option maxRecDepth 100000 in
theorem ml11_606 : MLk 0 Rc11 606 y11_noteFit prog_13_method_115_code 4 none 2 := mk11_noteFit.link (Or.inl (in_c8 189 rfl rfl))
set_option maxRecDepth 100000 in
theorem mk11_askWhat : MKk 0 y11_askWhat prog_13_method_116_code 5 (some (.int)) 0 := ⟨in_c8 196 rfl rfl, ini11, ⟨by decide +kernel, by decide +kernel, by decide +kernel⟩, by decide, ⟨in_c8 195 rfl rfl, in_g 132 (by decide +kernel) (by decide +kernel)⟩⟩
set_option maxRecDepth 100000 in
theorem ml11_609 : MLk 0 Rc11 609 y11_askWhat prog_13_method_116_code 5 (some (.int)) 0 := mk11_askWhat.link (Or.inl (in_c8 193 rfl rfl))
set_option maxRecDepth 100000 in
theorem fl11_612 : FLc Rc11 612 11 85 0 := ⟨⟨Rc11, Tc11, 87, ck11, by decide, Or.inl (in_c6 44 rfl rfl)⟩, by decide +kernel⟩
theorem fp11_612 : FPc Rc11 612 11 85 0 (.int) := ⟨fl11_612.1, fun C T N h => by cases h; exact ⟨rfl, by decide +kernel⟩, fl11_612.2⟩
set_option maxRecDepth 100000 in
theorem mk11_draw : MKk 0 y11_draw prog_13_method_118_code 2 (some (.int)) 1 := ⟨in_c8 208 rfl rfl, ini11, ⟨by decide +kernel, by decide +kernel, by decide +kernel⟩, by decide, ⟨in_c8 207 rfl rfl, in_g 134 (by decide +kernel) (by decide +kernel)⟩⟩
set_option maxRecDepth 100000 in
theorem ml11_616 : MLk 0 Rc11 616 y11_draw prog_13_method_118_code 2 (some (.int)) 1 := mk11_draw.link (Or.inl (in_c8 205 rfl rfl))
set_option maxRecDepth 100000 in
theorem mk11_drawDeed : MKk 0 y11_drawDeed prog_13_method_119_code 6 none 1 := ⟨in_c8 204 rfl rfl, ini11, ⟨by decide +kernel, by decide +kernel, by decide +kernel⟩, by decide, ⟨in_c8 203 rfl rfl, in_g 133 (by decide +kernel) (by decide +kernel)⟩⟩
set_option maxRecDepth 100000 in
theorem ml11_619 : MLk 0 Rc11 619 y11_drawDeed prog_13_method_119_code 6 none 1 := mk11_drawDeed.link (Or.inl (in_c8 201 rfl rfl))
set_option maxRecDepth 100000 in
theorem mk11_common : MKk 1 y11_common prog_13_method_121_code 5 (some (.int)) 2 := ⟨in_c8 220 rfl rfl, ini11, ⟨by decide +kernel, by decide +kernel, by decide +kernel⟩, by decide, in_c8 219 rfl rfl⟩
set_option maxRecDepth 100000 in
theorem ml11_622 : MLk 1 Rc11 622 y11_common prog_13_method_121_code 5 (some (.int)) 2 := mk11_common.link (Or.inl (in_c8 218 rfl rfl))
set_option maxRecDepth 100000 in
theorem mk11_mean : MKk 0 y11_mean prog_13_method_122_code 5 (some (.int)) 1 := ⟨in_c8 217 rfl rfl, ini11, ⟨by decide +kernel, by decide +kernel, by decide +kernel⟩, by decide, ⟨in_c8 216 rfl rfl, in_g 135 (by decide +kernel) (by decide +kernel)⟩⟩
set_option maxRecDepth 100000 in
theorem ml11_625 : MLk 0 Rc11 625 y11_mean prog_13_method_122_code 5 (some (.int)) 1 := mk11_mean.link (Or.inl (in_c8 214 rfl rfl))
set_option maxRecDepth 100000 in
theorem mk11_linksAt : MKk 0 y11_linksAt prog_13_method_124_code 4 (some (.int)) 1 := ⟨in_c8 228 rfl rfl, ini11, ⟨by decide +kernel, by decide +kernel, by decide +kernel⟩, by decide, ⟨in_c8 227 rfl rfl, in_g 136 (by decide +kernel) (by decide +kernel)⟩⟩
set_option maxRecDepth 100000 in
theorem ml11_629 : MLk 0 Rc11 629 y11_linksAt prog_13_method_124_code 4 (some (.int)) 1 := mk11_linksAt.link (Or.inl (in_c8 225 rfl rfl))
set_option maxRecDepth 100000 in
theorem mk11_isServed : MKk 0 y11_isServed prog_13_method_126_code 3 (some (.boolean)) 1 := ⟨in_c8 232 rfl rfl, ini11, ⟨by decide +kernel, by decide +kernel, by decide +kernel⟩, by decide, ⟨in_c8 231 rfl rfl, in_g 137 (by decide +kernel) (by decide +kernel)⟩⟩
set_option maxRecDepth 100000 in
theorem ml11_632 : MLk 0 Rc11 632 y11_isServed prog_13_method_126_code 3 (some (.boolean)) 1 := mk11_isServed.link (Or.inl (in_c8 229 rfl rfl))
set_option maxRecDepth 100000 in
theorem mk11_isHidden : MKk 0 y11_isHidden prog_13_method_125_code 3 (some (.boolean)) 1 := ⟨in_c8 236 rfl rfl, ini11, ⟨by decide +kernel, by decide +kernel, by decide +kernel⟩, by decide, ⟨in_c8 235 rfl rfl, in_g 138 (by decide +kernel) (by decide +kernel)⟩⟩
set_option maxRecDepth 100000 in
theorem ml11_635 : MLk 0 Rc11 635 y11_isHidden prog_13_method_125_code 3 (some (.boolean)) 1 := mk11_isHidden.link (Or.inl (in_c8 233 rfl rfl))
set_option maxRecDepth 100000 in
theorem mk11_copyAll : MKk 0 y11_copyAll prog_13_method_9_code 4 none 2 := ⟨in_c9 8 rfl rfl, ini11, ⟨by decide +kernel, by decide +kernel, by decide +kernel⟩, by decide, ⟨in_c9 7 rfl rfl, in_g 139 (by decide +kernel) (by decide +kernel)⟩⟩
set_option maxRecDepth 100000 in
theorem ml11_638 : MLk 0 Rc11 638 y11_copyAll prog_13_method_9_code 4 none 2 := mk11_copyAll.link (Or.inl (in_c9 5 rfl rfl))
set_option maxRecDepth 100000 in
theorem fl10_12 : FLc Rc10 12 10 0 2 := ⟨⟨Rc10, Tc10, 16, ck10, by decide, Or.inl (in_c2 228 rfl rfl)⟩, by decide +kernel⟩
set_option maxRecDepth 100000 in
theorem fl10_12r : FLc Rc10 12 22 0 2 := ⟨⟨Rc10, Tc10, 16, ck22, by decide, Or.inl (in_c2 228 rfl rfl)⟩, by decide +kernel⟩
theorem fp10_12 : FPc Rc10 12 10 0 2 (.object "AskedNames$Net") := ⟨fl10_12.1, fun C T N h => by cases h; exact ⟨rfl, by decide +kernel⟩, fl10_12.2⟩
set_option maxRecDepth 100000 in
theorem fl10_18 : FLc Rc10 18 10 1 0 := ⟨⟨Rc10, Tc10, 16, ck10, by decide, Or.inl (in_c2 229 rfl rfl)⟩, by decide +kernel⟩
set_option maxRecDepth 100000 in
theorem fl10_18r : FLc Rc10 18 22 1 0 := ⟨⟨Rc10, Tc10, 16, ck22, by decide, Or.inl (in_c2 229 rfl rfl)⟩, by decide +kernel⟩
theorem fp10_18 : FPc Rc10 18 10 1 0 (.int) := ⟨fl10_18.1, fun C T N h => by cases h; exact ⟨rfl, by decide +kernel⟩, fl10_18.2⟩
set_option maxRecDepth 100000 in
theorem fl10_22 : FLc Rc10 22 10 2 0 := ⟨⟨Rc10, Tc10, 16, ck10, by decide, Or.inl (in_c2 230 rfl rfl)⟩, by decide +kernel⟩
set_option maxRecDepth 100000 in
theorem fl10_22r : FLc Rc10 22 22 2 0 := ⟨⟨Rc10, Tc10, 16, ck22, by decide, Or.inl (in_c2 230 rfl rfl)⟩, by decide +kernel⟩
theorem fp10_22 : FPc Rc10 22 10 2 0 (.int) := ⟨fl10_22.1, fun C T N h => by cases h; exact ⟨rfl, by decide +kernel⟩, fl10_22.2⟩
set_option maxRecDepth 100000 in
theorem fl10_25 : FLc Rc10 25 10 3 0 := ⟨⟨Rc10, Tc10, 16, ck10, by decide, Or.inl (in_c2 231 rfl rfl)⟩, by decide +kernel⟩
set_option maxRecDepth 100000 in
theorem fl10_25r : FLc Rc10 25 22 3 0 := ⟨⟨Rc10, Tc10, 16, ck22, by decide, Or.inl (in_c2 231 rfl rfl)⟩, by decide +kernel⟩
theorem fp10_25 : FPc Rc10 25 10 3 0 (.int) := ⟨fl10_25.1, fun C T N h => by cases h; exact ⟨rfl, by decide +kernel⟩, fl10_25.2⟩
set_option maxRecDepth 100000 in
theorem fl10_28 : FLc Rc10 28 10 4 0 := ⟨⟨Rc10, Tc10, 16, ck10, by decide, Or.inl (in_c2 232 rfl rfl)⟩, by decide +kernel⟩
set_option maxRecDepth 100000 in
theorem fl10_28r : FLc Rc10 28 22 4 0 := ⟨⟨Rc10, Tc10, 16, ck22, by decide, Or.inl (in_c2 232 rfl rfl)⟩, by decide +kernel⟩
theorem fp10_28 : FPc Rc10 28 10 4 0 (.int) := ⟨fl10_28.1, fun C T N h => by cases h; exact ⟨rfl, by decide +kernel⟩, fl10_28.2⟩
set_option maxRecDepth 100000 in
theorem fl10_33 : FLc Rc10 33 10 5 17 := ⟨⟨Rc10, Tc10, 16, ck10, by decide, Or.inl (in_c2 233 rfl rfl)⟩, by decide +kernel⟩
set_option maxRecDepth 100000 in
theorem fl10_33r : FLc Rc10 33 22 5 2 := ⟨⟨Rc10, Tc10, 16, ck22, by decide, Or.inl (in_c2 233 rfl rfl)⟩, by decide +kernel⟩
set_option maxRecDepth 100000 in
theorem fl10_37 : FLc Rc10 37 10 6 0 := ⟨⟨Rc10, Tc10, 16, ck10, by decide, Or.inl (in_c2 234 rfl rfl)⟩, by decide +kernel⟩
set_option maxRecDepth 100000 in
theorem fl10_37r : FLc Rc10 37 22 6 0 := ⟨⟨Rc10, Tc10, 16, ck22, by decide, Or.inl (in_c2 234 rfl rfl)⟩, by decide +kernel⟩
theorem fp10_37 : FPc Rc10 37 10 6 0 (.int) := ⟨fl10_37.1, fun C T N h => by cases h; exact ⟨rfl, by decide +kernel⟩, fl10_37.2⟩
set_option maxRecDepth 100000 in
theorem fl10_42 : FLc Rc10 42 10 7 18 := ⟨⟨Rc10, Tc10, 16, ck10, by decide, Or.inl (in_c2 235 rfl rfl)⟩, by decide +kernel⟩
set_option maxRecDepth 100000 in
theorem fl10_42r : FLc Rc10 42 22 7 2 := ⟨⟨Rc10, Tc10, 16, ck22, by decide, Or.inl (in_c2 235 rfl rfl)⟩, by decide +kernel⟩
set_option maxRecDepth 100000 in
theorem fl10_46 : FLc Rc10 46 10 8 0 := ⟨⟨Rc10, Tc10, 16, ck10, by decide, Or.inl (in_c2 236 rfl rfl)⟩, by decide +kernel⟩
set_option maxRecDepth 100000 in
theorem fl10_46r : FLc Rc10 46 22 8 0 := ⟨⟨Rc10, Tc10, 16, ck22, by decide, Or.inl (in_c2 236 rfl rfl)⟩, by decide +kernel⟩
theorem fp10_46 : FPc Rc10 46 10 8 0 (.int) := ⟨fl10_46.1, fun C T N h => by cases h; exact ⟨rfl, by decide +kernel⟩, fl10_46.2⟩
set_option maxRecDepth 100000 in
theorem fl10_50 : FLc Rc10 50 10 9 19 := ⟨⟨Rc10, Tc10, 16, ck10, by decide, Or.inl (in_c2 237 rfl rfl)⟩, by decide +kernel⟩
set_option maxRecDepth 100000 in
theorem fl10_50r : FLc Rc10 50 22 9 2 := ⟨⟨Rc10, Tc10, 16, ck22, by decide, Or.inl (in_c2 237 rfl rfl)⟩, by decide +kernel⟩
set_option maxRecDepth 100000 in
theorem fl10_54 : FLc Rc10 54 10 10 20 := ⟨⟨Rc10, Tc10, 16, ck10, by decide, Or.inl (in_c2 238 rfl rfl)⟩, by decide +kernel⟩
set_option maxRecDepth 100000 in
theorem fl10_54r : FLc Rc10 54 22 10 2 := ⟨⟨Rc10, Tc10, 16, ck22, by decide, Or.inl (in_c2 238 rfl rfl)⟩, by decide +kernel⟩
set_option maxRecDepth 100000 in
theorem fl10_57 : FLc Rc10 57 10 11 21 := ⟨⟨Rc10, Tc10, 16, ck10, by decide, Or.inl (in_c2 239 rfl rfl)⟩, by decide +kernel⟩
set_option maxRecDepth 100000 in
theorem fl10_57r : FLc Rc10 57 22 11 2 := ⟨⟨Rc10, Tc10, 16, ck22, by decide, Or.inl (in_c2 239 rfl rfl)⟩, by decide +kernel⟩
set_option maxRecDepth 100000 in
theorem fl10_61 : FLc Rc10 61 10 12 22 := ⟨⟨Rc10, Tc10, 16, ck10, by decide, Or.inl (in_c3 0 rfl rfl)⟩, by decide +kernel⟩
set_option maxRecDepth 100000 in
theorem fl10_61r : FLc Rc10 61 22 12 2 := ⟨⟨Rc10, Tc10, 16, ck22, by decide, Or.inl (in_c3 0 rfl rfl)⟩, by decide +kernel⟩
set_option maxRecDepth 100000 in
theorem fl10_67 : FLc Rc10 67 10 13 23 := ⟨⟨Rc10, Tc10, 16, ck10, by decide, Or.inl (in_c3 1 rfl rfl)⟩, by decide +kernel⟩
set_option maxRecDepth 100000 in
theorem fl10_67r : FLc Rc10 67 22 13 2 := ⟨⟨Rc10, Tc10, 16, ck22, by decide, Or.inl (in_c3 1 rfl rfl)⟩, by decide +kernel⟩
set_option maxRecDepth 100000 in
theorem fl10_73 : FLc Rc10 73 10 14 24 := ⟨⟨Rc10, Tc10, 16, ck10, by decide, Or.inl (in_c3 3 rfl rfl)⟩, by decide +kernel⟩
set_option maxRecDepth 100000 in
theorem fl10_73r : FLc Rc10 73 22 14 2 := ⟨⟨Rc10, Tc10, 16, ck22, by decide, Or.inl (in_c3 3 rfl rfl)⟩, by decide +kernel⟩
set_option maxRecDepth 100000 in
theorem fl10_77 : FLc Rc10 77 10 15 25 := ⟨⟨Rc10, Tc10, 16, ck10, by decide, Or.inl (in_c3 5 rfl rfl)⟩, by decide +kernel⟩
set_option maxRecDepth 100000 in
theorem fl10_77r : FLc Rc10 77 22 15 2 := ⟨⟨Rc10, Tc10, 16, ck22, by decide, Or.inl (in_c3 5 rfl rfl)⟩, by decide +kernel⟩
set_option maxRecDepth 100000 in
theorem ml10_83 : MLk 1 Rc10 83 yJArrays_fill_IIV prog_21_method_103_code 4 none 2 := mkJArrays_fill_IIV.link (Or.inl (in_c4 75 rfl rfl))
set_option maxRecDepth 100000 in
theorem mkJArrays_fill_JJV : MKk 1 yJArrays_fill_JJV prog_21_method_101_code 5 none 2 := ⟨in_c4 78 rfl rfl, in_c1 13 rfl rfl, ⟨by decide +kernel, by decide +kernel, by decide +kernel⟩, by decide, in_c4 77 rfl rfl⟩
set_option maxRecDepth 100000 in
theorem ml10_89 : MLk 1 Rc10 89 yJArrays_fill_JJV prog_21_method_101_code 5 none 2 := mkJArrays_fill_JJV.link (Or.inl (in_c4 76 rfl rfl))
set_option maxRecDepth 100000 in
theorem fl10_92 : FLc Rc10 92 8 0 0 := ⟨⟨Rc8, Tc8, 4, ck8, by decide, Or.inr ⟨"AskedNames", in_k2 168 rfl⟩⟩, by decide +kernel⟩
theorem fp10_92 : FPc Rc10 92 8 0 0 (.int) := ⟨fl10_92.1, fun C T N h => by cases h; exact ⟨rfl, by decide +kernel⟩, fl10_92.2⟩
set_option maxRecDepth 100000 in
theorem ml10_95 : MLk 0 Rc10 95 y10_begin prog_2_method_2_code 4 none 2 := mk10_begin.link (Or.inl (in_c4 71 rfl rfl))
set_option maxRecDepth 100000 in
theorem fl10_99 : FLc Rc10 99 3 0 0 := ⟨⟨Rc3, Tc3, 4, ck3, by decide, Or.inr ⟨"AskedNames", in_k1 134 rfl⟩⟩, by decide +kernel⟩
set_option maxRecDepth 100000 in
theorem mk10_perform : MKk 0 y10_perform prog_2_method_4_code 8 (some (.boolean)) 2 := ⟨in_c4 82 rfl rfl, ini10, ⟨by decide +kernel, by decide +kernel, by decide +kernel⟩, by decide, ⟨in_c4 81 rfl rfl, in_g 13 (by decide +kernel) (by decide +kernel)⟩⟩
set_option maxRecDepth 100000 in
theorem ml10_104 : MLk 0 Rc10 104 y10_perform prog_2_method_4_code 8 (some (.boolean)) 2 := mk10_perform.link (Or.inl (in_c4 79 rfl rfl))
set_option maxRecDepth 100000 in
theorem ml10_108 : MLk 1 Rc10 108 yJMath_max prog_16_method_65_code 2 (some (.int)) 2 := mkJMath_max.link (Or.inl (in_c4 217 rfl rfl))
set_option maxRecDepth 100000 in
theorem mkJMath_min : MKk 1 yJMath_min prog_16_method_69_code 2 (some (.int)) 2 := ⟨in_c4 220 rfl rfl, in_c1 18 rfl rfl, ⟨by decide +kernel, by decide +kernel, by decide +kernel⟩, by decide, in_c4 219 rfl rfl⟩
set_option maxRecDepth 100000 in
theorem ml10_114 : MLk 1 Rc10 114 yJMath_min prog_16_method_69_code 2 (some (.int)) 2 := mkJMath_min.link (Or.inl (in_c4 218 rfl rfl))
set_option maxRecDepth 100000 in
theorem fl10_117 : FLc Rc10 117 3 2 5 := ⟨⟨Rc3, Tc3, 4, ck3, by decide, Or.inr ⟨"AskedNames", in_k1 140 rfl⟩⟩, by decide +kernel⟩
set_option maxRecDepth 100000 in
theorem fl10_120 : FLc Rc10 120 3 3 6 := ⟨⟨Rc3, Tc3, 4, ck3, by decide, Or.inr ⟨"AskedNames", in_k1 143 rfl⟩⟩, by decide +kernel⟩
set_option maxRecDepth 100000 in
theorem fl10_123 : FLc Rc10 123 3 1 4 := ⟨⟨Rc3, Tc3, 4, ck3, by decide, Or.inr ⟨"AskedNames", in_k1 137 rfl⟩⟩, by decide +kernel⟩
set_option maxRecDepth 100000 in
theorem ml10_126 : MLk 0 Rc10 126 y2_hasNode prog_7_method_7_code 2 (some (.boolean)) 1 := mk2_hasNode.link (Or.inl (in_c4 83 rfl rfl))
set_option maxRecDepth 100000 in
theorem mk10_ask : MKk 0 y10_ask prog_2_method_10_code 5 none 4 := ⟨in_c4 87 rfl rfl, ini10, ⟨by decide +kernel, by decide +kernel, by decide +kernel⟩, by decide, ⟨in_c4 86 rfl rfl, in_g 14 (by decide +kernel) (by decide +kernel)⟩⟩
set_option maxRecDepth 100000 in
theorem ml10_130 : MLk 0 Rc10 130 y10_ask prog_2_method_10_code 5 none 4 := mk10_ask.link (Or.inl (in_c4 84 rfl rfl))
set_option maxRecDepth 100000 in
theorem mk10_passMinute : MKk 0 y10_passMinute prog_2_method_11_code 3 none 0 := ⟨in_c4 175 rfl rfl, ini10, ⟨by decide +kernel, by decide +kernel, by decide +kernel⟩, by decide, ⟨in_c4 174 rfl rfl, in_g 28 (by decide +kernel) (by decide +kernel)⟩⟩
set_option maxRecDepth 100000 in
theorem ml10_134 : MLk 0 Rc10 134 y10_passMinute prog_2_method_11_code 3 none 0 := mk10_passMinute.link (Or.inl (in_c4 172 rfl rfl))
set_option maxRecDepth 100000 in
theorem mk2_linkBetween : MKk 0 y2_linkBetween prog_7_method_8_code 3 (some (.int)) 2 := ⟨in_c4 216 rfl rfl, ini2, ⟨by decide +kernel, by decide +kernel, by decide +kernel⟩, by decide, ⟨in_c4 214 rfl rfl, in_c4 215 rfl rfl⟩⟩
set_option maxRecDepth 100000 in
theorem ml10_137 : MLk 0 Rc10 137 y2_linkBetween prog_7_method_8_code 3 (some (.int)) 2 := mk2_linkBetween.link (Or.inl (in_c4 213 rfl rfl))
set_option maxRecDepth 100000 in
theorem mk10_below : MKk 0 y10_below prog_2_method_9_code 2 (some (.int)) 1 := ⟨in_c5 134 rfl rfl, ini10, ⟨by decide +kernel, by decide +kernel, by decide +kernel⟩, by decide, ⟨in_c5 133 rfl rfl, in_g 45 (by decide +kernel) (by decide +kernel)⟩⟩
set_option maxRecDepth 100000 in
theorem ml10_140 : MLk 0 Rc10 140 y10_below prog_2_method_9_code 2 (some (.int)) 1 := mk10_below.link (Or.inl (in_c5 131 rfl rfl))
set_option maxRecDepth 100000 in
theorem mk10_drawAsk : MKk 0 y10_drawAsk prog_2_method_7_code 7 none 2 := ⟨in_c5 139 rfl rfl, ini10, ⟨by decide +kernel, by decide +kernel, by decide +kernel⟩, by decide, ⟨in_c5 138 rfl rfl, in_g 46 (by decide +kernel) (by decide +kernel)⟩⟩
set_option maxRecDepth 100000 in
theorem ml10_144 : MLk 0 Rc10 144 y10_drawAsk prog_2_method_7_code 7 none 2 := mk10_drawAsk.link (Or.inl (in_c5 136 rfl rfl))
set_option maxRecDepth 100000 in
theorem mk10_drawWait : MKk 0 y10_drawWait prog_2_method_8_code 4 none 0 := ⟨in_c5 143 rfl rfl, ini10, ⟨by decide +kernel, by decide +kernel, by decide +kernel⟩, by decide, ⟨in_c5 142 rfl rfl, in_g 47 (by decide +kernel) (by decide +kernel)⟩⟩
set_option maxRecDepth 100000 in
theorem ml10_148 : MLk 0 Rc10 148 y10_drawWait prog_2_method_8_code 4 none 0 := mk10_drawWait.link (Or.inl (in_c5 140 rfl rfl))
set_option maxRecDepth 100000 in
theorem fl10_151 : FLc Rc10 151 2 2 0 := ⟨⟨Rc2, Tc2, 17, ck2, by decide, Or.inr ⟨"AskedNames", in_k1 53 rfl⟩⟩, by decide +kernel⟩
set_option maxRecDepth 100000 in
theorem fl10_154 : FLc Rc10 154 2 4 0 := ⟨⟨Rc2, Tc2, 17, ck2, by decide, Or.inr ⟨"AskedNames", in_k1 61 rfl⟩⟩, by decide +kernel⟩
set_option maxRecDepth 100000 in
theorem fl10_157 : FLc Rc10 157 2 0 0 := ⟨⟨Rc2, Tc2, 17, ck2, by decide, Or.inr ⟨"AskedNames", in_k1 46 rfl⟩⟩, by decide +kernel⟩
set_option maxRecDepth 100000 in
theorem fl10_160 : FLc Rc10 160 2 15 14 := ⟨⟨Rc2, Tc2, 17, ck2, by decide, Or.inr ⟨"AskedNames", in_k1 85 rfl⟩⟩, by decide +kernel⟩
set_option maxRecDepth 100000 in
theorem mk9_begin : MKk 0 y9_begin prog_4_method_2_code 2 none 1 := ⟨in_c4 91 rfl rfl, ini9, ⟨by decide +kernel, by decide +kernel, by decide +kernel⟩, by decide, ⟨in_c4 89 rfl rfl, in_c4 90 rfl rfl⟩⟩
set_option maxRecDepth 100000 in
theorem ml10_164 : MLk 0 Rc10 164 y9_begin prog_4_method_2_code 2 none 1 := mk9_begin.link (Or.inl (in_c4 88 rfl rfl))
set_option maxRecDepth 100000 in
theorem mk10_isMet : MKk 0 y10_isMet prog_2_method_14_code 11 (some (.boolean)) 5 := ⟨in_c4 95 rfl rfl, ini10, ⟨by decide +kernel, by decide +kernel, by decide +kernel⟩, by decide, ⟨in_c4 94 rfl rfl, in_g 15 (by decide +kernel) (by decide +kernel)⟩⟩
set_option maxRecDepth 100000 in
theorem ml10_167 : MLk 0 Rc10 167 y10_isMet prog_2_method_14_code 11 (some (.boolean)) 5 := mk10_isMet.link (Or.inl (in_c4 92 rfl rfl))
set_option maxRecDepth 100000 in
theorem mk10_makeEntry : MKk 0 y10_makeEntry prog_2_method_15_code 7 none 5 := ⟨in_c4 159 rfl rfl, ini10, ⟨by decide +kernel, by decide +kernel, by decide +kernel⟩, by decide, ⟨in_c4 158 rfl rfl, in_g 26 (by decide +kernel) (by decide +kernel)⟩⟩
set_option maxRecDepth 100000 in
theorem ml10_171 : MLk 0 Rc10 171 y10_makeEntry prog_2_method_15_code 7 none 5 := mk10_makeEntry.link (Or.inl (in_c4 156 rfl rfl))
set_option maxRecDepth 100000 in
theorem mk10_endEntries : MKk 0 y10_endEntries prog_2_method_12_code 5 none 0 := ⟨in_c4 179 rfl rfl, ini10, ⟨by decide +kernel, by decide +kernel, by decide +kernel⟩, by decide, ⟨in_c4 178 rfl rfl, in_g 29 (by decide +kernel) (by decide +kernel)⟩⟩
set_option maxRecDepth 100000 in
theorem ml10_175 : MLk 0 Rc10 175 y10_endEntries prog_2_method_12_code 5 none 0 := mk10_endEntries.link (Or.inl (in_c4 176 rfl rfl))
set_option maxRecDepth 100000 in
theorem fl10_178 : FLc Rc10 178 7 3 0 := ⟨⟨Rc7, Tc7, 14, ck7, by decide, Or.inr ⟨"AskedNames", in_k2 54 rfl⟩⟩, by decide +kernel⟩
set_option maxRecDepth 100000 in
theorem mk10_land : MKk 0 y10_land prog_2_method_13_code 4 none 1 := ⟨in_c4 187 rfl rfl, ini10, ⟨by decide +kernel, by decide +kernel, by decide +kernel⟩, by decide, ⟨in_c4 186 rfl rfl, in_g 31 (by decide +kernel) (by decide +kernel)⟩⟩
set_option maxRecDepth 100000 in
theorem ml10_181 : MLk 0 Rc10 181 y10_land prog_2_method_13_code 4 none 1 := mk10_land.link (Or.inl (in_c4 184 rfl rfl))
set_option maxRecDepth 100000 in
theorem fl10_184 : FLc Rc10 184 7 0 0 := ⟨⟨Rc7, Tc7, 14, ck7, by decide, Or.inr ⟨"AskedNames", in_k2 48 rfl⟩⟩, by decide +kernel⟩
set_option maxRecDepth 100000 in
theorem mk10_takeData : MKk 0 y10_takeData prog_2_method_19_code 6 none 0 := ⟨in_c4 191 rfl rfl, ini10, ⟨by decide +kernel, by decide +kernel, by decide +kernel⟩, by decide, ⟨in_c4 190 rfl rfl, in_g 32 (by decide +kernel) (by decide +kernel)⟩⟩
set_option maxRecDepth 100000 in
theorem ml10_186 : MLk 0 Rc10 186 y10_takeData prog_2_method_19_code 6 none 0 := mk10_takeData.link (Or.inl (in_c4 188 rfl rfl))
set_option maxRecDepth 100000 in
theorem mk10_takeNack : MKk 0 y10_takeNack prog_2_method_22_code 2 none 0 := ⟨in_c4 212 rfl rfl, ini10, ⟨by decide +kernel, by decide +kernel, by decide +kernel⟩, by decide, ⟨in_c4 211 rfl rfl, in_g 36 (by decide +kernel) (by decide +kernel)⟩⟩
set_option maxRecDepth 100000 in
theorem ml10_189 : MLk 0 Rc10 189 y10_takeNack prog_2_method_22_code 2 none 0 := mk10_takeNack.link (Or.inl (in_c4 209 rfl rfl))
set_option maxRecDepth 100000 in
theorem fl10_192 : FLc Rc10 192 7 2 0 := ⟨⟨Rc7, Tc7, 14, ck7, by decide, Or.inr ⟨"AskedNames", in_k2 52 rfl⟩⟩, by decide +kernel⟩
set_option maxRecDepth 100000 in
theorem fl10_195 : FLc Rc10 195 7 1 0 := ⟨⟨Rc7, Tc7, 14, ck7, by decide, Or.inr ⟨"AskedNames", in_k2 50 rfl⟩⟩, by decide +kernel⟩
set_option maxRecDepth 100000 in
theorem fl10_198 : FLc Rc10 198 7 4 0 := ⟨⟨Rc7, Tc7, 14, ck7, by decide, Or.inr ⟨"AskedNames", in_k2 57 rfl⟩⟩, by decide +kernel⟩
set_option maxRecDepth 100000 in
theorem fl10_201 : FLc Rc10 201 7 5 0 := ⟨⟨Rc7, Tc7, 14, ck7, by decide, Or.inr ⟨"AskedNames", in_k2 59 rfl⟩⟩, by decide +kernel⟩
set_option maxRecDepth 100000 in
theorem fl10_204 : FLc Rc10 204 7 6 0 := ⟨⟨Rc7, Tc7, 14, ck7, by decide, Or.inr ⟨"AskedNames", in_k2 61 rfl⟩⟩, by decide +kernel⟩
set_option maxRecDepth 100000 in
theorem fl10_207 : FLc Rc10 207 6 10 0 := ⟨⟨Rc6, Tc6, 11, ck6, by decide, Or.inr ⟨"AskedNames", in_k2 137 rfl⟩⟩, by decide +kernel⟩
set_option maxRecDepth 100000 in
theorem fl10_210 : FLc Rc10 210 6 7 0 := ⟨⟨Rc6, Tc6, 11, ck6, by decide, Or.inr ⟨"AskedNames", in_k2 131 rfl⟩⟩, by decide +kernel⟩
set_option maxRecDepth 100000 in
theorem fl10_213 : FLc Rc10 213 6 0 0 := ⟨⟨Rc6, Tc6, 11, ck6, by decide, Or.inr ⟨"AskedNames", in_k2 117 rfl⟩⟩, by decide +kernel⟩
set_option maxRecDepth 100000 in
theorem fl10_216 : FLc Rc10 216 2 1 0 := ⟨⟨Rc2, Tc2, 17, ck2, by decide, Or.inr ⟨"AskedNames", in_k1 50 rfl⟩⟩, by decide +kernel⟩
set_option maxRecDepth 100000 in
theorem fl10_219 : FLc Rc10 219 6 4 1 := ⟨⟨Rc6, Tc6, 11, ck6, by decide, Or.inr ⟨"AskedNames", in_k2 125 rfl⟩⟩, by decide +kernel⟩
set_option maxRecDepth 100000 in
theorem fl10_223 : FLc Rc10 223 9 0 0 := ⟨⟨Rc9, Tc9, 8, ck9, by decide, Or.inr ⟨"AskedNames", in_k2 194 rfl⟩⟩, by decide +kernel⟩
theorem fp10_223 : FPc Rc10 223 9 0 0 (.int) := ⟨fl10_223.1, fun C T N h => by cases h; exact ⟨rfl, by decide +kernel⟩, fl10_223.2⟩
set_option maxRecDepth 100000 in
theorem fl10_226 : FLc Rc10 226 9 2 0 := ⟨⟨Rc9, Tc9, 8, ck9, by decide, Or.inr ⟨"AskedNames", in_k2 199 rfl⟩⟩, by decide +kernel⟩
theorem fp10_226 : FPc Rc10 226 9 2 0 (.int) := ⟨fl10_226.1, fun C T N h => by cases h; exact ⟨rfl, by decide +kernel⟩, fl10_226.2⟩
set_option maxRecDepth 100000 in
theorem fl10_229 : FLc Rc10 229 6 5 1 := ⟨⟨Rc6, Tc6, 11, ck6, by decide, Or.inr ⟨"AskedNames", in_k2 127 rfl⟩⟩, by decide +kernel⟩
set_option maxRecDepth 100000 in
theorem mk10_drop : MKk 0 y10_drop prog_2_method_24_code 4 none 1 := ⟨in_c4 183 rfl rfl, ini10, ⟨by decide +kernel, by decide +kernel, by decide +kernel⟩, by decide, ⟨in_c4 182 rfl rfl, in_g 30 (by decide +kernel) (by decide +kernel)⟩⟩
set_option maxRecDepth 100000 in
theorem ml10_232 : MLk 0 Rc10 232 y10_drop prog_2_method_24_code 4 none 1 := mk10_drop.link (Or.inl (in_c4 180 rfl rfl))
set_option maxRecDepth 100000 in
theorem mk7_copy : MKk 0 y7_copy prog_6_method_2_code 2 none 1 := ⟨in_c4 131 rfl rfl, ini7, ⟨by decide +kernel, by decide +kernel, by decide +kernel⟩, by decide, ⟨in_c4 129 rfl rfl, in_c4 130 rfl rfl⟩⟩
set_option maxRecDepth 100000 in
theorem ml10_235 : MLk 0 Rc10 235 y7_copy prog_6_method_2_code 2 none 1 := mk7_copy.link (Or.inl (in_c4 128 rfl rfl))
set_option maxRecDepth 100000 in
theorem mk10_find : MKk 0 y10_find prog_2_method_31_code 6 (some (.int)) 3 := ⟨in_c4 99 rfl rfl, ini10, ⟨by decide +kernel, by decide +kernel, by decide +kernel⟩, by decide, ⟨in_c4 98 rfl rfl, in_g 16 (by decide +kernel) (by decide +kernel)⟩⟩
set_option maxRecDepth 100000 in
theorem ml10_239 : MLk 0 Rc10 239 y10_find prog_2_method_31_code 6 (some (.int)) 3 := mk10_find.link (Or.inl (in_c4 96 rfl rfl))
set_option maxRecDepth 100000 in
theorem mk8_find : MKk 0 y8_find prog_10_method_2_code 3 (some (.int)) 1 := ⟨in_c4 103 rfl rfl, ini8, ⟨by decide +kernel, by decide +kernel, by decide +kernel⟩, by decide, ⟨in_c4 101 rfl rfl, in_c4 102 rfl rfl⟩⟩
set_option maxRecDepth 100000 in
theorem ml10_243 : MLk 0 Rc10 243 y8_find prog_10_method_2_code 3 (some (.int)) 1 := mk8_find.link (Or.inl (in_c4 100 rfl rfl))
set_option maxRecDepth 100000 in
theorem fl10_245 : FLc Rc10 245 8 2 5 := ⟨⟨Rc8, Tc8, 4, ck8, by decide, Or.inr ⟨"AskedNames", in_k2 175 rfl⟩⟩, by decide +kernel⟩
set_option maxRecDepth 100000 in
theorem ml10_248 : MLk 0 Rc10 248 y2_serving prog_7_method_14_code 6 (some (.int)) 2 := mk2_serving.link (Or.inl (in_c4 104 rfl rfl))
set_option maxRecDepth 100000 in
theorem mk10_sayNack : MKk 0 y10_sayNack prog_2_method_30_code 5 none 4 := ⟨in_c4 111 rfl rfl, ini10, ⟨by decide +kernel, by decide +kernel, by decide +kernel⟩, by decide, ⟨in_c4 110 rfl rfl, in_g 17 (by decide +kernel) (by decide +kernel)⟩⟩
set_option maxRecDepth 100000 in
theorem ml10_251 : MLk 0 Rc10 251 y10_sayNack prog_2_method_30_code 5 none 4 := mk10_sayNack.link (Or.inl (in_c4 108 rfl rfl))
set_option maxRecDepth 100000 in
theorem mk10_answer : MKk 0 y10_answer prog_2_method_25_code 4 none 3 := ⟨in_c4 115 rfl rfl, ini10, ⟨by decide +kernel, by decide +kernel, by decide +kernel⟩, by decide, ⟨in_c4 114 rfl rfl, in_g 18 (by decide +kernel) (by decide +kernel)⟩⟩
set_option maxRecDepth 100000 in
theorem ml10_254 : MLk 0 Rc10 254 y10_answer prog_2_method_25_code 4 none 3 := mk10_answer.link (Or.inl (in_c4 112 rfl rfl))
set_option maxRecDepth 100000 in
theorem mk10_sayStored : MKk 0 y10_sayStored prog_2_method_28_code 4 none 3 := ⟨in_c4 135 rfl rfl, ini10, ⟨by decide +kernel, by decide +kernel, by decide +kernel⟩, by decide, ⟨in_c4 134 rfl rfl, in_g 22 (by decide +kernel) (by decide +kernel)⟩⟩
set_option maxRecDepth 100000 in
theorem ml10_258 : MLk 0 Rc10 258 y10_sayStored prog_2_method_28_code 4 none 3 := mk10_sayStored.link (Or.inl (in_c4 132 rfl rfl))
set_option maxRecDepth 100000 in
theorem mk8_use : MKk 0 y8_use prog_10_method_3_code 5 none 1 := ⟨in_c4 139 rfl rfl, ini8, ⟨by decide +kernel, by decide +kernel, by decide +kernel⟩, by decide, ⟨in_c4 137 rfl rfl, in_c4 138 rfl rfl⟩⟩
set_option maxRecDepth 100000 in
theorem ml10_262 : MLk 0 Rc10 262 y8_use prog_10_method_3_code 5 none 1 := mk8_use.link (Or.inl (in_c4 136 rfl rfl))
set_option maxRecDepth 100000 in
theorem fl10_265 : FLc Rc10 265 2 16 15 := ⟨⟨Rc2, Tc2, 17, ck2, by decide, Or.inr ⟨"AskedNames", in_k1 87 rfl⟩⟩, by decide +kernel⟩
set_option maxRecDepth 100000 in
theorem mk10_sayServed : MKk 0 y10_sayServed prog_2_method_29_code 4 none 3 := ⟨in_c4 151 rfl rfl, ini10, ⟨by decide +kernel, by decide +kernel, by decide +kernel⟩, by decide, ⟨in_c4 150 rfl rfl, in_g 25 (by decide +kernel) (by decide +kernel)⟩⟩
set_option maxRecDepth 100000 in
theorem ml10_268 : MLk 0 Rc10 268 y10_sayServed prog_2_method_29_code 4 none 3 := mk10_sayServed.link (Or.inl (in_c4 148 rfl rfl))
set_option maxRecDepth 100000 in
theorem mk6_join : MKk 0 y6_join prog_3_method_2_code 3 none 2 := ⟨in_c4 155 rfl rfl, ini6, ⟨by decide +kernel, by decide +kernel, by decide +kernel⟩, by decide, ⟨in_c4 153 rfl rfl, in_c4 154 rfl rfl⟩⟩
set_option maxRecDepth 100000 in
theorem ml10_271 : MLk 0 Rc10 271 y6_join prog_3_method_2_code 3 none 2 := mk6_join.link (Or.inl (in_c4 152 rfl rfl))
theorem fp10_213 : FPc Rc10 213 6 0 0 (.int) := ⟨fl10_213.1, fun C T N h => by cases h; exact ⟨rfl, by decide +kernel⟩, fl10_213.2⟩
set_option maxRecDepth 100000 in
theorem fl10_274 : FLc Rc10 274 6 1 0 := ⟨⟨Rc6, Tc6, 11, ck6, by decide, Or.inr ⟨"AskedNames", in_k2 119 rfl⟩⟩, by decide +kernel⟩
theorem fp10_274 : FPc Rc10 274 6 1 0 (.int) := ⟨fl10_274.1, fun C T N h => by cases h; exact ⟨rfl, by decide +kernel⟩, fl10_274.2⟩
set_option maxRecDepth 100000 in
theorem fl10_275 : FLc Rc10 275 6 2 0 := ⟨⟨Rc6, Tc6, 11, ck6, by decide, Or.inr ⟨"AskedNames", in_k2 121 rfl⟩⟩, by decide +kernel⟩
theorem fp10_275 : FPc Rc10 275 6 2 0 (.int) := ⟨fl10_275.1, fun C T N h => by cases h; exact ⟨rfl, by decide +kernel⟩, fl10_275.2⟩
set_option maxRecDepth 100000 in
theorem fl10_276 : FLc Rc10 276 6 3 0 := ⟨⟨Rc6, Tc6, 11, ck6, by decide, Or.inr ⟨"AskedNames", in_k2 123 rfl⟩⟩, by decide +kernel⟩
theorem fp10_276 : FPc Rc10 276 6 3 0 (.int) := ⟨fl10_276.1, fun C T N h => by cases h; exact ⟨rfl, by decide +kernel⟩, fl10_276.2⟩
theorem fp10_219 : FPc Rc10 219 6 4 1 (.long) := ⟨fl10_219.1, fun C T N h => by cases h; exact ⟨rfl, by decide +kernel⟩, fl10_219.2⟩
theorem fp10_229 : FPc Rc10 229 6 5 1 (.long) := ⟨fl10_229.1, fun C T N h => by cases h; exact ⟨rfl, by decide +kernel⟩, fl10_229.2⟩
set_option maxRecDepth 100000 in
theorem fl10_279 : FLc Rc10 279 6 6 0 := ⟨⟨Rc6, Tc6, 11, ck6, by decide, Or.inr ⟨"AskedNames", in_k2 129 rfl⟩⟩, by decide +kernel⟩
theorem fp10_279 : FPc Rc10 279 6 6 0 (.int) := ⟨fl10_279.1, fun C T N h => by cases h; exact ⟨rfl, by decide +kernel⟩, fl10_279.2⟩
theorem fp10_210 : FPc Rc10 210 6 7 0 (.int) := ⟨fl10_210.1, fun C T N h => by cases h; exact ⟨rfl, by decide +kernel⟩, fl10_210.2⟩
set_option maxRecDepth 100000 in
theorem fl10_282 : FLc Rc10 282 6 8 0 := ⟨⟨Rc6, Tc6, 11, ck6, by decide, Or.inr ⟨"AskedNames", in_k2 133 rfl⟩⟩, by decide +kernel⟩
theorem fp10_282 : FPc Rc10 282 6 8 0 (.int) := ⟨fl10_282.1, fun C T N h => by cases h; exact ⟨rfl, by decide +kernel⟩, fl10_282.2⟩
theorem fp10_207 : FPc Rc10 207 6 10 0 (.int) := ⟨fl10_207.1, fun C T N h => by cases h; exact ⟨rfl, by decide +kernel⟩, fl10_207.2⟩
set_option maxRecDepth 100000 in
theorem mk10_goOn : MKk 0 y10_goOn prog_2_method_16_code 3 (some (.boolean)) 1 := ⟨in_c4 163 rfl rfl, ini10, ⟨by decide +kernel, by decide +kernel, by decide +kernel⟩, by decide, ⟨in_c4 162 rfl rfl, in_g 27 (by decide +kernel) (by decide +kernel)⟩⟩
set_option maxRecDepth 100000 in
theorem ml10_285 : MLk 0 Rc10 285 y10_goOn prog_2_method_16_code 3 (some (.boolean)) 1 := mk10_goOn.link (Or.inl (in_c4 160 rfl rfl))
set_option maxRecDepth 100000 in
theorem ml10_289 : MLk 0 Rc10 289 y10_bestWay prog_2_method_17_code 12 (some (.int)) 3 := mk10_bestWay.link (Or.inl (in_c4 164 rfl rfl))
set_option maxRecDepth 100000 in
theorem fl10_292 : FLc Rc10 292 6 9 0 := ⟨⟨Rc6, Tc6, 11, ck6, by decide, Or.inr ⟨"AskedNames", in_k2 135 rfl⟩⟩, by decide +kernel⟩
theorem fp10_292 : FPc Rc10 292 6 9 0 (.int) := ⟨fl10_292.1, fun C T N h => by cases h; exact ⟨rfl, by decide +kernel⟩, fl10_292.2⟩
theorem fp10_184 : FPc Rc10 184 7 0 0 (.int) := ⟨fl10_184.1, fun C T N h => by cases h; exact ⟨rfl, by decide +kernel⟩, fl10_184.2⟩
theorem fp10_198 : FPc Rc10 198 7 4 0 (.int) := ⟨fl10_198.1, fun C T N h => by cases h; exact ⟨rfl, by decide +kernel⟩, fl10_198.2⟩
theorem fp10_201 : FPc Rc10 201 7 5 0 (.int) := ⟨fl10_201.1, fun C T N h => by cases h; exact ⟨rfl, by decide +kernel⟩, fl10_201.2⟩
theorem fp10_204 : FPc Rc10 204 7 6 0 (.int) := ⟨fl10_204.1, fun C T N h => by cases h; exact ⟨rfl, by decide +kernel⟩, fl10_204.2⟩
set_option maxRecDepth 100000 in
theorem mk10_send : MKk 0 y10_send prog_2_method_27_code 5 none 2 := ⟨in_c4 123 rfl rfl, ini10, ⟨by decide +kernel, by decide +kernel, by decide +kernel⟩, by decide, ⟨in_c4 122 rfl rfl, in_g 20 (by decide +kernel) (by decide +kernel)⟩⟩
set_option maxRecDepth 100000 in
theorem ml10_295 : MLk 0 Rc10 295 y10_send prog_2_method_27_code 5 none 2 := mk10_send.link (Or.inl (in_c4 120 rfl rfl))
set_option maxRecDepth 100000 in
theorem ml10_298 : MLk 0 Rc10 298 y2_routed prog_7_method_12_code 6 (some (.int)) 2 := mk2_routed.link (Or.inl (in_c4 168 rfl rfl))
set_option maxRecDepth 100000 in
theorem fl10_301 : FLc Rc10 301 2 3 0 := ⟨⟨Rc2, Tc2, 17, ck2, by decide, Or.inr ⟨"AskedNames", in_k1 57 rfl⟩⟩, by decide +kernel⟩
set_option maxRecDepth 100000 in
theorem fl10_304 : FLc Rc10 304 2 12 11 := ⟨⟨Rc2, Tc2, 17, ck2, by decide, Or.inr ⟨"AskedNames", in_k1 80 rfl⟩⟩, by decide +kernel⟩
set_option maxRecDepth 100000 in
theorem fl10_307 : FLc Rc10 307 2 10 9 := ⟨⟨Rc2, Tc2, 17, ck2, by decide, Or.inr ⟨"AskedNames", in_k1 76 rfl⟩⟩, by decide +kernel⟩
set_option maxRecDepth 100000 in
theorem fl10_310 : FLc Rc10 310 2 11 10 := ⟨⟨Rc2, Tc2, 17, ck2, by decide, Or.inr ⟨"AskedNames", in_k1 78 rfl⟩⟩, by decide +kernel⟩
set_option maxRecDepth 100000 in
theorem fl10_313 : FLc Rc10 313 2 9 8 := ⟨⟨Rc2, Tc2, 17, ck2, by decide, Or.inr ⟨"AskedNames", in_k1 74 rfl⟩⟩, by decide +kernel⟩
set_option maxRecDepth 100000 in
theorem mk10_isUp : MKk 0 y10_isUp prog_2_method_18_code 2 (some (.boolean)) 1 := ⟨in_c4 127 rfl rfl, ini10, ⟨by decide +kernel, by decide +kernel, by decide +kernel⟩, by decide, ⟨in_c4 126 rfl rfl, in_g 21 (by decide +kernel) (by decide +kernel)⟩⟩
set_option maxRecDepth 100000 in
theorem ml10_316 : MLk 0 Rc10 316 y10_isUp prog_2_method_18_code 2 (some (.boolean)) 1 := mk10_isUp.link (Or.inl (in_c4 124 rfl rfl))
set_option maxRecDepth 100000 in
theorem fl10_319 : FLc Rc10 319 2 13 12 := ⟨⟨Rc2, Tc2, 17, ck2, by decide, Or.inr ⟨"AskedNames", in_k1 82 rfl⟩⟩, by decide +kernel⟩
set_option maxRecDepth 100000 in
theorem fl10_322 : FLc Rc10 322 7 7 0 := ⟨⟨Rc7, Tc7, 14, ck7, by decide, Or.inr ⟨"AskedNames", in_k2 64 rfl⟩⟩, by decide +kernel⟩
set_option maxRecDepth 100000 in
theorem mk10_firstServed : MKk 0 y10_firstServed prog_2_method_20_code 4 (some (.int)) 2 := ⟨in_c4 195 rfl rfl, ini10, ⟨by decide +kernel, by decide +kernel, by decide +kernel⟩, by decide, ⟨in_c4 194 rfl rfl, in_g 33 (by decide +kernel) (by decide +kernel)⟩⟩
set_option maxRecDepth 100000 in
theorem ml10_324 : MLk 0 Rc10 324 y10_firstServed prog_2_method_20_code 4 (some (.int)) 2 := mk10_firstServed.link (Or.inl (in_c4 192 rfl rfl))
set_option maxRecDepth 100000 in
theorem fl10_328 : FLc Rc10 328 2 5 4 := ⟨⟨Rc2, Tc2, 17, ck2, by decide, Or.inr ⟨"AskedNames", in_k1 65 rfl⟩⟩, by decide +kernel⟩
set_option maxRecDepth 100000 in
theorem mk8_keep : MKk 0 y8_keep prog_10_method_4_code 4 none 2 := ⟨in_c4 203 rfl rfl, ini8, ⟨by decide +kernel, by decide +kernel, by decide +kernel⟩, by decide, ⟨in_c4 201 rfl rfl, in_c4 202 rfl rfl⟩⟩
set_option maxRecDepth 100000 in
theorem ml10_331 : MLk 0 Rc10 331 y8_keep prog_10_method_4_code 4 none 2 := mk8_keep.link (Or.inl (in_c4 200 rfl rfl))
set_option maxRecDepth 100000 in
theorem mk10_isServed : MKk 0 y10_isServed prog_2_method_21_code 4 (some (.boolean)) 3 := ⟨in_c4 199 rfl rfl, ini10, ⟨by decide +kernel, by decide +kernel, by decide +kernel⟩, by decide, ⟨in_c4 198 rfl rfl, in_g 34 (by decide +kernel) (by decide +kernel)⟩⟩
set_option maxRecDepth 100000 in
theorem ml10_335 : MLk 0 Rc10 335 y10_isServed prog_2_method_21_code 4 (some (.boolean)) 3 := mk10_isServed.link (Or.inl (in_c4 196 rfl rfl))
set_option maxRecDepth 100000 in
theorem mk10_close : MKk 0 y10_close prog_2_method_23_code 4 none 1 := ⟨in_c4 208 rfl rfl, ini10, ⟨by decide +kernel, by decide +kernel, by decide +kernel⟩, by decide, ⟨in_c4 207 rfl rfl, in_g 35 (by decide +kernel) (by decide +kernel)⟩⟩
set_option maxRecDepth 100000 in
theorem ml10_339 : MLk 0 Rc10 339 y10_close prog_2_method_23_code 4 none 1 := mk10_close.link (Or.inl (in_c4 205 rfl rfl))
set_option maxRecDepth 100000 in
theorem fl10_342 : FLc Rc10 342 7 11 0 := ⟨⟨Rc7, Tc7, 14, ck7, by decide, Or.inr ⟨"AskedNames", in_k2 73 rfl⟩⟩, by decide +kernel⟩
theorem fp10_342 : FPc Rc10 342 7 11 0 (.int) := ⟨fl10_342.1, fun C T N h => by cases h; exact ⟨rfl, by decide +kernel⟩, fl10_342.2⟩
set_option maxRecDepth 100000 in
theorem mk10_settle : MKk 0 y10_settle prog_2_method_26_code 3 none 1 := ⟨in_c4 119 rfl rfl, ini10, ⟨by decide +kernel, by decide +kernel, by decide +kernel⟩, by decide, ⟨in_c4 118 rfl rfl, in_g 19 (by decide +kernel) (by decide +kernel)⟩⟩
set_option maxRecDepth 100000 in
theorem ml10_345 : MLk 0 Rc10 345 y10_settle prog_2_method_26_code 3 none 1 := mk10_settle.link (Or.inl (in_c4 116 rfl rfl))
set_option maxRecDepth 100000 in
theorem fl10_348 : FLc Rc10 348 7 9 0 := ⟨⟨Rc7, Tc7, 14, ck7, by decide, Or.inr ⟨"AskedNames", in_k2 69 rfl⟩⟩, by decide +kernel⟩
set_option maxRecDepth 100000 in
theorem fl10_351 : FLc Rc10 351 9 3 0 := ⟨⟨Rc9, Tc9, 8, ck9, by decide, Or.inr ⟨"AskedNames", in_k2 202 rfl⟩⟩, by decide +kernel⟩
theorem fp10_351 : FPc Rc10 351 9 3 0 (.int) := ⟨fl10_351.1, fun C T N h => by cases h; exact ⟨rfl, by decide +kernel⟩, fl10_351.2⟩
set_option maxRecDepth 100000 in
theorem fl10_352 : FLc Rc10 352 7 10 0 := ⟨⟨Rc7, Tc7, 14, ck7, by decide, Or.inr ⟨"AskedNames", in_k2 71 rfl⟩⟩, by decide +kernel⟩
set_option maxRecDepth 100000 in
theorem fl10_355 : FLc Rc10 355 9 4 0 := ⟨⟨Rc9, Tc9, 8, ck9, by decide, Or.inr ⟨"AskedNames", in_k2 204 rfl⟩⟩, by decide +kernel⟩
theorem fp10_355 : FPc Rc10 355 9 4 0 (.int) := ⟨fl10_355.1, fun C T N h => by cases h; exact ⟨rfl, by decide +kernel⟩, fl10_355.2⟩
set_option maxRecDepth 100000 in
theorem fl10_356 : FLc Rc10 356 9 5 0 := ⟨⟨Rc9, Tc9, 8, ck9, by decide, Or.inr ⟨"AskedNames", in_k2 206 rfl⟩⟩, by decide +kernel⟩
theorem fp10_356 : FPc Rc10 356 9 5 0 (.int) := ⟨fl10_356.1, fun C T N h => by cases h; exact ⟨rfl, by decide +kernel⟩, fl10_356.2⟩
set_option maxRecDepth 100000 in
theorem fl10_357 : FLc Rc10 357 7 12 0 := ⟨⟨Rc7, Tc7, 14, ck7, by decide, Or.inr ⟨"AskedNames", in_k2 75 rfl⟩⟩, by decide +kernel⟩
set_option maxRecDepth 100000 in
theorem fl10_360 : FLc Rc10 360 9 6 0 := ⟨⟨Rc9, Tc9, 8, ck9, by decide, Or.inr ⟨"AskedNames", in_k2 208 rfl⟩⟩, by decide +kernel⟩
theorem fp10_360 : FPc Rc10 360 9 6 0 (.int) := ⟨fl10_360.1, fun C T N h => by cases h; exact ⟨rfl, by decide +kernel⟩, fl10_360.2⟩
set_option maxRecDepth 100000 in
theorem fl10_361 : FLc Rc10 361 7 13 0 := ⟨⟨Rc7, Tc7, 14, ck7, by decide, Or.inr ⟨"AskedNames", in_k2 77 rfl⟩⟩, by decide +kernel⟩
set_option maxRecDepth 100000 in
theorem fl10_364 : FLc Rc10 364 9 7 0 := ⟨⟨Rc9, Tc9, 8, ck9, by decide, Or.inr ⟨"AskedNames", in_k2 210 rfl⟩⟩, by decide +kernel⟩
theorem fp10_364 : FPc Rc10 364 9 7 0 (.int) := ⟨fl10_364.1, fun C T N h => by cases h; exact ⟨rfl, by decide +kernel⟩, fl10_364.2⟩
theorem fp10_195 : FPc Rc10 195 7 1 0 (.int) := ⟨fl10_195.1, fun C T N h => by cases h; exact ⟨rfl, by decide +kernel⟩, fl10_195.2⟩
theorem fp10_192 : FPc Rc10 192 7 2 0 (.int) := ⟨fl10_192.1, fun C T N h => by cases h; exact ⟨rfl, by decide +kernel⟩, fl10_192.2⟩
set_option maxRecDepth 100000 in
theorem fl10_365 : FLc Rc10 365 2 8 7 := ⟨⟨Rc2, Tc2, 17, ck2, by decide, Or.inr ⟨"AskedNames", in_k1 72 rfl⟩⟩, by decide +kernel⟩
theorem fp10_178 : FPc Rc10 178 7 3 0 (.int) := ⟨fl10_178.1, fun C T N h => by cases h; exact ⟨rfl, by decide +kernel⟩, fl10_178.2⟩
set_option maxRecDepth 100000 in
theorem fl10_368 : FLc Rc10 368 8 1 4 := ⟨⟨Rc8, Tc8, 4, ck8, by decide, Or.inr ⟨"AskedNames", in_k2 172 rfl⟩⟩, by decide +kernel⟩
theorem fp10_322 : FPc Rc10 322 7 7 0 (.int) := ⟨fl10_322.1, fun C T N h => by cases h; exact ⟨rfl, by decide +kernel⟩, fl10_322.2⟩
set_option maxRecDepth 100000 in
theorem fl10_370 : FLc Rc10 370 8 3 6 := ⟨⟨Rc8, Tc8, 4, ck8, by decide, Or.inr ⟨"AskedNames", in_k2 178 rfl⟩⟩, by decide +kernel⟩
set_option maxRecDepth 100000 in
theorem fl10_373 : FLc Rc10 373 7 8 0 := ⟨⟨Rc7, Tc7, 14, ck7, by decide, Or.inr ⟨"AskedNames", in_k2 67 rfl⟩⟩, by decide +kernel⟩
theorem fp10_373 : FPc Rc10 373 7 8 0 (.int) := ⟨fl10_373.1, fun C T N h => by cases h; exact ⟨rfl, by decide +kernel⟩, fl10_373.2⟩
theorem fp10_348 : FPc Rc10 348 7 9 0 (.int) := ⟨fl10_348.1, fun C T N h => by cases h; exact ⟨rfl, by decide +kernel⟩, fl10_348.2⟩
theorem fp10_352 : FPc Rc10 352 7 10 0 (.int) := ⟨fl10_352.1, fun C T N h => by cases h; exact ⟨rfl, by decide +kernel⟩, fl10_352.2⟩
theorem fp10_357 : FPc Rc10 357 7 12 0 (.int) := ⟨fl10_357.1, fun C T N h => by cases h; exact ⟨rfl, by decide +kernel⟩, fl10_357.2⟩
theorem fp10_361 : FPc Rc10 361 7 13 0 (.int) := ⟨fl10_361.1, fun C T N h => by cases h; exact ⟨rfl, by decide +kernel⟩, fl10_361.2⟩
set_option maxRecDepth 100000 in
theorem mkJInteger_bitCount : MKk 1 yJInteger_bitCount prog_14_method_49_code 1 (some (.int)) 1 := ⟨in_c4 231 rfl rfl, in_c1 20 rfl rfl, ⟨by decide +kernel, by decide +kernel, by decide +kernel⟩, by decide, in_c4 230 rfl rfl⟩
set_option maxRecDepth 100000 in
theorem ml10_375 : MLk 1 Rc10 375 yJInteger_bitCount prog_14_method_49_code 1 (some (.int)) 1 := mkJInteger_bitCount.link (Or.inl (in_c4 229 rfl rfl))
set_option maxRecDepth 100000 in
theorem mk10_entriesAt : MKk 0 y10_entriesAt prog_2_method_33_code 4 (some (.int)) 1 := ⟨in_c4 238 rfl rfl, ini10, ⟨by decide +kernel, by decide +kernel, by decide +kernel⟩, by decide, ⟨in_c4 237 rfl rfl, in_g 37 (by decide +kernel) (by decide +kernel)⟩⟩
set_option maxRecDepth 100000 in
theorem ml10_380 : MLk 0 Rc10 380 y10_entriesAt prog_2_method_33_code 4 (some (.int)) 1 := mk10_entriesAt.link (Or.inl (in_c4 235 rfl rfl))
set_option maxRecDepth 100000 in
theorem mkJLong_bitCount : MKk 1 yJLong_bitCount prog_15_method_50_code 2 (some (.int)) 1 := ⟨in_c5 1 rfl rfl, in_c1 21 rfl rfl, ⟨by decide +kernel, by decide +kernel, by decide +kernel⟩, by decide, in_c5 0 rfl rfl⟩
set_option maxRecDepth 100000 in
theorem ml10_383 : MLk 1 Rc10 383 yJLong_bitCount prog_15_method_50_code 2 (some (.int)) 1 := mkJLong_bitCount.link (Or.inl (in_c4 239 rfl rfl))
set_option maxRecDepth 100000 in
theorem fl6_9 : FLc Rc6 9 6 0 0 := ⟨⟨Rc6, Tc6, 11, ck6, by decide, Or.inl (in_c2 116 rfl rfl)⟩, by decide +kernel⟩
set_option maxRecDepth 100000 in
theorem fl6_9r : FLc Rc6 9 18 0 0 := ⟨⟨Rc6, Tc6, 11, ck18, by decide, Or.inl (in_c2 116 rfl rfl)⟩, by decide +kernel⟩
theorem fp6_9 : FPc Rc6 9 6 0 0 (.int) := ⟨fl6_9.1, fun C T N h => by cases h; exact ⟨rfl, by decide +kernel⟩, fl6_9.2⟩
set_option maxRecDepth 100000 in
theorem fl6_15 : FLc Rc6 15 6 1 0 := ⟨⟨Rc6, Tc6, 11, ck6, by decide, Or.inl (in_c2 118 rfl rfl)⟩, by decide +kernel⟩
set_option maxRecDepth 100000 in
theorem fl6_15r : FLc Rc6 15 18 1 0 := ⟨⟨Rc6, Tc6, 11, ck18, by decide, Or.inl (in_c2 118 rfl rfl)⟩, by decide +kernel⟩
theorem fp6_15 : FPc Rc6 15 6 1 0 (.int) := ⟨fl6_15.1, fun C T N h => by cases h; exact ⟨rfl, by decide +kernel⟩, fl6_15.2⟩
set_option maxRecDepth 100000 in
theorem fl6_18 : FLc Rc6 18 6 2 0 := ⟨⟨Rc6, Tc6, 11, ck6, by decide, Or.inl (in_c2 120 rfl rfl)⟩, by decide +kernel⟩
set_option maxRecDepth 100000 in
theorem fl6_18r : FLc Rc6 18 18 2 0 := ⟨⟨Rc6, Tc6, 11, ck18, by decide, Or.inl (in_c2 120 rfl rfl)⟩, by decide +kernel⟩
theorem fp6_18 : FPc Rc6 18 6 2 0 (.int) := ⟨fl6_18.1, fun C T N h => by cases h; exact ⟨rfl, by decide +kernel⟩, fl6_18.2⟩
set_option maxRecDepth 100000 in
theorem fl6_21 : FLc Rc6 21 6 3 0 := ⟨⟨Rc6, Tc6, 11, ck6, by decide, Or.inl (in_c2 122 rfl rfl)⟩, by decide +kernel⟩
set_option maxRecDepth 100000 in
theorem fl6_21r : FLc Rc6 21 18 3 0 := ⟨⟨Rc6, Tc6, 11, ck18, by decide, Or.inl (in_c2 122 rfl rfl)⟩, by decide +kernel⟩
theorem fp6_21 : FPc Rc6 21 6 3 0 (.int) := ⟨fl6_21.1, fun C T N h => by cases h; exact ⟨rfl, by decide +kernel⟩, fl6_21.2⟩
set_option maxRecDepth 100000 in
theorem fl6_24 : FLc Rc6 24 6 4 1 := ⟨⟨Rc6, Tc6, 11, ck6, by decide, Or.inl (in_c2 124 rfl rfl)⟩, by decide +kernel⟩
set_option maxRecDepth 100000 in
theorem fl6_24r : FLc Rc6 24 18 4 1 := ⟨⟨Rc6, Tc6, 11, ck18, by decide, Or.inl (in_c2 124 rfl rfl)⟩, by decide +kernel⟩
theorem fp6_24 : FPc Rc6 24 6 4 1 (.long) := ⟨fl6_24.1, fun C T N h => by cases h; exact ⟨rfl, by decide +kernel⟩, fl6_24.2⟩
set_option maxRecDepth 100000 in
theorem fl6_28 : FLc Rc6 28 6 5 1 := ⟨⟨Rc6, Tc6, 11, ck6, by decide, Or.inl (in_c2 126 rfl rfl)⟩, by decide +kernel⟩
set_option maxRecDepth 100000 in
theorem fl6_28r : FLc Rc6 28 18 5 1 := ⟨⟨Rc6, Tc6, 11, ck18, by decide, Or.inl (in_c2 126 rfl rfl)⟩, by decide +kernel⟩
theorem fp6_28 : FPc Rc6 28 6 5 1 (.long) := ⟨fl6_28.1, fun C T N h => by cases h; exact ⟨rfl, by decide +kernel⟩, fl6_28.2⟩
set_option maxRecDepth 100000 in
theorem fl6_31 : FLc Rc6 31 6 6 0 := ⟨⟨Rc6, Tc6, 11, ck6, by decide, Or.inl (in_c2 128 rfl rfl)⟩, by decide +kernel⟩
set_option maxRecDepth 100000 in
theorem fl6_31r : FLc Rc6 31 18 6 0 := ⟨⟨Rc6, Tc6, 11, ck18, by decide, Or.inl (in_c2 128 rfl rfl)⟩, by decide +kernel⟩
theorem fp6_31 : FPc Rc6 31 6 6 0 (.int) := ⟨fl6_31.1, fun C T N h => by cases h; exact ⟨rfl, by decide +kernel⟩, fl6_31.2⟩
set_option maxRecDepth 100000 in
theorem fl6_34 : FLc Rc6 34 6 7 0 := ⟨⟨Rc6, Tc6, 11, ck6, by decide, Or.inl (in_c2 130 rfl rfl)⟩, by decide +kernel⟩
set_option maxRecDepth 100000 in
theorem fl6_34r : FLc Rc6 34 18 7 0 := ⟨⟨Rc6, Tc6, 11, ck18, by decide, Or.inl (in_c2 130 rfl rfl)⟩, by decide +kernel⟩
theorem fp6_34 : FPc Rc6 34 6 7 0 (.int) := ⟨fl6_34.1, fun C T N h => by cases h; exact ⟨rfl, by decide +kernel⟩, fl6_34.2⟩
set_option maxRecDepth 100000 in
theorem fl6_37 : FLc Rc6 37 6 8 0 := ⟨⟨Rc6, Tc6, 11, ck6, by decide, Or.inl (in_c2 132 rfl rfl)⟩, by decide +kernel⟩
set_option maxRecDepth 100000 in
theorem fl6_37r : FLc Rc6 37 18 8 0 := ⟨⟨Rc6, Tc6, 11, ck18, by decide, Or.inl (in_c2 132 rfl rfl)⟩, by decide +kernel⟩
theorem fp6_37 : FPc Rc6 37 6 8 0 (.int) := ⟨fl6_37.1, fun C T N h => by cases h; exact ⟨rfl, by decide +kernel⟩, fl6_37.2⟩
set_option maxRecDepth 100000 in
theorem fl6_40 : FLc Rc6 40 6 9 0 := ⟨⟨Rc6, Tc6, 11, ck6, by decide, Or.inl (in_c2 134 rfl rfl)⟩, by decide +kernel⟩
set_option maxRecDepth 100000 in
theorem fl6_40r : FLc Rc6 40 18 9 0 := ⟨⟨Rc6, Tc6, 11, ck18, by decide, Or.inl (in_c2 134 rfl rfl)⟩, by decide +kernel⟩
theorem fp6_40 : FPc Rc6 40 6 9 0 (.int) := ⟨fl6_40.1, fun C T N h => by cases h; exact ⟨rfl, by decide +kernel⟩, fl6_40.2⟩
set_option maxRecDepth 100000 in
theorem fl6_43 : FLc Rc6 43 6 10 0 := ⟨⟨Rc6, Tc6, 11, ck6, by decide, Or.inl (in_c2 136 rfl rfl)⟩, by decide +kernel⟩
set_option maxRecDepth 100000 in
theorem fl6_43r : FLc Rc6 43 18 10 0 := ⟨⟨Rc6, Tc6, 11, ck18, by decide, Or.inl (in_c2 136 rfl rfl)⟩, by decide +kernel⟩
theorem fp6_43 : FPc Rc6 43 6 10 0 (.int) := ⟨fl6_43.1, fun C T N h => by cases h; exact ⟨rfl, by decide +kernel⟩, fl6_43.2⟩
set_option maxRecDepth 100000 in
theorem ml6_46 : MLk 1 Rc6 46 yJLong_bitCount prog_15_method_50_code 2 (some (.int)) 1 := mkJLong_bitCount.link (Or.inl (in_c5 22 rfl rfl))
set_option maxRecDepth 100000 in
theorem fl9_9 : FLc Rc9 9 9 0 0 := ⟨⟨Rc9, Tc9, 8, ck9, by decide, Or.inl (in_c2 193 rfl rfl)⟩, by decide +kernel⟩
set_option maxRecDepth 100000 in
theorem fl9_9r : FLc Rc9 9 21 0 0 := ⟨⟨Rc9, Tc9, 8, ck21, by decide, Or.inl (in_c2 193 rfl rfl)⟩, by decide +kernel⟩
theorem fp9_9 : FPc Rc9 9 9 0 0 (.int) := ⟨fl9_9.1, fun C T N h => by cases h; exact ⟨rfl, by decide +kernel⟩, fl9_9.2⟩
set_option maxRecDepth 100000 in
theorem fl9_15 : FLc Rc9 15 9 1 0 := ⟨⟨Rc9, Tc9, 8, ck9, by decide, Or.inl (in_c2 196 rfl rfl)⟩, by decide +kernel⟩
set_option maxRecDepth 100000 in
theorem fl9_15r : FLc Rc9 15 21 1 0 := ⟨⟨Rc9, Tc9, 8, ck21, by decide, Or.inl (in_c2 196 rfl rfl)⟩, by decide +kernel⟩
theorem fp9_15 : FPc Rc9 15 9 1 0 (.int) := ⟨fl9_15.1, fun C T N h => by cases h; exact ⟨rfl, by decide +kernel⟩, fl9_15.2⟩
set_option maxRecDepth 100000 in
theorem fl9_18 : FLc Rc9 18 9 2 0 := ⟨⟨Rc9, Tc9, 8, ck9, by decide, Or.inl (in_c2 198 rfl rfl)⟩, by decide +kernel⟩
set_option maxRecDepth 100000 in
theorem fl9_18r : FLc Rc9 18 21 2 0 := ⟨⟨Rc9, Tc9, 8, ck21, by decide, Or.inl (in_c2 198 rfl rfl)⟩, by decide +kernel⟩
theorem fp9_18 : FPc Rc9 18 9 2 0 (.int) := ⟨fl9_18.1, fun C T N h => by cases h; exact ⟨rfl, by decide +kernel⟩, fl9_18.2⟩
set_option maxRecDepth 100000 in
theorem fl9_21 : FLc Rc9 21 9 3 0 := ⟨⟨Rc9, Tc9, 8, ck9, by decide, Or.inl (in_c2 201 rfl rfl)⟩, by decide +kernel⟩
set_option maxRecDepth 100000 in
theorem fl9_21r : FLc Rc9 21 21 3 0 := ⟨⟨Rc9, Tc9, 8, ck21, by decide, Or.inl (in_c2 201 rfl rfl)⟩, by decide +kernel⟩
theorem fp9_21 : FPc Rc9 21 9 3 0 (.int) := ⟨fl9_21.1, fun C T N h => by cases h; exact ⟨rfl, by decide +kernel⟩, fl9_21.2⟩
set_option maxRecDepth 100000 in
theorem fl9_24 : FLc Rc9 24 9 4 0 := ⟨⟨Rc9, Tc9, 8, ck9, by decide, Or.inl (in_c2 203 rfl rfl)⟩, by decide +kernel⟩
set_option maxRecDepth 100000 in
theorem fl9_24r : FLc Rc9 24 21 4 0 := ⟨⟨Rc9, Tc9, 8, ck21, by decide, Or.inl (in_c2 203 rfl rfl)⟩, by decide +kernel⟩
theorem fp9_24 : FPc Rc9 24 9 4 0 (.int) := ⟨fl9_24.1, fun C T N h => by cases h; exact ⟨rfl, by decide +kernel⟩, fl9_24.2⟩
set_option maxRecDepth 100000 in
theorem fl9_27 : FLc Rc9 27 9 5 0 := ⟨⟨Rc9, Tc9, 8, ck9, by decide, Or.inl (in_c2 205 rfl rfl)⟩, by decide +kernel⟩
set_option maxRecDepth 100000 in
theorem fl9_27r : FLc Rc9 27 21 5 0 := ⟨⟨Rc9, Tc9, 8, ck21, by decide, Or.inl (in_c2 205 rfl rfl)⟩, by decide +kernel⟩
theorem fp9_27 : FPc Rc9 27 9 5 0 (.int) := ⟨fl9_27.1, fun C T N h => by cases h; exact ⟨rfl, by decide +kernel⟩, fl9_27.2⟩
set_option maxRecDepth 100000 in
theorem fl9_30 : FLc Rc9 30 9 6 0 := ⟨⟨Rc9, Tc9, 8, ck9, by decide, Or.inl (in_c2 207 rfl rfl)⟩, by decide +kernel⟩
set_option maxRecDepth 100000 in
theorem fl9_30r : FLc Rc9 30 21 6 0 := ⟨⟨Rc9, Tc9, 8, ck21, by decide, Or.inl (in_c2 207 rfl rfl)⟩, by decide +kernel⟩
theorem fp9_30 : FPc Rc9 30 9 6 0 (.int) := ⟨fl9_30.1, fun C T N h => by cases h; exact ⟨rfl, by decide +kernel⟩, fl9_30.2⟩
set_option maxRecDepth 100000 in
theorem fl9_33 : FLc Rc9 33 9 7 0 := ⟨⟨Rc9, Tc9, 8, ck9, by decide, Or.inl (in_c2 209 rfl rfl)⟩, by decide +kernel⟩
set_option maxRecDepth 100000 in
theorem fl9_33r : FLc Rc9 33 21 7 0 := ⟨⟨Rc9, Tc9, 8, ck21, by decide, Or.inl (in_c2 209 rfl rfl)⟩, by decide +kernel⟩
theorem fp9_33 : FPc Rc9 33 9 7 0 (.int) := ⟨fl9_33.1, fun C T N h => by cases h; exact ⟨rfl, by decide +kernel⟩, fl9_33.2⟩
set_option maxRecDepth 100000 in
theorem fl4_9 : FLc Rc4 9 4 0 0 := ⟨⟨Rc4, Tc4, 3, ck4, by decide, Or.inl (in_c1 161 rfl rfl)⟩, by decide +kernel⟩
set_option maxRecDepth 100000 in
theorem fl4_9r : FLc Rc4 9 16 0 0 := ⟨⟨Rc4, Tc4, 3, ck16, by decide, Or.inl (in_c1 161 rfl rfl)⟩, by decide +kernel⟩
theorem fp4_9 : FPc Rc4 9 4 0 0 (.int) := ⟨fl4_9.1, fun C T N h => by cases h; exact ⟨rfl, by decide +kernel⟩, fl4_9.2⟩
set_option maxRecDepth 100000 in
theorem fl4_15 : FLc Rc4 15 4 1 4 := ⟨⟨Rc4, Tc4, 3, ck4, by decide, Or.inl (in_c1 164 rfl rfl)⟩, by decide +kernel⟩
set_option maxRecDepth 100000 in
theorem fl4_15r : FLc Rc4 15 16 1 2 := ⟨⟨Rc4, Tc4, 3, ck16, by decide, Or.inl (in_c1 164 rfl rfl)⟩, by decide +kernel⟩
set_option maxRecDepth 100000 in
theorem fl4_19 : FLc Rc4 19 4 2 5 := ⟨⟨Rc4, Tc4, 3, ck4, by decide, Or.inl (in_c1 166 rfl rfl)⟩, by decide +kernel⟩
set_option maxRecDepth 100000 in
theorem fl4_19r : FLc Rc4 19 16 2 2 := ⟨⟨Rc4, Tc4, 3, ck16, by decide, Or.inl (in_c1 166 rfl rfl)⟩, by decide +kernel⟩
set_option maxRecDepth 100000 in
theorem fl7_9 : FLc Rc7 9 7 0 0 := ⟨⟨Rc7, Tc7, 14, ck7, by decide, Or.inl (in_c2 47 rfl rfl)⟩, by decide +kernel⟩
set_option maxRecDepth 100000 in
theorem fl7_9r : FLc Rc7 9 19 0 0 := ⟨⟨Rc7, Tc7, 14, ck19, by decide, Or.inl (in_c2 47 rfl rfl)⟩, by decide +kernel⟩
theorem fp7_9 : FPc Rc7 9 7 0 0 (.int) := ⟨fl7_9.1, fun C T N h => by cases h; exact ⟨rfl, by decide +kernel⟩, fl7_9.2⟩
set_option maxRecDepth 100000 in
theorem fl7_13 : FLc Rc7 13 7 1 0 := ⟨⟨Rc7, Tc7, 14, ck7, by decide, Or.inl (in_c2 49 rfl rfl)⟩, by decide +kernel⟩
set_option maxRecDepth 100000 in
theorem fl7_13r : FLc Rc7 13 19 1 0 := ⟨⟨Rc7, Tc7, 14, ck19, by decide, Or.inl (in_c2 49 rfl rfl)⟩, by decide +kernel⟩
theorem fp7_13 : FPc Rc7 13 7 1 0 (.int) := ⟨fl7_13.1, fun C T N h => by cases h; exact ⟨rfl, by decide +kernel⟩, fl7_13.2⟩
set_option maxRecDepth 100000 in
theorem fl7_16 : FLc Rc7 16 7 2 0 := ⟨⟨Rc7, Tc7, 14, ck7, by decide, Or.inl (in_c2 51 rfl rfl)⟩, by decide +kernel⟩
set_option maxRecDepth 100000 in
theorem fl7_16r : FLc Rc7 16 19 2 0 := ⟨⟨Rc7, Tc7, 14, ck19, by decide, Or.inl (in_c2 51 rfl rfl)⟩, by decide +kernel⟩
theorem fp7_16 : FPc Rc7 16 7 2 0 (.int) := ⟨fl7_16.1, fun C T N h => by cases h; exact ⟨rfl, by decide +kernel⟩, fl7_16.2⟩
set_option maxRecDepth 100000 in
theorem fl7_19 : FLc Rc7 19 7 3 0 := ⟨⟨Rc7, Tc7, 14, ck7, by decide, Or.inl (in_c2 53 rfl rfl)⟩, by decide +kernel⟩
set_option maxRecDepth 100000 in
theorem fl7_19r : FLc Rc7 19 19 3 0 := ⟨⟨Rc7, Tc7, 14, ck19, by decide, Or.inl (in_c2 53 rfl rfl)⟩, by decide +kernel⟩
theorem fp7_19 : FPc Rc7 19 7 3 0 (.int) := ⟨fl7_19.1, fun C T N h => by cases h; exact ⟨rfl, by decide +kernel⟩, fl7_19.2⟩
set_option maxRecDepth 100000 in
theorem fl7_22 : FLc Rc7 22 7 4 0 := ⟨⟨Rc7, Tc7, 14, ck7, by decide, Or.inl (in_c2 55 rfl rfl)⟩, by decide +kernel⟩
set_option maxRecDepth 100000 in
theorem fl7_22r : FLc Rc7 22 19 4 0 := ⟨⟨Rc7, Tc7, 14, ck19, by decide, Or.inl (in_c2 55 rfl rfl)⟩, by decide +kernel⟩
theorem fp7_22 : FPc Rc7 22 7 4 0 (.int) := ⟨fl7_22.1, fun C T N h => by cases h; exact ⟨rfl, by decide +kernel⟩, fl7_22.2⟩
set_option maxRecDepth 100000 in
theorem fl7_25 : FLc Rc7 25 7 5 0 := ⟨⟨Rc7, Tc7, 14, ck7, by decide, Or.inl (in_c2 58 rfl rfl)⟩, by decide +kernel⟩
set_option maxRecDepth 100000 in
theorem fl7_25r : FLc Rc7 25 19 5 0 := ⟨⟨Rc7, Tc7, 14, ck19, by decide, Or.inl (in_c2 58 rfl rfl)⟩, by decide +kernel⟩
theorem fp7_25 : FPc Rc7 25 7 5 0 (.int) := ⟨fl7_25.1, fun C T N h => by cases h; exact ⟨rfl, by decide +kernel⟩, fl7_25.2⟩
set_option maxRecDepth 100000 in
theorem fl7_28 : FLc Rc7 28 7 6 0 := ⟨⟨Rc7, Tc7, 14, ck7, by decide, Or.inl (in_c2 60 rfl rfl)⟩, by decide +kernel⟩
set_option maxRecDepth 100000 in
theorem fl7_28r : FLc Rc7 28 19 6 0 := ⟨⟨Rc7, Tc7, 14, ck19, by decide, Or.inl (in_c2 60 rfl rfl)⟩, by decide +kernel⟩
theorem fp7_28 : FPc Rc7 28 7 6 0 (.int) := ⟨fl7_28.1, fun C T N h => by cases h; exact ⟨rfl, by decide +kernel⟩, fl7_28.2⟩
set_option maxRecDepth 100000 in
theorem fl7_31 : FLc Rc7 31 7 7 0 := ⟨⟨Rc7, Tc7, 14, ck7, by decide, Or.inl (in_c2 62 rfl rfl)⟩, by decide +kernel⟩
set_option maxRecDepth 100000 in
theorem fl7_31r : FLc Rc7 31 19 7 0 := ⟨⟨Rc7, Tc7, 14, ck19, by decide, Or.inl (in_c2 62 rfl rfl)⟩, by decide +kernel⟩
theorem fp7_31 : FPc Rc7 31 7 7 0 (.int) := ⟨fl7_31.1, fun C T N h => by cases h; exact ⟨rfl, by decide +kernel⟩, fl7_31.2⟩
set_option maxRecDepth 100000 in
theorem fl7_34 : FLc Rc7 34 7 8 0 := ⟨⟨Rc7, Tc7, 14, ck7, by decide, Or.inl (in_c2 65 rfl rfl)⟩, by decide +kernel⟩
set_option maxRecDepth 100000 in
theorem fl7_34r : FLc Rc7 34 19 8 0 := ⟨⟨Rc7, Tc7, 14, ck19, by decide, Or.inl (in_c2 65 rfl rfl)⟩, by decide +kernel⟩
theorem fp7_34 : FPc Rc7 34 7 8 0 (.int) := ⟨fl7_34.1, fun C T N h => by cases h; exact ⟨rfl, by decide +kernel⟩, fl7_34.2⟩
set_option maxRecDepth 100000 in
theorem fl7_37 : FLc Rc7 37 7 9 0 := ⟨⟨Rc7, Tc7, 14, ck7, by decide, Or.inl (in_c2 68 rfl rfl)⟩, by decide +kernel⟩
set_option maxRecDepth 100000 in
theorem fl7_37r : FLc Rc7 37 19 9 0 := ⟨⟨Rc7, Tc7, 14, ck19, by decide, Or.inl (in_c2 68 rfl rfl)⟩, by decide +kernel⟩
theorem fp7_37 : FPc Rc7 37 7 9 0 (.int) := ⟨fl7_37.1, fun C T N h => by cases h; exact ⟨rfl, by decide +kernel⟩, fl7_37.2⟩
set_option maxRecDepth 100000 in
theorem fl7_40 : FLc Rc7 40 7 10 0 := ⟨⟨Rc7, Tc7, 14, ck7, by decide, Or.inl (in_c2 70 rfl rfl)⟩, by decide +kernel⟩
set_option maxRecDepth 100000 in
theorem fl7_40r : FLc Rc7 40 19 10 0 := ⟨⟨Rc7, Tc7, 14, ck19, by decide, Or.inl (in_c2 70 rfl rfl)⟩, by decide +kernel⟩
theorem fp7_40 : FPc Rc7 40 7 10 0 (.int) := ⟨fl7_40.1, fun C T N h => by cases h; exact ⟨rfl, by decide +kernel⟩, fl7_40.2⟩
set_option maxRecDepth 100000 in
theorem fl7_43 : FLc Rc7 43 7 11 0 := ⟨⟨Rc7, Tc7, 14, ck7, by decide, Or.inl (in_c2 72 rfl rfl)⟩, by decide +kernel⟩
set_option maxRecDepth 100000 in
theorem fl7_43r : FLc Rc7 43 19 11 0 := ⟨⟨Rc7, Tc7, 14, ck19, by decide, Or.inl (in_c2 72 rfl rfl)⟩, by decide +kernel⟩
theorem fp7_43 : FPc Rc7 43 7 11 0 (.int) := ⟨fl7_43.1, fun C T N h => by cases h; exact ⟨rfl, by decide +kernel⟩, fl7_43.2⟩
set_option maxRecDepth 100000 in
theorem fl7_46 : FLc Rc7 46 7 12 0 := ⟨⟨Rc7, Tc7, 14, ck7, by decide, Or.inl (in_c2 74 rfl rfl)⟩, by decide +kernel⟩
set_option maxRecDepth 100000 in
theorem fl7_46r : FLc Rc7 46 19 12 0 := ⟨⟨Rc7, Tc7, 14, ck19, by decide, Or.inl (in_c2 74 rfl rfl)⟩, by decide +kernel⟩
theorem fp7_46 : FPc Rc7 46 7 12 0 (.int) := ⟨fl7_46.1, fun C T N h => by cases h; exact ⟨rfl, by decide +kernel⟩, fl7_46.2⟩
set_option maxRecDepth 100000 in
theorem fl7_49 : FLc Rc7 49 7 13 0 := ⟨⟨Rc7, Tc7, 14, ck7, by decide, Or.inl (in_c2 76 rfl rfl)⟩, by decide +kernel⟩
set_option maxRecDepth 100000 in
theorem fl7_49r : FLc Rc7 49 19 13 0 := ⟨⟨Rc7, Tc7, 14, ck19, by decide, Or.inl (in_c2 76 rfl rfl)⟩, by decide +kernel⟩
theorem fp7_49 : FPc Rc7 49 7 13 0 (.int) := ⟨fl7_49.1, fun C T N h => by cases h; exact ⟨rfl, by decide +kernel⟩, fl7_49.2⟩
set_option maxRecDepth 100000 in
theorem fl2_9 : FLc Rc2 9 2 0 0 := ⟨⟨Rc2, Tc2, 17, ck2, by decide, Or.inl (in_c1 43 rfl rfl)⟩, by decide +kernel⟩
set_option maxRecDepth 100000 in
theorem fl2_9r : FLc Rc2 9 14 0 0 := ⟨⟨Rc2, Tc2, 17, ck14, by decide, Or.inl (in_c1 43 rfl rfl)⟩, by decide +kernel⟩
theorem fp2_9 : FPc Rc2 9 2 0 0 (.int) := ⟨fl2_9.1, fun C T N h => by cases h; exact ⟨rfl, by decide +kernel⟩, fl2_9.2⟩
set_option maxRecDepth 100000 in
theorem fl2_15 : FLc Rc2 15 2 1 0 := ⟨⟨Rc2, Tc2, 17, ck2, by decide, Or.inl (in_c1 47 rfl rfl)⟩, by decide +kernel⟩
set_option maxRecDepth 100000 in
theorem fl2_15r : FLc Rc2 15 14 1 0 := ⟨⟨Rc2, Tc2, 17, ck14, by decide, Or.inl (in_c1 47 rfl rfl)⟩, by decide +kernel⟩
theorem fp2_15 : FPc Rc2 15 2 1 0 (.int) := ⟨fl2_15.1, fun C T N h => by cases h; exact ⟨rfl, by decide +kernel⟩, fl2_15.2⟩
set_option maxRecDepth 100000 in
theorem fl2_18 : FLc Rc2 18 2 2 0 := ⟨⟨Rc2, Tc2, 17, ck2, by decide, Or.inl (in_c1 51 rfl rfl)⟩, by decide +kernel⟩
set_option maxRecDepth 100000 in
theorem fl2_18r : FLc Rc2 18 14 2 0 := ⟨⟨Rc2, Tc2, 17, ck14, by decide, Or.inl (in_c1 51 rfl rfl)⟩, by decide +kernel⟩
theorem fp2_18 : FPc Rc2 18 2 2 0 (.int) := ⟨fl2_18.1, fun C T N h => by cases h; exact ⟨rfl, by decide +kernel⟩, fl2_18.2⟩
set_option maxRecDepth 100000 in
theorem fl2_21 : FLc Rc2 21 2 3 0 := ⟨⟨Rc2, Tc2, 17, ck2, by decide, Or.inl (in_c1 54 rfl rfl)⟩, by decide +kernel⟩
set_option maxRecDepth 100000 in
theorem fl2_21r : FLc Rc2 21 14 3 0 := ⟨⟨Rc2, Tc2, 17, ck14, by decide, Or.inl (in_c1 54 rfl rfl)⟩, by decide +kernel⟩
theorem fp2_21 : FPc Rc2 21 2 3 0 (.int) := ⟨fl2_21.1, fun C T N h => by cases h; exact ⟨rfl, by decide +kernel⟩, fl2_21.2⟩
set_option maxRecDepth 100000 in
theorem fl2_24 : FLc Rc2 24 2 4 0 := ⟨⟨Rc2, Tc2, 17, ck2, by decide, Or.inl (in_c1 58 rfl rfl)⟩, by decide +kernel⟩
set_option maxRecDepth 100000 in
theorem fl2_24r : FLc Rc2 24 14 4 0 := ⟨⟨Rc2, Tc2, 17, ck14, by decide, Or.inl (in_c1 58 rfl rfl)⟩, by decide +kernel⟩
theorem fp2_24 : FPc Rc2 24 2 4 0 (.int) := ⟨fl2_24.1, fun C T N h => by cases h; exact ⟨rfl, by decide +kernel⟩, fl2_24.2⟩
set_option maxRecDepth 100000 in
theorem fl2_27 : FLc Rc2 27 2 5 4 := ⟨⟨Rc2, Tc2, 17, ck2, by decide, Or.inl (in_c1 62 rfl rfl)⟩, by decide +kernel⟩
set_option maxRecDepth 100000 in
theorem fl2_27r : FLc Rc2 27 14 5 2 := ⟨⟨Rc2, Tc2, 17, ck14, by decide, Or.inl (in_c1 62 rfl rfl)⟩, by decide +kernel⟩
set_option maxRecDepth 100000 in
theorem fl2_31 : FLc Rc2 31 2 6 5 := ⟨⟨Rc2, Tc2, 17, ck2, by decide, Or.inl (in_c1 66 rfl rfl)⟩, by decide +kernel⟩
set_option maxRecDepth 100000 in
theorem fl2_31r : FLc Rc2 31 14 6 2 := ⟨⟨Rc2, Tc2, 17, ck14, by decide, Or.inl (in_c1 66 rfl rfl)⟩, by decide +kernel⟩
set_option maxRecDepth 100000 in
theorem fl2_34 : FLc Rc2 34 2 7 6 := ⟨⟨Rc2, Tc2, 17, ck2, by decide, Or.inl (in_c1 68 rfl rfl)⟩, by decide +kernel⟩
set_option maxRecDepth 100000 in
theorem fl2_34r : FLc Rc2 34 14 7 2 := ⟨⟨Rc2, Tc2, 17, ck14, by decide, Or.inl (in_c1 68 rfl rfl)⟩, by decide +kernel⟩
set_option maxRecDepth 100000 in
theorem fl2_37 : FLc Rc2 37 2 8 7 := ⟨⟨Rc2, Tc2, 17, ck2, by decide, Or.inl (in_c1 70 rfl rfl)⟩, by decide +kernel⟩
set_option maxRecDepth 100000 in
theorem fl2_37r : FLc Rc2 37 14 8 2 := ⟨⟨Rc2, Tc2, 17, ck14, by decide, Or.inl (in_c1 70 rfl rfl)⟩, by decide +kernel⟩
set_option maxRecDepth 100000 in
theorem fl2_40 : FLc Rc2 40 2 9 8 := ⟨⟨Rc2, Tc2, 17, ck2, by decide, Or.inl (in_c1 73 rfl rfl)⟩, by decide +kernel⟩
set_option maxRecDepth 100000 in
theorem fl2_40r : FLc Rc2 40 14 9 2 := ⟨⟨Rc2, Tc2, 17, ck14, by decide, Or.inl (in_c1 73 rfl rfl)⟩, by decide +kernel⟩
set_option maxRecDepth 100000 in
theorem fl2_43 : FLc Rc2 43 2 10 9 := ⟨⟨Rc2, Tc2, 17, ck2, by decide, Or.inl (in_c1 75 rfl rfl)⟩, by decide +kernel⟩
set_option maxRecDepth 100000 in
theorem fl2_43r : FLc Rc2 43 14 10 2 := ⟨⟨Rc2, Tc2, 17, ck14, by decide, Or.inl (in_c1 75 rfl rfl)⟩, by decide +kernel⟩
set_option maxRecDepth 100000 in
theorem fl2_46 : FLc Rc2 46 2 11 10 := ⟨⟨Rc2, Tc2, 17, ck2, by decide, Or.inl (in_c1 77 rfl rfl)⟩, by decide +kernel⟩
set_option maxRecDepth 100000 in
theorem fl2_46r : FLc Rc2 46 14 11 2 := ⟨⟨Rc2, Tc2, 17, ck14, by decide, Or.inl (in_c1 77 rfl rfl)⟩, by decide +kernel⟩
set_option maxRecDepth 100000 in
theorem fl2_49 : FLc Rc2 49 2 12 11 := ⟨⟨Rc2, Tc2, 17, ck2, by decide, Or.inl (in_c1 79 rfl rfl)⟩, by decide +kernel⟩
set_option maxRecDepth 100000 in
theorem fl2_49r : FLc Rc2 49 14 12 2 := ⟨⟨Rc2, Tc2, 17, ck14, by decide, Or.inl (in_c1 79 rfl rfl)⟩, by decide +kernel⟩
set_option maxRecDepth 100000 in
theorem fl2_52 : FLc Rc2 52 2 13 12 := ⟨⟨Rc2, Tc2, 17, ck2, by decide, Or.inl (in_c1 81 rfl rfl)⟩, by decide +kernel⟩
set_option maxRecDepth 100000 in
theorem fl2_52r : FLc Rc2 52 14 13 2 := ⟨⟨Rc2, Tc2, 17, ck14, by decide, Or.inl (in_c1 81 rfl rfl)⟩, by decide +kernel⟩
set_option maxRecDepth 100000 in
theorem fl2_55 : FLc Rc2 55 2 14 13 := ⟨⟨Rc2, Tc2, 17, ck2, by decide, Or.inl (in_c1 83 rfl rfl)⟩, by decide +kernel⟩
set_option maxRecDepth 100000 in
theorem fl2_55r : FLc Rc2 55 14 14 2 := ⟨⟨Rc2, Tc2, 17, ck14, by decide, Or.inl (in_c1 83 rfl rfl)⟩, by decide +kernel⟩
set_option maxRecDepth 100000 in
theorem fl2_58 : FLc Rc2 58 2 15 14 := ⟨⟨Rc2, Tc2, 17, ck2, by decide, Or.inl (in_c1 84 rfl rfl)⟩, by decide +kernel⟩
set_option maxRecDepth 100000 in
theorem fl2_58r : FLc Rc2 58 14 15 2 := ⟨⟨Rc2, Tc2, 17, ck14, by decide, Or.inl (in_c1 84 rfl rfl)⟩, by decide +kernel⟩
set_option maxRecDepth 100000 in
theorem fl2_61 : FLc Rc2 61 2 16 15 := ⟨⟨Rc2, Tc2, 17, ck2, by decide, Or.inl (in_c1 86 rfl rfl)⟩, by decide +kernel⟩
set_option maxRecDepth 100000 in
theorem fl2_61r : FLc Rc2 61 14 16 2 := ⟨⟨Rc2, Tc2, 17, ck14, by decide, Or.inl (in_c1 86 rfl rfl)⟩, by decide +kernel⟩
set_option maxRecDepth 100000 in
theorem ml2_64 : MLk 1 Rc2 64 yJArrays_fill_IIV prog_21_method_103_code 4 none 2 := mkJArrays_fill_IIV.link (Or.inl (in_c3 89 rfl rfl))
set_option maxRecDepth 100000 in
theorem ml2_76 : MLk 0 Rc2 76 y2_hasNode prog_7_method_7_code 2 (some (.boolean)) 1 := mk2_hasNode.link (Or.inl (in_c4 51 rfl rfl))
set_option maxRecDepth 100000 in
theorem ml2_80 : MLk 0 Rc2 80 y2_linkBetween prog_7_method_8_code 3 (some (.int)) 2 := mk2_linkBetween.link (Or.inl (in_c5 77 rfl rfl))
set_option maxRecDepth 100000 in
theorem mk2_rowBefore : MKk 0 y2_rowBefore prog_7_method_17_code 4 (some (.boolean)) 2 := ⟨in_c5 57 rfl rfl, ini2, ⟨by decide +kernel, by decide +kernel, by decide +kernel⟩, by decide, ⟨in_c5 56 rfl rfl, in_g 38 (by decide +kernel) (by decide +kernel)⟩⟩
set_option maxRecDepth 100000 in
theorem ml2_84 : MLk 0 Rc2 84 y2_rowBefore prog_7_method_17_code 4 (some (.boolean)) 2 := mk2_rowBefore.link (Or.inl (in_c5 54 rfl rfl))
set_option maxRecDepth 100000 in
theorem mk0_begins : MKk 1 y0_begins prog_1_method_37_code 4 (some (.boolean)) 2 := ⟨in_c5 60 rfl rfl, ini0, ⟨by decide +kernel, by decide +kernel, by decide +kernel⟩, by decide, in_c5 59 rfl rfl⟩
set_option maxRecDepth 100000 in
theorem ml2_88 : MLk 1 Rc2 88 y0_begins prog_1_method_37_code 4 (some (.boolean)) 2 := mk0_begins.link (Or.inr ⟨"AskedNames", in_k5 58 rfl⟩)
set_option maxRecDepth 100000 in
theorem fl5_12 : FLc Rc5 12 5 0 4 := ⟨⟨Rc5, Tc5, 14, ck5, by decide, Or.inl (in_c1 221 rfl rfl)⟩, by decide +kernel⟩
set_option maxRecDepth 100000 in
theorem fl5_12r : FLc Rc5 12 17 0 2 := ⟨⟨Rc5, Tc5, 14, ck17, by decide, Or.inl (in_c1 221 rfl rfl)⟩, by decide +kernel⟩
set_option maxRecDepth 100000 in
theorem fl5_21 : FLc Rc5 21 5 1 17 := ⟨⟨Rc5, Tc5, 14, ck5, by decide, Or.inl (in_c1 223 rfl rfl)⟩, by decide +kernel⟩
set_option maxRecDepth 100000 in
theorem fl5_21r : FLc Rc5 21 17 1 2 := ⟨⟨Rc5, Tc5, 14, ck17, by decide, Or.inl (in_c1 223 rfl rfl)⟩, by decide +kernel⟩
set_option maxRecDepth 100000 in
theorem fl5_28 : FLc Rc5 28 5 2 21 := ⟨⟨Rc5, Tc5, 14, ck5, by decide, Or.inl (in_c1 225 rfl rfl)⟩, by decide +kernel⟩
set_option maxRecDepth 100000 in
theorem fl5_28r : FLc Rc5 28 17 2 2 := ⟨⟨Rc5, Tc5, 14, ck17, by decide, Or.inl (in_c1 225 rfl rfl)⟩, by decide +kernel⟩
set_option maxRecDepth 100000 in
theorem fl5_32 : FLc Rc5 32 5 3 24 := ⟨⟨Rc5, Tc5, 14, ck5, by decide, Or.inl (in_c1 227 rfl rfl)⟩, by decide +kernel⟩
set_option maxRecDepth 100000 in
theorem fl5_32r : FLc Rc5 32 17 3 2 := ⟨⟨Rc5, Tc5, 14, ck17, by decide, Or.inl (in_c1 227 rfl rfl)⟩, by decide +kernel⟩
set_option maxRecDepth 100000 in
theorem fl5_36 : FLc Rc5 36 5 4 2 := ⟨⟨Rc5, Tc5, 14, ck5, by decide, Or.inl (in_c1 228 rfl rfl)⟩, by decide +kernel⟩
set_option maxRecDepth 100000 in
theorem fl5_36r : FLc Rc5 36 17 4 2 := ⟨⟨Rc5, Tc5, 14, ck17, by decide, Or.inl (in_c1 228 rfl rfl)⟩, by decide +kernel⟩
theorem fp5_36 : FPc Rc5 36 5 4 2 (.array (.byte)) := ⟨fl5_36.1, fun C T N h => by cases h; exact ⟨rfl, by decide +kernel⟩, fl5_36.2⟩
set_option maxRecDepth 100000 in
theorem fl5_40 : FLc Rc5 40 5 5 0 := ⟨⟨Rc5, Tc5, 14, ck5, by decide, Or.inl (in_c1 229 rfl rfl)⟩, by decide +kernel⟩
set_option maxRecDepth 100000 in
theorem fl5_40r : FLc Rc5 40 17 5 0 := ⟨⟨Rc5, Tc5, 14, ck17, by decide, Or.inl (in_c1 229 rfl rfl)⟩, by decide +kernel⟩
theorem fp5_40 : FPc Rc5 40 5 5 0 (.int) := ⟨fl5_40.1, fun C T N h => by cases h; exact ⟨rfl, by decide +kernel⟩, fl5_40.2⟩
set_option maxRecDepth 100000 in
theorem fl5_44 : FLc Rc5 44 5 6 0 := ⟨⟨Rc5, Tc5, 14, ck5, by decide, Or.inl (in_c1 230 rfl rfl)⟩, by decide +kernel⟩
set_option maxRecDepth 100000 in
theorem fl5_44r : FLc Rc5 44 17 6 0 := ⟨⟨Rc5, Tc5, 14, ck17, by decide, Or.inl (in_c1 230 rfl rfl)⟩, by decide +kernel⟩
theorem fp5_44 : FPc Rc5 44 5 6 0 (.int) := ⟨fl5_44.1, fun C T N h => by cases h; exact ⟨rfl, by decide +kernel⟩, fl5_44.2⟩
set_option maxRecDepth 100000 in
theorem fl5_47 : FLc Rc5 47 5 7 0 := ⟨⟨Rc5, Tc5, 14, ck5, by decide, Or.inl (in_c1 231 rfl rfl)⟩, by decide +kernel⟩
set_option maxRecDepth 100000 in
theorem fl5_47r : FLc Rc5 47 17 7 0 := ⟨⟨Rc5, Tc5, 14, ck17, by decide, Or.inl (in_c1 231 rfl rfl)⟩, by decide +kernel⟩
theorem fp5_47 : FPc Rc5 47 5 7 0 (.int) := ⟨fl5_47.1, fun C T N h => by cases h; exact ⟨rfl, by decide +kernel⟩, fl5_47.2⟩
set_option maxRecDepth 100000 in
theorem fl5_50 : FLc Rc5 50 5 8 0 := ⟨⟨Rc5, Tc5, 14, ck5, by decide, Or.inl (in_c1 232 rfl rfl)⟩, by decide +kernel⟩
set_option maxRecDepth 100000 in
theorem fl5_50r : FLc Rc5 50 17 8 0 := ⟨⟨Rc5, Tc5, 14, ck17, by decide, Or.inl (in_c1 232 rfl rfl)⟩, by decide +kernel⟩
theorem fp5_50 : FPc Rc5 50 5 8 0 (.int) := ⟨fl5_50.1, fun C T N h => by cases h; exact ⟨rfl, by decide +kernel⟩, fl5_50.2⟩
set_option maxRecDepth 100000 in
theorem fl5_53 : FLc Rc5 53 5 9 0 := ⟨⟨Rc5, Tc5, 14, ck5, by decide, Or.inl (in_c1 233 rfl rfl)⟩, by decide +kernel⟩
set_option maxRecDepth 100000 in
theorem fl5_53r : FLc Rc5 53 17 9 0 := ⟨⟨Rc5, Tc5, 14, ck17, by decide, Or.inl (in_c1 233 rfl rfl)⟩, by decide +kernel⟩
theorem fp5_53 : FPc Rc5 53 5 9 0 (.int) := ⟨fl5_53.1, fun C T N h => by cases h; exact ⟨rfl, by decide +kernel⟩, fl5_53.2⟩
set_option maxRecDepth 100000 in
theorem fl5_56 : FLc Rc5 56 5 10 0 := ⟨⟨Rc5, Tc5, 14, ck5, by decide, Or.inl (in_c1 234 rfl rfl)⟩, by decide +kernel⟩
set_option maxRecDepth 100000 in
theorem fl5_56r : FLc Rc5 56 17 10 0 := ⟨⟨Rc5, Tc5, 14, ck17, by decide, Or.inl (in_c1 234 rfl rfl)⟩, by decide +kernel⟩
theorem fp5_56 : FPc Rc5 56 5 10 0 (.int) := ⟨fl5_56.1, fun C T N h => by cases h; exact ⟨rfl, by decide +kernel⟩, fl5_56.2⟩
set_option maxRecDepth 100000 in
theorem fl5_59 : FLc Rc5 59 5 11 0 := ⟨⟨Rc5, Tc5, 14, ck5, by decide, Or.inl (in_c1 235 rfl rfl)⟩, by decide +kernel⟩
set_option maxRecDepth 100000 in
theorem fl5_59r : FLc Rc5 59 17 11 0 := ⟨⟨Rc5, Tc5, 14, ck17, by decide, Or.inl (in_c1 235 rfl rfl)⟩, by decide +kernel⟩
theorem fp5_59 : FPc Rc5 59 5 11 0 (.int) := ⟨fl5_59.1, fun C T N h => by cases h; exact ⟨rfl, by decide +kernel⟩, fl5_59.2⟩
set_option maxRecDepth 100000 in
theorem fl5_62 : FLc Rc5 62 5 12 0 := ⟨⟨Rc5, Tc5, 14, ck5, by decide, Or.inl (in_c1 236 rfl rfl)⟩, by decide +kernel⟩
set_option maxRecDepth 100000 in
theorem fl5_62r : FLc Rc5 62 17 12 0 := ⟨⟨Rc5, Tc5, 14, ck17, by decide, Or.inl (in_c1 236 rfl rfl)⟩, by decide +kernel⟩
theorem fp5_62 : FPc Rc5 62 5 12 0 (.int) := ⟨fl5_62.1, fun C T N h => by cases h; exact ⟨rfl, by decide +kernel⟩, fl5_62.2⟩
set_option maxRecDepth 100000 in
theorem fl5_65 : FLc Rc5 65 5 13 0 := ⟨⟨Rc5, Tc5, 14, ck5, by decide, Or.inl (in_c1 238 rfl rfl)⟩, by decide +kernel⟩
set_option maxRecDepth 100000 in
theorem fl5_65r : FLc Rc5 65 17 13 0 := ⟨⟨Rc5, Tc5, 14, ck17, by decide, Or.inl (in_c1 238 rfl rfl)⟩, by decide +kernel⟩
theorem fp5_65 : FPc Rc5 65 5 13 0 (.int) := ⟨fl5_65.1, fun C T N h => by cases h; exact ⟨rfl, by decide +kernel⟩, fl5_65.2⟩
set_option maxRecDepth 100000 in
theorem mk2_clear : MKk 0 y2_clear prog_7_method_2_code 1 none 0 := ⟨in_c3 88 rfl rfl, ini2, ⟨by decide +kernel, by decide +kernel, by decide +kernel⟩, by decide, ⟨in_c3 86 rfl rfl, in_c3 87 rfl rfl⟩⟩
set_option maxRecDepth 100000 in
theorem ml5_68 : MLk 0 Rc5 68 y2_clear prog_7_method_2_code 1 none 0 := mk2_clear.link (Or.inl (in_c3 85 rfl rfl))
set_option maxRecDepth 100000 in
theorem fl5_71 : FLc Rc5 71 3 0 0 := ⟨⟨Rc3, Tc3, 4, ck3, by decide, Or.inr ⟨"AskedNames", in_k1 133 rfl⟩⟩, by decide +kernel⟩
theorem fp5_71 : FPc Rc5 71 3 0 0 (.int) := ⟨fl5_71.1, fun C T N h => by cases h; exact ⟨rfl, by decide +kernel⟩, fl5_71.2⟩
set_option maxRecDepth 100000 in
theorem fl5_74 : FLc Rc5 74 4 0 0 := ⟨⟨Rc4, Tc4, 3, ck4, by decide, Or.inr ⟨"AskedNames", in_k1 162 rfl⟩⟩, by decide +kernel⟩
theorem fp5_74 : FPc Rc5 74 4 0 0 (.int) := ⟨fl5_74.1, fun C T N h => by cases h; exact ⟨rfl, by decide +kernel⟩, fl5_74.2⟩
set_option maxRecDepth 100000 in
theorem mk5_step : MKk 0 y5_step prog_8_method_13_code 1 none 0 := ⟨in_c3 95 rfl rfl, ini5, ⟨by decide +kernel, by decide +kernel, by decide +kernel⟩, by decide, ⟨in_c3 94 rfl rfl, in_g 0 (by decide +kernel) (by decide +kernel)⟩⟩
set_option maxRecDepth 100000 in
theorem ml5_77 : MLk 0 Rc5 77 y5_step prog_8_method_13_code 1 none 0 := mk5_step.link (Or.inl (in_c3 92 rfl rfl))
set_option maxRecDepth 100000 in
theorem mk5_readLine : MKk 0 y5_readLine prog_8_method_3_code 5 none 0 := ⟨in_c3 113 rfl rfl, ini5, ⟨by decide +kernel, by decide +kernel, by decide +kernel⟩, by decide, ⟨in_c3 112 rfl rfl, in_g 3 (by decide +kernel) (by decide +kernel)⟩⟩
set_option maxRecDepth 100000 in
theorem ml5_80 : MLk 0 Rc5 80 y5_readLine prog_8_method_3_code 5 none 0 := mk5_readLine.link (Or.inl (in_c3 110 rfl rfl))
set_option maxRecDepth 100000 in
theorem fl5_83 : FLc Rc5 83 2 0 0 := ⟨⟨Rc2, Tc2, 17, ck2, by decide, Or.inr ⟨"AskedNames", in_k1 44 rfl⟩⟩, by decide +kernel⟩
set_option maxRecDepth 100000 in
theorem mk5_mark : MKk 0 y5_mark prog_8_method_4_code 3 none 2 := ⟨in_c3 199 rfl rfl, ini5, ⟨by decide +kernel, by decide +kernel, by decide +kernel⟩, by decide, ⟨in_c3 198 rfl rfl, in_g 8 (by decide +kernel) (by decide +kernel)⟩⟩
set_option maxRecDepth 100000 in
theorem ml5_86 : MLk 0 Rc5 86 y5_mark prog_8_method_4_code 3 none 2 := mk5_mark.link (Or.inl (in_c3 196 rfl rfl))
set_option maxRecDepth 100000 in
theorem mk5_verbHere : MKk 0 y5_verbHere prog_8_method_9_code 2 (some (.int)) 0 := ⟨in_c3 117 rfl rfl, ini5, ⟨by decide +kernel, by decide +kernel, by decide +kernel⟩, by decide, ⟨in_c3 116 rfl rfl, in_g 4 (by decide +kernel) (by decide +kernel)⟩⟩
set_option maxRecDepth 100000 in
theorem ml5_90 : MLk 0 Rc5 90 y5_verbHere prog_8_method_9_code 2 (some (.int)) 0 := mk5_verbHere.link (Or.inl (in_c3 114 rfl rfl))
set_option maxRecDepth 100000 in
theorem mk5_refuse : MKk 0 y5_refuse prog_8_method_5_code 1 none 0 := ⟨in_c3 191 rfl rfl, ini5, ⟨by decide +kernel, by decide +kernel, by decide +kernel⟩, by decide, ⟨in_c3 190 rfl rfl, in_g 6 (by decide +kernel) (by decide +kernel)⟩⟩
set_option maxRecDepth 100000 in
theorem ml5_94 : MLk 0 Rc5 94 y5_refuse prog_8_method_5_code 1 none 0 := mk5_refuse.link (Or.inl (in_c3 188 rfl rfl))
set_option maxRecDepth 100000 in
theorem mk5_isOneTooMany : MKk 0 y5_isOneTooMany prog_8_method_6_code 2 (some (.boolean)) 1 := ⟨in_c3 195 rfl rfl, ini5, ⟨by decide +kernel, by decide +kernel, by decide +kernel⟩, by decide, ⟨in_c3 194 rfl rfl, in_g 7 (by decide +kernel) (by decide +kernel)⟩⟩
set_option maxRecDepth 100000 in
theorem ml5_97 : MLk 0 Rc5 97 y5_isOneTooMany prog_8_method_6_code 2 (some (.boolean)) 1 := mk5_isOneTooMany.link (Or.inl (in_c3 192 rfl rfl))
set_option maxRecDepth 100000 in
theorem mk5_shapeOf : MKk 1 y5_shapeOf prog_8_method_12_code 1 (some (.object "java/lang/String")) 1 := ⟨in_c3 202 rfl rfl, ini5, ⟨by decide +kernel, by decide +kernel, by decide +kernel⟩, by decide, in_c3 201 rfl rfl⟩
set_option maxRecDepth 100000 in
theorem ml5_101 : MLk 1 Rc5 101 y5_shapeOf prog_8_method_12_code 1 (some (.object "java/lang/String")) 1 := mk5_shapeOf.link (Or.inl (in_c3 200 rfl rfl))
set_option maxRecDepth 100000 in
theorem mkJString_length : MKk 0 yJString_length prog_17_method_54_code 1 (some (.int)) 0 := ⟨in_c3 143 rfl rfl, in_c1 14 rfl rfl, ⟨by decide +kernel, by decide +kernel, by decide +kernel⟩, by decide, ⟨in_c3 141 rfl rfl, in_c3 142 rfl rfl⟩⟩
set_option maxRecDepth 100000 in
theorem ml5_105 : MLk 0 Rc5 105 yJString_length prog_17_method_54_code 1 (some (.int)) 0 := mkJString_length.link (Or.inl (in_c3 140 rfl rfl))
set_option maxRecDepth 100000 in
theorem mkJString_charAt : MKk 0 yJString_charAt prog_17_method_56_code 2 (some (.char)) 1 := ⟨in_c3 153 rfl rfl, in_c1 14 rfl rfl, ⟨by decide +kernel, by decide +kernel, by decide +kernel⟩, by decide, ⟨in_c3 151 rfl rfl, in_c3 152 rfl rfl⟩⟩
set_option maxRecDepth 100000 in
theorem ml5_109 : MLk 0 Rc5 109 yJString_charAt prog_17_method_56_code 2 (some (.char)) 1 := mkJString_charAt.link (Or.inl (in_c3 150 rfl rfl))
set_option maxRecDepth 100000 in
theorem mk5_canBe : MKk 0 y5_canBe prog_8_method_7_code 2 (some (.boolean)) 1 := ⟨in_c3 217 rfl rfl, ini5, ⟨by decide +kernel, by decide +kernel, by decide +kernel⟩, by decide, ⟨in_c3 216 rfl rfl, in_g 9 (by decide +kernel) (by decide +kernel)⟩⟩
set_option maxRecDepth 100000 in
theorem ml5_113 : MLk 0 Rc5 113 y5_canBe prog_8_method_7_code 2 (some (.boolean)) 1 := mk5_canBe.link (Or.inl (in_c3 214 rfl rfl))
set_option maxRecDepth 100000 in
theorem mk5_tell : MKk 0 y5_tell prog_8_method_8_code 3 none 1 := ⟨in_c3 224 rfl rfl, ini5, ⟨by decide +kernel, by decide +kernel, by decide +kernel⟩, by decide, ⟨in_c3 223 rfl rfl, in_g 10 (by decide +kernel) (by decide +kernel)⟩⟩
set_option maxRecDepth 100000 in
theorem ml5_117 : MLk 0 Rc5 117 y5_tell prog_8_method_8_code 3 none 1 := mk5_tell.link (Or.inl (in_c3 221 rfl rfl))
set_option maxRecDepth 100000 in
theorem fl5_121 : FLc Rc5 121 2 3 0 := ⟨⟨Rc2, Tc2, 17, ck2, by decide, Or.inr ⟨"AskedNames", in_k1 55 rfl⟩⟩, by decide +kernel⟩
set_option maxRecDepth 100000 in
theorem fl5_124 : FLc Rc5 124 2 4 0 := ⟨⟨Rc2, Tc2, 17, ck2, by decide, Or.inr ⟨"AskedNames", in_k1 60 rfl⟩⟩, by decide +kernel⟩
set_option maxRecDepth 100000 in
theorem ml5_127 : MLk 1 Rc5 127 yJMath_max prog_16_method_65_code 2 (some (.int)) 2 := mkJMath_max.link (Or.inl (in_c3 218 rfl rfl))
theorem fp5_83 : FPc Rc5 83 2 0 0 (.int) := ⟨fl5_83.1, fun C T N h => by cases h; exact ⟨rfl, by decide +kernel⟩, fl5_83.2⟩
set_option maxRecDepth 100000 in
theorem fl5_133 : FLc Rc5 133 2 1 0 := ⟨⟨Rc2, Tc2, 17, ck2, by decide, Or.inr ⟨"AskedNames", in_k1 49 rfl⟩⟩, by decide +kernel⟩
theorem fp5_133 : FPc Rc5 133 2 1 0 (.int) := ⟨fl5_133.1, fun C T N h => by cases h; exact ⟨rfl, by decide +kernel⟩, fl5_133.2⟩
set_option maxRecDepth 100000 in
theorem fl5_136 : FLc Rc5 136 2 5 4 := ⟨⟨Rc2, Tc2, 17, ck2, by decide, Or.inr ⟨"AskedNames", in_k1 64 rfl⟩⟩, by decide +kernel⟩
set_option maxRecDepth 100000 in
theorem mk2_addLink : MKk 0 y2_addLink prog_7_method_4_code 5 none 3 := ⟨in_c3 228 rfl rfl, ini2, ⟨by decide +kernel, by decide +kernel, by decide +kernel⟩, by decide, ⟨in_c3 226 rfl rfl, in_c3 227 rfl rfl⟩⟩
set_option maxRecDepth 100000 in
theorem ml5_139 : MLk 0 Rc5 139 y2_addLink prog_7_method_4_code 5 none 3 := mk2_addLink.link (Or.inl (in_c3 225 rfl rfl))
set_option maxRecDepth 100000 in
theorem mk2_addRoute : MKk 0 y2_addRoute prog_7_method_5_code 5 none 4 := ⟨in_c3 232 rfl rfl, ini2, ⟨by decide +kernel, by decide +kernel, by decide +kernel⟩, by decide, ⟨in_c3 230 rfl rfl, in_c3 231 rfl rfl⟩⟩
set_option maxRecDepth 100000 in
theorem ml5_143 : MLk 0 Rc5 143 y2_addRoute prog_7_method_5_code 5 none 4 := mk2_addRoute.link (Or.inl (in_c3 229 rfl rfl))
set_option maxRecDepth 100000 in
theorem mk2_addServe : MKk 0 y2_addServe prog_7_method_6_code 4 none 3 := ⟨in_c3 236 rfl rfl, ini2, ⟨by decide +kernel, by decide +kernel, by decide +kernel⟩, by decide, ⟨in_c3 234 rfl rfl, in_c3 235 rfl rfl⟩⟩
set_option maxRecDepth 100000 in
theorem ml5_147 : MLk 0 Rc5 147 y2_addServe prog_7_method_6_code 4 none 3 := mk2_addServe.link (Or.inl (in_c3 233 rfl rfl))
set_option maxRecDepth 100000 in
theorem mk3_add : MKk 0 y3_add prog_9_method_3_code 4 none 3 := ⟨in_c4 0 rfl rfl, ini3, ⟨by decide +kernel, by decide +kernel, by decide +kernel⟩, by decide, ⟨in_c3 238 rfl rfl, in_c3 239 rfl rfl⟩⟩
set_option maxRecDepth 100000 in
theorem ml5_150 : MLk 0 Rc5 150 y3_add prog_9_method_3_code 4 none 3 := mk3_add.link (Or.inl (in_c3 237 rfl rfl))
set_option maxRecDepth 100000 in
theorem mk4_add : MKk 0 y4_add prog_5_method_3_code 3 none 2 := ⟨in_c4 4 rfl rfl, ini4, ⟨by decide +kernel, by decide +kernel, by decide +kernel⟩, by decide, ⟨in_c4 2 rfl rfl, in_c4 3 rfl rfl⟩⟩
set_option maxRecDepth 100000 in
theorem ml5_153 : MLk 0 Rc5 153 y4_add prog_5_method_3_code 3 none 2 := mk4_add.link (Or.inl (in_c4 1 rfl rfl))
set_option maxRecDepth 100000 in
theorem mk5_wordOf : MKk 1 y5_wordOf prog_8_method_11_code 1 (some (.object "java/lang/String")) 1 := ⟨in_c3 122 rfl rfl, ini5, ⟨by decide +kernel, by decide +kernel, by decide +kernel⟩, by decide, in_c3 121 rfl rfl⟩
set_option maxRecDepth 100000 in
theorem ml5_158 : MLk 1 Rc5 158 y5_wordOf prog_8_method_11_code 1 (some (.object "java/lang/String")) 1 := mk5_wordOf.link (Or.inl (in_c3 120 rfl rfl))
set_option maxRecDepth 100000 in
theorem mk5_isHere : MKk 0 y5_isHere prog_8_method_10_code 3 (some (.boolean)) 1 := ⟨in_c3 139 rfl rfl, ini5, ⟨by decide +kernel, by decide +kernel, by decide +kernel⟩, by decide, ⟨in_c3 138 rfl rfl, in_g 5 (by decide +kernel) (by decide +kernel)⟩⟩
set_option maxRecDepth 100000 in
theorem ml5_161 : MLk 0 Rc5 161 y5_isHere prog_8_method_10_code 3 (some (.boolean)) 1 := mk5_isHere.link (Or.inl (in_c3 136 rfl rfl))
set_option maxRecDepth 100000 in
theorem mk5_isLetter : MKk 1 y5_isLetter prog_8_method_16_code 1 (some (.boolean)) 1 := ⟨in_c3 98 rfl rfl, ini5, ⟨by decide +kernel, by decide +kernel, by decide +kernel⟩, by decide, in_c3 97 rfl rfl⟩
set_option maxRecDepth 100000 in
theorem ml5_210 : MLk 1 Rc5 210 y5_isLetter prog_8_method_16_code 1 (some (.boolean)) 1 := mk5_isLetter.link (Or.inl (in_c3 96 rfl rfl))
set_option maxRecDepth 100000 in
theorem mk5_takeWord : MKk 0 y5_takeWord prog_8_method_14_code 1 none 0 := ⟨in_c3 102 rfl rfl, ini5, ⟨by decide +kernel, by decide +kernel, by decide +kernel⟩, by decide, ⟨in_c3 101 rfl rfl, in_g 1 (by decide +kernel) (by decide +kernel)⟩⟩
set_option maxRecDepth 100000 in
theorem ml5_213 : MLk 0 Rc5 213 y5_takeWord prog_8_method_14_code 1 none 0 := mk5_takeWord.link (Or.inl (in_c3 99 rfl rfl))
set_option maxRecDepth 100000 in
theorem mk5_isDigit : MKk 1 y5_isDigit prog_8_method_17_code 1 (some (.boolean)) 1 := ⟨in_c3 105 rfl rfl, ini5, ⟨by decide +kernel, by decide +kernel, by decide +kernel⟩, by decide, in_c3 104 rfl rfl⟩
set_option maxRecDepth 100000 in
theorem ml5_216 : MLk 1 Rc5 216 y5_isDigit prog_8_method_17_code 1 (some (.boolean)) 1 := mk5_isDigit.link (Or.inl (in_c3 103 rfl rfl))
set_option maxRecDepth 100000 in
theorem mk5_takeNumber : MKk 0 y5_takeNumber prog_8_method_15_code 1 none 0 := ⟨in_c3 109 rfl rfl, ini5, ⟨by decide +kernel, by decide +kernel, by decide +kernel⟩, by decide, ⟨in_c3 108 rfl rfl, in_g 2 (by decide +kernel) (by decide +kernel)⟩⟩
set_option maxRecDepth 100000 in
theorem ml5_219 : MLk 0 Rc5 219 y5_takeNumber prog_8_method_15_code 1 none 0 := mk5_takeNumber.link (Or.inl (in_c3 106 rfl rfl))
set_option maxRecDepth 100000 in
theorem fl3_9 : FLc Rc3 9 3 0 0 := ⟨⟨Rc3, Tc3, 4, ck3, by decide, Or.inl (in_c1 132 rfl rfl)⟩, by decide +kernel⟩
set_option maxRecDepth 100000 in
theorem fl3_9r : FLc Rc3 9 15 0 0 := ⟨⟨Rc3, Tc3, 4, ck15, by decide, Or.inl (in_c1 132 rfl rfl)⟩, by decide +kernel⟩
theorem fp3_9 : FPc Rc3 9 3 0 0 (.int) := ⟨fl3_9.1, fun C T N h => by cases h; exact ⟨rfl, by decide +kernel⟩, fl3_9.2⟩
set_option maxRecDepth 100000 in
theorem fl3_15 : FLc Rc3 15 3 1 4 := ⟨⟨Rc3, Tc3, 4, ck3, by decide, Or.inl (in_c1 136 rfl rfl)⟩, by decide +kernel⟩
set_option maxRecDepth 100000 in
theorem fl3_15r : FLc Rc3 15 15 1 2 := ⟨⟨Rc3, Tc3, 4, ck15, by decide, Or.inl (in_c1 136 rfl rfl)⟩, by decide +kernel⟩
set_option maxRecDepth 100000 in
theorem fl3_19 : FLc Rc3 19 3 2 5 := ⟨⟨Rc3, Tc3, 4, ck3, by decide, Or.inl (in_c1 139 rfl rfl)⟩, by decide +kernel⟩
set_option maxRecDepth 100000 in
theorem fl3_19r : FLc Rc3 19 15 2 2 := ⟨⟨Rc3, Tc3, 4, ck15, by decide, Or.inl (in_c1 139 rfl rfl)⟩, by decide +kernel⟩
set_option maxRecDepth 100000 in
theorem fl3_22 : FLc Rc3 22 3 3 6 := ⟨⟨Rc3, Tc3, 4, ck3, by decide, Or.inl (in_c1 142 rfl rfl)⟩, by decide +kernel⟩
set_option maxRecDepth 100000 in
theorem fl3_22r : FLc Rc3 22 15 3 2 := ⟨⟨Rc3, Tc3, 4, ck15, by decide, Or.inl (in_c1 142 rfl rfl)⟩, by decide +kernel⟩
set_option maxRecDepth 100000 in
theorem fl8_9 : FLc Rc8 9 8 0 0 := ⟨⟨Rc8, Tc8, 4, ck8, by decide, Or.inl (in_c2 167 rfl rfl)⟩, by decide +kernel⟩
set_option maxRecDepth 100000 in
theorem fl8_9r : FLc Rc8 9 20 0 0 := ⟨⟨Rc8, Tc8, 4, ck20, by decide, Or.inl (in_c2 167 rfl rfl)⟩, by decide +kernel⟩
theorem fp8_9 : FPc Rc8 9 8 0 0 (.int) := ⟨fl8_9.1, fun C T N h => by cases h; exact ⟨rfl, by decide +kernel⟩, fl8_9.2⟩
set_option maxRecDepth 100000 in
theorem fl8_15 : FLc Rc8 15 8 1 4 := ⟨⟨Rc8, Tc8, 4, ck8, by decide, Or.inl (in_c2 170 rfl rfl)⟩, by decide +kernel⟩
set_option maxRecDepth 100000 in
theorem fl8_15r : FLc Rc8 15 20 1 2 := ⟨⟨Rc8, Tc8, 4, ck20, by decide, Or.inl (in_c2 170 rfl rfl)⟩, by decide +kernel⟩
set_option maxRecDepth 100000 in
theorem fl8_19 : FLc Rc8 19 8 2 5 := ⟨⟨Rc8, Tc8, 4, ck8, by decide, Or.inl (in_c2 173 rfl rfl)⟩, by decide +kernel⟩
set_option maxRecDepth 100000 in
theorem fl8_19r : FLc Rc8 19 20 2 2 := ⟨⟨Rc8, Tc8, 4, ck20, by decide, Or.inl (in_c2 173 rfl rfl)⟩, by decide +kernel⟩
set_option maxRecDepth 100000 in
theorem fl8_22 : FLc Rc8 22 8 3 6 := ⟨⟨Rc8, Tc8, 4, ck8, by decide, Or.inl (in_c2 176 rfl rfl)⟩, by decide +kernel⟩
set_option maxRecDepth 100000 in
theorem fl8_22r : FLc Rc8 22 20 3 2 := ⟨⟨Rc8, Tc8, 4, ck20, by decide, Or.inl (in_c2 176 rfl rfl)⟩, by decide +kernel⟩
set_option maxRecDepth 100000 in
theorem mk8_remove : MKk 0 y8_remove prog_10_method_5_code 3 none 1 := ⟨in_c4 143 rfl rfl, ini8, ⟨by decide +kernel, by decide +kernel, by decide +kernel⟩, by decide, ⟨in_c4 142 rfl rfl, in_g 23 (by decide +kernel) (by decide +kernel)⟩⟩
set_option maxRecDepth 100000 in
theorem ml8_25 : MLk 0 Rc8 25 y8_remove prog_10_method_5_code 3 none 1 := mk8_remove.link (Or.inl (in_c4 140 rfl rfl))
set_option maxRecDepth 100000 in
theorem mk8_add : MKk 0 y8_add prog_10_method_6_code 4 none 3 := ⟨in_c4 147 rfl rfl, ini8, ⟨by decide +kernel, by decide +kernel, by decide +kernel⟩, by decide, ⟨in_c4 146 rfl rfl, in_g 24 (by decide +kernel) (by decide +kernel)⟩⟩
set_option maxRecDepth 100000 in
theorem ml8_29 : MLk 0 Rc8 29 y8_add prog_10_method_6_code 4 none 3 := mk8_add.link (Or.inl (in_c4 144 rfl rfl))
set_option maxRecDepth 100000 in
theorem fl8_33 : FLc Rc8 33 7 4 0 := ⟨⟨Rc7, Tc7, 14, ck7, by decide, Or.inr ⟨"AskedNames", in_k2 56 rfl⟩⟩, by decide +kernel⟩
set_option maxRecDepth 100000 in
theorem ml8_37 : MLk 0 Rc8 37 y8_find prog_10_method_2_code 3 (some (.int)) 1 := mk8_find.link (Or.inl (in_c4 204 rfl rfl))
set_option maxRecDepth 100000 in
theorem fl8_41 : FLc Rc8 41 7 7 0 := ⟨⟨Rc7, Tc7, 14, ck7, by decide, Or.inr ⟨"AskedNames", in_k2 63 rfl⟩⟩, by decide +kernel⟩
set_option maxRecDepth 100000 in
theorem fl8_43 : FLc Rc8 43 7 8 0 := ⟨⟨Rc7, Tc7, 14, ck7, by decide, Or.inr ⟨"AskedNames", in_k2 66 rfl⟩⟩, by decide +kernel⟩
set_option maxRecDepth 100000 in
theorem fl1_9 : FLc Rc1 9 1 0 4 := ⟨⟨Rc1, Tc1, 8, ck1, by decide, Or.inl (in_c1 175 rfl rfl)⟩, by decide +kernel⟩
set_option maxRecDepth 100000 in
theorem fl1_9r : FLc Rc1 9 13 0 2 := ⟨⟨Rc1, Tc1, 8, ck13, by decide, Or.inl (in_c1 175 rfl rfl)⟩, by decide +kernel⟩
set_option maxRecDepth 100000 in
theorem fl1_15 : FLc Rc1 15 1 1 0 := ⟨⟨Rc1, Tc1, 8, ck1, by decide, Or.inl (in_c1 177 rfl rfl)⟩, by decide +kernel⟩
set_option maxRecDepth 100000 in
theorem fl1_15r : FLc Rc1 15 13 1 0 := ⟨⟨Rc1, Tc1, 8, ck13, by decide, Or.inl (in_c1 177 rfl rfl)⟩, by decide +kernel⟩
theorem fp1_15 : FPc Rc1 15 1 1 0 (.int) := ⟨fl1_15.1, fun C T N h => by cases h; exact ⟨rfl, by decide +kernel⟩, fl1_15.2⟩
set_option maxRecDepth 100000 in
theorem fl1_19 : FLc Rc1 19 1 2 0 := ⟨⟨Rc1, Tc1, 8, ck1, by decide, Or.inl (in_c1 179 rfl rfl)⟩, by decide +kernel⟩
set_option maxRecDepth 100000 in
theorem fl1_19r : FLc Rc1 19 13 2 0 := ⟨⟨Rc1, Tc1, 8, ck13, by decide, Or.inl (in_c1 179 rfl rfl)⟩, by decide +kernel⟩
theorem fp1_19 : FPc Rc1 19 1 2 0 (.int) := ⟨fl1_19.1, fun C T N h => by cases h; exact ⟨rfl, by decide +kernel⟩, fl1_19.2⟩
set_option maxRecDepth 100000 in
theorem fl1_22 : FLc Rc1 22 1 3 0 := ⟨⟨Rc1, Tc1, 8, ck1, by decide, Or.inl (in_c1 181 rfl rfl)⟩, by decide +kernel⟩
set_option maxRecDepth 100000 in
theorem fl1_22r : FLc Rc1 22 13 3 0 := ⟨⟨Rc1, Tc1, 8, ck13, by decide, Or.inl (in_c1 181 rfl rfl)⟩, by decide +kernel⟩
theorem fp1_22 : FPc Rc1 22 1 3 0 (.int) := ⟨fl1_22.1, fun C T N h => by cases h; exact ⟨rfl, by decide +kernel⟩, fl1_22.2⟩
set_option maxRecDepth 100000 in
theorem fl1_25 : FLc Rc1 25 1 4 5 := ⟨⟨Rc1, Tc1, 8, ck1, by decide, Or.inl (in_c1 183 rfl rfl)⟩, by decide +kernel⟩
set_option maxRecDepth 100000 in
theorem fl1_25r : FLc Rc1 25 13 4 2 := ⟨⟨Rc1, Tc1, 8, ck13, by decide, Or.inl (in_c1 183 rfl rfl)⟩, by decide +kernel⟩
set_option maxRecDepth 100000 in
theorem fl1_32 : FLc Rc1 32 1 5 6 := ⟨⟨Rc1, Tc1, 8, ck1, by decide, Or.inl (in_c1 185 rfl rfl)⟩, by decide +kernel⟩
set_option maxRecDepth 100000 in
theorem fl1_32r : FLc Rc1 32 13 5 2 := ⟨⟨Rc1, Tc1, 8, ck13, by decide, Or.inl (in_c1 185 rfl rfl)⟩, by decide +kernel⟩
set_option maxRecDepth 100000 in
theorem fl1_39 : FLc Rc1 39 1 6 33 := ⟨⟨Rc1, Tc1, 8, ck1, by decide, Or.inl (in_c1 187 rfl rfl)⟩, by decide +kernel⟩
set_option maxRecDepth 100000 in
theorem fl1_39r : FLc Rc1 39 13 6 2 := ⟨⟨Rc1, Tc1, 8, ck13, by decide, Or.inl (in_c1 187 rfl rfl)⟩, by decide +kernel⟩
set_option maxRecDepth 100000 in
theorem fl1_46 : FLc Rc1 46 1 7 42 := ⟨⟨Rc1, Tc1, 8, ck1, by decide, Or.inl (in_c1 189 rfl rfl)⟩, by decide +kernel⟩
set_option maxRecDepth 100000 in
theorem fl1_46r : FLc Rc1 46 13 7 2 := ⟨⟨Rc1, Tc1, 8, ck13, by decide, Or.inl (in_c1 189 rfl rfl)⟩, by decide +kernel⟩
set_option maxRecDepth 100000 in
theorem fl1_50 : FLc Rc1 50 5 0 4 := ⟨⟨Rc5, Tc5, 14, ck5, by decide, Or.inr ⟨"AskedNames", in_k1 222 rfl⟩⟩, by decide +kernel⟩
set_option maxRecDepth 100000 in
theorem mk2_copy : MKk 0 y2_copy prog_7_method_3_code 2 none 1 := ⟨in_c4 12 rfl rfl, ini2, ⟨by decide +kernel, by decide +kernel, by decide +kernel⟩, by decide, ⟨in_c4 10 rfl rfl, in_c4 11 rfl rfl⟩⟩
set_option maxRecDepth 100000 in
theorem ml1_56 : MLk 0 Rc1 56 y2_copy prog_7_method_3_code 2 none 1 := mk2_copy.link (Or.inl (in_c4 9 rfl rfl))
set_option maxRecDepth 100000 in
theorem fl1_60 : FLc Rc1 60 5 1 17 := ⟨⟨Rc5, Tc5, 14, ck5, by decide, Or.inr ⟨"AskedNames", in_k1 224 rfl⟩⟩, by decide +kernel⟩
set_option maxRecDepth 100000 in
theorem mk3_copy : MKk 0 y3_copy prog_9_method_2_code 2 none 1 := ⟨in_c4 19 rfl rfl, ini3, ⟨by decide +kernel, by decide +kernel, by decide +kernel⟩, by decide, ⟨in_c4 17 rfl rfl, in_c4 18 rfl rfl⟩⟩
set_option maxRecDepth 100000 in
theorem ml1_64 : MLk 0 Rc1 64 y3_copy prog_9_method_2_code 2 none 1 := mk3_copy.link (Or.inl (in_c4 16 rfl rfl))
set_option maxRecDepth 100000 in
theorem fl1_67 : FLc Rc1 67 5 2 21 := ⟨⟨Rc5, Tc5, 14, ck5, by decide, Or.inr ⟨"AskedNames", in_k1 226 rfl⟩⟩, by decide +kernel⟩
set_option maxRecDepth 100000 in
theorem mk4_copy : MKk 0 y4_copy prog_5_method_2_code 2 none 1 := ⟨in_c4 24 rfl rfl, ini4, ⟨by decide +kernel, by decide +kernel, by decide +kernel⟩, by decide, ⟨in_c4 22 rfl rfl, in_c4 23 rfl rfl⟩⟩
set_option maxRecDepth 100000 in
theorem ml1_71 : MLk 0 Rc1 71 y4_copy prog_5_method_2_code 2 none 1 := mk4_copy.link (Or.inl (in_c4 21 rfl rfl))
set_option maxRecDepth 100000 in
theorem ml1_74 : MLk 1 Rc1 74 yJMath_max prog_16_method_65_code 2 (some (.int)) 2 := mkJMath_max.link (Or.inl (in_c4 26 rfl rfl))
set_option maxRecDepth 100000 in
theorem mk0_feed : MKk 0 y0_feed prog_1_method_2_code 6 (some (.int)) 5 := ⟨in_c3 68 rfl rfl, ini0, ⟨by decide +kernel, by decide +kernel, by decide +kernel⟩, by decide, ⟨in_c3 66 rfl rfl, in_c3 67 rfl rfl⟩⟩
set_option maxRecDepth 100000 in
theorem mlL_13 : MLk 0 "AskedNamesLaw" 13 y0_feed prog_1_method_2_code 6 (some (.int)) 5 := mk0_feed.link (Or.inl (in_c3 65 rfl rfl))
set_option maxRecDepth 100000 in
theorem mk11_feed : MKk 0 y11_feed prog_13_method_11_code 6 (some (.int)) 5 := ⟨in_c6 224 rfl rfl, ini11, ⟨by decide +kernel, by decide +kernel, by decide +kernel⟩, by decide, ⟨in_c6 222 rfl rfl, in_c6 223 rfl rfl⟩⟩
set_option maxRecDepth 100000 in
theorem mlL_17 : MLk 0 "AskedNamesLaw" 17 y11_feed prog_13_method_11_code 6 (some (.int)) 5 := mk11_feed.link (Or.inl (in_c6 221 rfl rfl))
set_option maxRecDepth 100000 in
theorem mk0_end : MKk 0 y0_end prog_1_method_3_code 2 (some (.int)) 1 := ⟨in_c3 76 rfl rfl, ini0, ⟨by decide +kernel, by decide +kernel, by decide +kernel⟩, by decide, ⟨in_c3 74 rfl rfl, in_c3 75 rfl rfl⟩⟩
set_option maxRecDepth 100000 in
theorem mlL_18 : MLk 0 "AskedNamesLaw" 18 y0_end prog_1_method_3_code 2 (some (.int)) 1 := mk0_end.link (Or.inl (in_c3 73 rfl rfl))
set_option maxRecDepth 100000 in
theorem mk11_end : MKk 0 y11_end prog_13_method_13_code 2 (some (.int)) 1 := ⟨in_c6 232 rfl rfl, ini11, ⟨by decide +kernel, by decide +kernel, by decide +kernel⟩, by decide, ⟨in_c6 230 rfl rfl, in_c6 231 rfl rfl⟩⟩
set_option maxRecDepth 100000 in
theorem mlL_22 : MLk 0 "AskedNamesLaw" 22 y11_end prog_13_method_13_code 2 (some (.int)) 1 := mk11_end.link (Or.inl (in_c6 229 rfl rfl))
set_option maxRecDepth 100000 in
theorem mk0_text : MKk 0 y0_text prog_1_method_4_code 8 (some (.int)) 2 := ⟨in_c3 80 rfl rfl, ini0, ⟨by decide +kernel, by decide +kernel, by decide +kernel⟩, by decide, ⟨in_c3 78 rfl rfl, in_c3 79 rfl rfl⟩⟩
set_option maxRecDepth 100000 in
theorem mlL_23 : MLk 0 "AskedNamesLaw" 23 y0_text prog_1_method_4_code 8 (some (.int)) 2 := mk0_text.link (Or.inl (in_c3 77 rfl rfl))
set_option maxRecDepth 100000 in
theorem mk11_text : MKk 0 y11_text prog_13_method_34_code 4 (some (.int)) 2 := ⟨in_c6 239 rfl rfl, ini11, ⟨by decide +kernel, by decide +kernel, by decide +kernel⟩, by decide, ⟨in_c6 237 rfl rfl, in_c6 238 rfl rfl⟩⟩
set_option maxRecDepth 100000 in
theorem mlL_27 : MLk 0 "AskedNamesLaw" 27 y11_text prog_13_method_34_code 4 (some (.int)) 2 := mk11_text.link (Or.inl (in_c6 236 rfl rfl))
set_option maxRecDepth 100000 in
theorem mk0_fault : MKk 0 y0_fault prog_1_method_5_code 2 (some (.int)) 1 := ⟨in_c4 30 rfl rfl, ini0, ⟨by decide +kernel, by decide +kernel, by decide +kernel⟩, by decide, ⟨in_c4 28 rfl rfl, in_c4 29 rfl rfl⟩⟩
set_option maxRecDepth 100000 in
theorem mlL_28 : MLk 0 "AskedNamesLaw" 28 y0_fault prog_1_method_5_code 2 (some (.int)) 1 := mk0_fault.link (Or.inl (in_c4 27 rfl rfl))
set_option maxRecDepth 100000 in
theorem mk11_fault : MKk 0 y11_fault prog_13_method_35_code 2 (some (.int)) 1 := ⟨in_c7 106 rfl rfl, ini11, ⟨by decide +kernel, by decide +kernel, by decide +kernel⟩, by decide, ⟨in_c7 104 rfl rfl, in_c7 105 rfl rfl⟩⟩
set_option maxRecDepth 100000 in
theorem mlL_31 : MLk 0 "AskedNamesLaw" 31 y11_fault prog_13_method_35_code 2 (some (.int)) 1 := mk11_fault.link (Or.inl (in_c7 103 rfl rfl))
set_option maxRecDepth 100000 in
theorem mk0_net : MKk 0 y0_net prog_1_method_6_code 4 (some (.int)) 2 := ⟨in_c4 34 rfl rfl, ini0, ⟨by decide +kernel, by decide +kernel, by decide +kernel⟩, by decide, ⟨in_c4 32 rfl rfl, in_c4 33 rfl rfl⟩⟩
set_option maxRecDepth 100000 in
theorem mlL_32 : MLk 0 "AskedNamesLaw" 32 y0_net prog_1_method_6_code 4 (some (.int)) 2 := mk0_net.link (Or.inl (in_c4 31 rfl rfl))
set_option maxRecDepth 100000 in
theorem mk11_net : MKk 0 y11_net prog_13_method_54_code 5 (some (.int)) 2 := ⟨in_c7 110 rfl rfl, ini11, ⟨by decide +kernel, by decide +kernel, by decide +kernel⟩, by decide, ⟨in_c7 108 rfl rfl, in_c7 109 rfl rfl⟩⟩
set_option maxRecDepth 100000 in
theorem mlL_35 : MLk 0 "AskedNamesLaw" 35 y11_net prog_13_method_54_code 5 (some (.int)) 2 := mk11_net.link (Or.inl (in_c7 107 rfl rfl))
set_option maxRecDepth 100000 in
theorem mk0_deed : MKk 0 y0_deed prog_1_method_7_code 5 (some (.int)) 3 := ⟨in_c4 58 rfl rfl, ini0, ⟨by decide +kernel, by decide +kernel, by decide +kernel⟩, by decide, ⟨in_c4 56 rfl rfl, in_c4 57 rfl rfl⟩⟩
set_option maxRecDepth 100000 in
theorem mlL_36 : MLk 0 "AskedNamesLaw" 36 y0_deed prog_1_method_7_code 5 (some (.int)) 3 := mk0_deed.link (Or.inl (in_c4 55 rfl rfl))
set_option maxRecDepth 100000 in
theorem mk11_deed : MKk 0 y11_deed prog_13_method_90_code 4 (some (.int)) 3 := ⟨in_c7 158 rfl rfl, ini11, ⟨by decide +kernel, by decide +kernel, by decide +kernel⟩, by decide, ⟨in_c7 156 rfl rfl, in_c7 157 rfl rfl⟩⟩
set_option maxRecDepth 100000 in
theorem mlL_40 : MLk 0 "AskedNamesLaw" 40 y11_deed prog_13_method_90_code 4 (some (.int)) 3 := mk11_deed.link (Or.inl (in_c7 155 rfl rfl))
set_option maxRecDepth 100000 in
theorem mk0_stop : MKk 0 y0_stop prog_1_method_8_code 5 (some (.int)) 2 := ⟨in_c4 66 rfl rfl, ini0, ⟨by decide +kernel, by decide +kernel, by decide +kernel⟩, by decide, ⟨in_c4 64 rfl rfl, in_c4 65 rfl rfl⟩⟩
set_option maxRecDepth 100000 in
theorem mlL_41 : MLk 0 "AskedNamesLaw" 41 y0_stop prog_1_method_8_code 5 (some (.int)) 2 := mk0_stop.link (Or.inl (in_c4 63 rfl rfl))
set_option maxRecDepth 100000 in
theorem mk11_stop : MKk 0 y11_stop prog_13_method_94_code 3 (some (.int)) 2 := ⟨in_c7 174 rfl rfl, ini11, ⟨by decide +kernel, by decide +kernel, by decide +kernel⟩, by decide, ⟨in_c7 172 rfl rfl, in_c7 173 rfl rfl⟩⟩
set_option maxRecDepth 100000 in
theorem mlL_44 : MLk 0 "AskedNamesLaw" 44 y11_stop prog_13_method_94_code 3 (some (.int)) 2 := mk11_stop.link (Or.inl (in_c7 171 rfl rfl))
set_option maxRecDepth 100000 in
theorem mk0_state : MKk 0 y0_state prog_1_method_9_code 8 (some (.int)) 4 := ⟨in_c4 224 rfl rfl, ini0, ⟨by decide +kernel, by decide +kernel, by decide +kernel⟩, by decide, ⟨in_c4 222 rfl rfl, in_c4 223 rfl rfl⟩⟩
set_option maxRecDepth 100000 in
theorem mlL_45 : MLk 0 "AskedNamesLaw" 45 y0_state prog_1_method_9_code 8 (some (.int)) 4 := mk0_state.link (Or.inl (in_c4 221 rfl rfl))
set_option maxRecDepth 100000 in
theorem mk11_state : MKk 0 y11_state prog_13_method_98_code 5 (some (.int)) 4 := ⟨in_c8 103 rfl rfl, ini11, ⟨by decide +kernel, by decide +kernel, by decide +kernel⟩, by decide, ⟨in_c8 101 rfl rfl, in_c8 102 rfl rfl⟩⟩
set_option maxRecDepth 100000 in
theorem mlL_49 : MLk 0 "AskedNamesLaw" 49 y11_state prog_13_method_98_code 5 (some (.int)) 4 := mk11_state.link (Or.inl (in_c8 100 rfl rfl))
set_option maxRecDepth 100000 in
theorem mk0_stored : MKk 0 y0_stored prog_1_method_10_code 11 (some (.int)) 6 := ⟨in_c5 8 rfl rfl, ini0, ⟨by decide +kernel, by decide +kernel, by decide +kernel⟩, by decide, ⟨in_c5 6 rfl rfl, in_c5 7 rfl rfl⟩⟩
set_option maxRecDepth 100000 in
theorem mlL_50 : MLk 0 "AskedNamesLaw" 50 y0_stored prog_1_method_10_code 11 (some (.int)) 6 := mk0_stored.link (Or.inl (in_c5 5 rfl rfl))
set_option maxRecDepth 100000 in
theorem mk11_stored : MKk 0 y11_stored prog_13_method_99_code 8 (some (.int)) 6 := ⟨in_c8 121 rfl rfl, ini11, ⟨by decide +kernel, by decide +kernel, by decide +kernel⟩, by decide, ⟨in_c8 119 rfl rfl, in_c8 120 rfl rfl⟩⟩
set_option maxRecDepth 100000 in
theorem mlL_54 : MLk 0 "AskedNamesLaw" 54 y11_stored prog_13_method_99_code 8 (some (.int)) 6 := mk11_stored.link (Or.inl (in_c8 118 rfl rfl))
set_option maxRecDepth 100000 in
theorem mk0_entry : MKk 0 y0_entry prog_1_method_11_code 11 (some (.int)) 6 := ⟨in_c5 13 rfl rfl, ini0, ⟨by decide +kernel, by decide +kernel, by decide +kernel⟩, by decide, ⟨in_c5 11 rfl rfl, in_c5 12 rfl rfl⟩⟩
set_option maxRecDepth 100000 in
theorem mlL_55 : MLk 0 "AskedNamesLaw" 55 y0_entry prog_1_method_11_code 11 (some (.int)) 6 := mk0_entry.link (Or.inl (in_c5 10 rfl rfl))
set_option maxRecDepth 100000 in
theorem mk11_entry : MKk 0 y11_entry prog_13_method_100_code 8 (some (.int)) 6 := ⟨in_c8 125 rfl rfl, ini11, ⟨by decide +kernel, by decide +kernel, by decide +kernel⟩, by decide, ⟨in_c8 123 rfl rfl, in_c8 124 rfl rfl⟩⟩
set_option maxRecDepth 100000 in
theorem mlL_58 : MLk 0 "AskedNamesLaw" 58 y11_entry prog_13_method_100_code 8 (some (.int)) 6 := mk11_entry.link (Or.inl (in_c8 122 rfl rfl))
set_option maxRecDepth 100000 in
theorem mk0_why : MKk 0 y0_why prog_1_method_12_code 8 (some (.int)) 4 := ⟨in_c5 26 rfl rfl, ini0, ⟨by decide +kernel, by decide +kernel, by decide +kernel⟩, by decide, ⟨in_c5 24 rfl rfl, in_c5 25 rfl rfl⟩⟩
set_option maxRecDepth 100000 in
theorem mlL_59 : MLk 0 "AskedNamesLaw" 59 y0_why prog_1_method_12_code 8 (some (.int)) 4 := mk0_why.link (Or.inl (in_c5 23 rfl rfl))
set_option maxRecDepth 100000 in
theorem mk11_why : MKk 0 y11_why prog_13_method_102_code 5 (some (.int)) 4 := ⟨in_c8 129 rfl rfl, ini11, ⟨by decide +kernel, by decide +kernel, by decide +kernel⟩, by decide, ⟨in_c8 127 rfl rfl, in_c8 128 rfl rfl⟩⟩
set_option maxRecDepth 100000 in
theorem mlL_62 : MLk 0 "AskedNamesLaw" 62 y11_why prog_13_method_102_code 5 (some (.int)) 4 := mk11_why.link (Or.inl (in_c8 126 rfl rfl))
set_option maxRecDepth 100000 in
theorem mk0_alone : MKk 0 y0_alone prog_1_method_13_code 7 (some (.int)) 5 := ⟨in_c5 38 rfl rfl, ini0, ⟨by decide +kernel, by decide +kernel, by decide +kernel⟩, by decide, ⟨in_c5 36 rfl rfl, in_c5 37 rfl rfl⟩⟩
set_option maxRecDepth 100000 in
theorem mlL_63 : MLk 0 "AskedNamesLaw" 63 y0_alone prog_1_method_13_code 7 (some (.int)) 5 := mk0_alone.link (Or.inl (in_c5 35 rfl rfl))
set_option maxRecDepth 100000 in
theorem mk11_alone : MKk 0 y11_alone prog_13_method_103_code 6 (some (.int)) 5 := ⟨in_c8 137 rfl rfl, ini11, ⟨by decide +kernel, by decide +kernel, by decide +kernel⟩, by decide, ⟨in_c8 135 rfl rfl, in_c8 136 rfl rfl⟩⟩
set_option maxRecDepth 100000 in
theorem mlL_66 : MLk 0 "AskedNamesLaw" 66 y11_alone prog_13_method_103_code 6 (some (.int)) 5 := mk11_alone.link (Or.inl (in_c8 134 rfl rfl))
set_option maxRecDepth 100000 in
theorem mk0_table : MKk 0 y0_table prog_1_method_14_code 5 (some (.int)) 3 := ⟨in_c5 49 rfl rfl, ini0, ⟨by decide +kernel, by decide +kernel, by decide +kernel⟩, by decide, ⟨in_c5 47 rfl rfl, in_c5 48 rfl rfl⟩⟩
set_option maxRecDepth 100000 in
theorem mlL_67 : MLk 0 "AskedNamesLaw" 67 y0_table prog_1_method_14_code 5 (some (.int)) 3 := mk0_table.link (Or.inl (in_c5 46 rfl rfl))
set_option maxRecDepth 100000 in
theorem mk11_table : MKk 0 y11_table prog_13_method_105_code 6 (some (.int)) 3 := ⟨in_c8 144 rfl rfl, ini11, ⟨by decide +kernel, by decide +kernel, by decide +kernel⟩, by decide, ⟨in_c8 142 rfl rfl, in_c8 143 rfl rfl⟩⟩
set_option maxRecDepth 100000 in
theorem mlL_70 : MLk 0 "AskedNamesLaw" 70 y11_table prog_13_method_105_code 6 (some (.int)) 3 := mk11_table.link (Or.inl (in_c8 141 rfl rfl))
set_option maxRecDepth 100000 in
theorem mk0_ways : MKk 0 y0_ways prog_1_method_15_code 7 (some (.int)) 4 := ⟨in_c5 68 rfl rfl, ini0, ⟨by decide +kernel, by decide +kernel, by decide +kernel⟩, by decide, ⟨in_c5 66 rfl rfl, in_c5 67 rfl rfl⟩⟩
set_option maxRecDepth 100000 in
theorem mlL_71 : MLk 0 "AskedNamesLaw" 71 y0_ways prog_1_method_15_code 7 (some (.int)) 4 := mk0_ways.link (Or.inl (in_c5 65 rfl rfl))
set_option maxRecDepth 100000 in
theorem mk11_ways : MKk 0 y11_ways prog_13_method_106_code 9 (some (.int)) 4 := ⟨in_c8 152 rfl rfl, ini11, ⟨by decide +kernel, by decide +kernel, by decide +kernel⟩, by decide, ⟨in_c8 150 rfl rfl, in_c8 151 rfl rfl⟩⟩
set_option maxRecDepth 100000 in
theorem mlL_75 : MLk 0 "AskedNamesLaw" 75 y11_ways prog_13_method_106_code 9 (some (.int)) 4 := mk11_ways.link (Or.inl (in_c8 149 rfl rfl))
set_option maxRecDepth 100000 in
theorem mk0_trail : MKk 0 y0_trail prog_1_method_16_code 13 (some (.int)) 4 := ⟨in_c5 81 rfl rfl, ini0, ⟨by decide +kernel, by decide +kernel, by decide +kernel⟩, by decide, ⟨in_c5 79 rfl rfl, in_c5 80 rfl rfl⟩⟩
set_option maxRecDepth 100000 in
theorem mlL_76 : MLk 0 "AskedNamesLaw" 76 y0_trail prog_1_method_16_code 13 (some (.int)) 4 := mk0_trail.link (Or.inl (in_c5 78 rfl rfl))
set_option maxRecDepth 100000 in
theorem mk11_trail : MKk 0 y11_trail prog_13_method_108_code 6 (some (.int)) 4 := ⟨in_c8 156 rfl rfl, ini11, ⟨by decide +kernel, by decide +kernel, by decide +kernel⟩, by decide, ⟨in_c8 154 rfl rfl, in_c8 155 rfl rfl⟩⟩
set_option maxRecDepth 100000 in
theorem mlL_79 : MLk 0 "AskedNamesLaw" 79 y11_trail prog_13_method_108_code 6 (some (.int)) 4 := mk11_trail.link (Or.inl (in_c8 153 rfl rfl))
set_option maxRecDepth 100000 in
theorem mk0_far : MKk 0 y0_far prog_1_method_17_code 7 (some (.int)) 3 := ⟨in_c5 88 rfl rfl, ini0, ⟨by decide +kernel, by decide +kernel, by decide +kernel⟩, by decide, ⟨in_c5 86 rfl rfl, in_c5 87 rfl rfl⟩⟩
set_option maxRecDepth 100000 in
theorem mlL_80 : MLk 0 "AskedNamesLaw" 80 y0_far prog_1_method_17_code 7 (some (.int)) 3 := mk0_far.link (Or.inl (in_c5 85 rfl rfl))
set_option maxRecDepth 100000 in
theorem mk11_far : MKk 0 y11_far prog_13_method_109_code 7 (some (.int)) 3 := ⟨in_c8 164 rfl rfl, ini11, ⟨by decide +kernel, by decide +kernel, by decide +kernel⟩, by decide, ⟨in_c8 162 rfl rfl, in_c8 163 rfl rfl⟩⟩
set_option maxRecDepth 100000 in
theorem mlL_83 : MLk 0 "AskedNamesLaw" 83 y11_far prog_13_method_109_code 7 (some (.int)) 3 := mk11_far.link (Or.inl (in_c8 161 rfl rfl))
set_option maxRecDepth 100000 in
theorem mk0_fact : MKk 0 y0_fact prog_1_method_18_code 5 (some (.int)) 3 := ⟨in_c5 97 rfl rfl, ini0, ⟨by decide +kernel, by decide +kernel, by decide +kernel⟩, by decide, ⟨in_c5 95 rfl rfl, in_c5 96 rfl rfl⟩⟩
set_option maxRecDepth 100000 in
theorem mlL_84 : MLk 0 "AskedNamesLaw" 84 y0_fact prog_1_method_18_code 5 (some (.int)) 3 := mk0_fact.link (Or.inl (in_c5 94 rfl rfl))
set_option maxRecDepth 100000 in
theorem mk11_fact : MKk 0 y11_fact prog_13_method_113_code 4 (some (.int)) 3 := ⟨in_c8 168 rfl rfl, ini11, ⟨by decide +kernel, by decide +kernel, by decide +kernel⟩, by decide, ⟨in_c8 166 rfl rfl, in_c8 167 rfl rfl⟩⟩
set_option maxRecDepth 100000 in
theorem mlL_87 : MLk 0 "AskedNamesLaw" 87 y11_fact prog_13_method_113_code 4 (some (.int)) 3 := mk11_fact.link (Or.inl (in_c8 165 rfl rfl))
set_option maxRecDepth 100000 in
theorem mk0_fits : MKk 0 y0_fits prog_1_method_19_code 11 (some (.int)) 4 := ⟨in_c5 105 rfl rfl, ini0, ⟨by decide +kernel, by decide +kernel, by decide +kernel⟩, by decide, ⟨in_c5 103 rfl rfl, in_c5 104 rfl rfl⟩⟩
set_option maxRecDepth 100000 in
theorem mlL_88 : MLk 0 "AskedNamesLaw" 88 y0_fits prog_1_method_19_code 11 (some (.int)) 4 := mk0_fits.link (Or.inl (in_c5 102 rfl rfl))
set_option maxRecDepth 100000 in
theorem mk11_fits : MKk 0 y11_fits prog_13_method_117_code 6 (some (.int)) 4 := ⟨in_c8 184 rfl rfl, ini11, ⟨by decide +kernel, by decide +kernel, by decide +kernel⟩, by decide, ⟨in_c8 182 rfl rfl, in_c8 183 rfl rfl⟩⟩
set_option maxRecDepth 100000 in
theorem mlL_91 : MLk 0 "AskedNamesLaw" 91 y11_fits prog_13_method_117_code 6 (some (.int)) 4 := mk11_fits.link (Or.inl (in_c8 181 rfl rfl))
set_option maxRecDepth 100000 in
theorem mk0_drawn : MKk 0 y0_drawn prog_1_method_20_code 6 (some (.int)) 4 := ⟨in_c5 126 rfl rfl, ini0, ⟨by decide +kernel, by decide +kernel, by decide +kernel⟩, by decide, ⟨in_c5 124 rfl rfl, in_c5 125 rfl rfl⟩⟩
set_option maxRecDepth 100000 in
theorem mlL_92 : MLk 0 "AskedNamesLaw" 92 y0_drawn prog_1_method_20_code 6 (some (.int)) 4 := mk0_drawn.link (Or.inl (in_c5 123 rfl rfl))
set_option maxRecDepth 100000 in
theorem mk11_drawn : MKk 0 y11_drawn prog_13_method_120_code 6 (some (.int)) 4 := ⟨in_c8 200 rfl rfl, ini11, ⟨by decide +kernel, by decide +kernel, by decide +kernel⟩, by decide, ⟨in_c8 198 rfl rfl, in_c8 199 rfl rfl⟩⟩
set_option maxRecDepth 100000 in
theorem mlL_95 : MLk 0 "AskedNamesLaw" 95 y11_drawn prog_13_method_120_code 6 (some (.int)) 4 := mk11_drawn.link (Or.inl (in_c8 197 rfl rfl))
set_option maxRecDepth 100000 in
theorem mk0_after : MKk 0 y0_after prog_1_method_21_code 7 (some (.int)) 3 := ⟨in_c5 147 rfl rfl, ini0, ⟨by decide +kernel, by decide +kernel, by decide +kernel⟩, by decide, ⟨in_c5 145 rfl rfl, in_c5 146 rfl rfl⟩⟩
set_option maxRecDepth 100000 in
theorem mlL_96 : MLk 0 "AskedNamesLaw" 96 y0_after prog_1_method_21_code 7 (some (.int)) 3 := mk0_after.link (Or.inl (in_c5 144 rfl rfl))
set_option maxRecDepth 100000 in
theorem mk11_after : MKk 0 y11_after prog_13_method_123_code 4 (some (.int)) 3 := ⟨in_c8 213 rfl rfl, ini11, ⟨by decide +kernel, by decide +kernel, by decide +kernel⟩, by decide, ⟨in_c8 211 rfl rfl, in_c8 212 rfl rfl⟩⟩
set_option maxRecDepth 100000 in
theorem mlL_99 : MLk 0 "AskedNamesLaw" 99 y11_after prog_13_method_123_code 4 (some (.int)) 3 := mk11_after.link (Or.inl (in_c8 210 rfl rfl))
set_option maxRecDepth 100000 in
theorem mk0_edges : MKk 0 y0_edges prog_1_method_22_code 4 (some (.int)) 2 := ⟨in_c5 155 rfl rfl, ini0, ⟨by decide +kernel, by decide +kernel, by decide +kernel⟩, by decide, ⟨in_c5 153 rfl rfl, in_c5 154 rfl rfl⟩⟩
set_option maxRecDepth 100000 in
theorem mlL_100 : MLk 0 "AskedNamesLaw" 100 y0_edges prog_1_method_22_code 4 (some (.int)) 2 := mk0_edges.link (Or.inl (in_c5 152 rfl rfl))
set_option maxRecDepth 100000 in
theorem mk11_edges : MKk 0 y11_edges prog_13_method_127_code 6 (some (.int)) 2 := ⟨in_c8 224 rfl rfl, ini11, ⟨by decide +kernel, by decide +kernel, by decide +kernel⟩, by decide, ⟨in_c8 222 rfl rfl, in_c8 223 rfl rfl⟩⟩
set_option maxRecDepth 100000 in
theorem mlL_103 : MLk 0 "AskedNamesLaw" 103 y11_edges prog_13_method_127_code 6 (some (.int)) 2 := mk11_edges.link (Or.inl (in_c8 221 rfl rfl))
set_option maxRecDepth 100000 in
theorem mk0_count : MKk 0 y0_count prog_1_method_23_code 2 (some (.int)) 1 := ⟨in_c5 179 rfl rfl, ini0, ⟨by decide +kernel, by decide +kernel, by decide +kernel⟩, by decide, ⟨in_c5 177 rfl rfl, in_c5 178 rfl rfl⟩⟩
set_option maxRecDepth 100000 in
theorem mlL_104 : MLk 0 "AskedNamesLaw" 104 y0_count prog_1_method_23_code 2 (some (.int)) 1 := mk0_count.link (Or.inl (in_c5 176 rfl rfl))
set_option maxRecDepth 100000 in
theorem mk11_count : MKk 0 y11_count prog_13_method_128_code 2 (some (.int)) 1 := ⟨in_c9 0 rfl rfl, ini11, ⟨by decide +kernel, by decide +kernel, by decide +kernel⟩, by decide, ⟨in_c8 238 rfl rfl, in_c8 239 rfl rfl⟩⟩
set_option maxRecDepth 100000 in
theorem mlL_107 : MLk 0 "AskedNamesLaw" 107 y11_count prog_13_method_128_code 2 (some (.int)) 1 := mk11_count.link (Or.inl (in_c8 237 rfl rfl))
set_option maxRecDepth 100000 in
theorem mk0_image : MKk 0 y0_image prog_1_method_24_code 2 (some (.boolean)) 1 := ⟨in_c5 183 rfl rfl, ini0, ⟨by decide +kernel, by decide +kernel, by decide +kernel⟩, by decide, ⟨in_c5 181 rfl rfl, in_c5 182 rfl rfl⟩⟩
set_option maxRecDepth 100000 in
theorem mlL_108 : MLk 0 "AskedNamesLaw" 108 y0_image prog_1_method_24_code 2 (some (.boolean)) 1 := mk0_image.link (Or.inl (in_c5 180 rfl rfl))
set_option maxRecDepth 100000 in
theorem mk11_image : MKk 0 y11_image prog_13_method_129_code 2 (some (.boolean)) 1 := ⟨in_c9 4 rfl rfl, ini11, ⟨by decide +kernel, by decide +kernel, by decide +kernel⟩, by decide, ⟨in_c9 2 rfl rfl, in_c9 3 rfl rfl⟩⟩
set_option maxRecDepth 100000 in
theorem mlL_112 : MLk 0 "AskedNamesLaw" 112 y11_image prog_13_method_129_code 2 (some (.boolean)) 1 := mk11_image.link (Or.inl (in_c9 1 rfl rfl))
set_option maxRecDepth 100000 in
theorem mk0_again : MKk 0 y0_again prog_1_method_25_code 2 (some (.boolean)) 1 := ⟨in_c5 192 rfl rfl, ini0, ⟨by decide +kernel, by decide +kernel, by decide +kernel⟩, by decide, ⟨in_c5 190 rfl rfl, in_c5 191 rfl rfl⟩⟩
set_option maxRecDepth 100000 in
theorem mlL_113 : MLk 0 "AskedNamesLaw" 113 y0_again prog_1_method_25_code 2 (some (.boolean)) 1 := mk0_again.link (Or.inl (in_c5 189 rfl rfl))
set_option maxRecDepth 100000 in
theorem mk11_again : MKk 0 y11_again prog_13_method_130_code 2 (some (.boolean)) 1 := ⟨in_c9 15 rfl rfl, ini11, ⟨by decide +kernel, by decide +kernel, by decide +kernel⟩, by decide, ⟨in_c9 13 rfl rfl, in_c9 14 rfl rfl⟩⟩
set_option maxRecDepth 100000 in
theorem mlL_116 : MLk 0 "AskedNamesLaw" 116 y11_again prog_13_method_130_code 2 (some (.boolean)) 1 := mk11_again.link (Or.inl (in_c9 12 rfl rfl))
set_option maxRecDepth 100000 in
theorem mkJString_isLatin1 : MKk 0 yJString_isLatin1 prog_17_method_154_code 1 (some (.boolean)) 0 := ⟨in_c3 157 rfl rfl, in_c1 14 rfl rfl, ⟨by decide +kernel, by decide +kernel, by decide +kernel⟩, by decide, ⟨in_c3 155 rfl rfl, in_c3 156 rfl rfl⟩⟩
set_option maxRecDepth 100000 in
theorem mlJString_492 : MLk 0 "java/lang/String" 492 yJString_isLatin1 prog_17_method_154_code 1 (some (.boolean)) 0 := mkJString_isLatin1.link (Or.inl (in_c3 154 rfl rfl))
set_option maxRecDepth 100000 in
theorem mkJStringLatin1_charAt : MKk 1 yJStringLatin1_charAt prog_18_method_2_code 2 (some (.char)) 2 := ⟨in_c3 160 rfl rfl, in_c1 15 rfl rfl, ⟨by decide +kernel, by decide +kernel, by decide +kernel⟩, by decide, in_c3 159 rfl rfl⟩
set_option maxRecDepth 100000 in
theorem mlJString_495 : MLk 1 "java/lang/String" 495 yJStringLatin1_charAt prog_18_method_2_code 2 (some (.char)) 2 := mkJStringLatin1_charAt.link (Or.inl (in_c3 158 rfl rfl))
set_option maxRecDepth 100000 in
theorem mkJStringUTF16_charAt : MKk 1 yJStringUTF16_charAt prog_19_method_83_code 2 (some (.char)) 2 := ⟨in_c3 171 rfl rfl, in_c1 17 rfl rfl, ⟨by decide +kernel, by decide +kernel, by decide +kernel⟩, by decide, in_c3 170 rfl rfl⟩
set_option maxRecDepth 100000 in
theorem mlJString_498 : MLk 1 "java/lang/String" 498 yJStringUTF16_charAt prog_19_method_83_code 2 (some (.char)) 2 := mkJStringUTF16_charAt.link (Or.inl (in_c3 169 rfl rfl))
set_option maxRecDepth 100000 in
theorem mkJPreconditions_checkIndex : MKk 1 yJPreconditions_checkIndex prog_22_method_11_code 3 (some (.int)) 3 := ⟨in_c3 168 rfl rfl, in_c1 16 rfl rfl, ⟨by decide +kernel, by decide +kernel, by decide +kernel⟩, by decide, in_c3 167 rfl rfl⟩
set_option maxRecDepth 100000 in
theorem mlJString_1059 : MLk 1 "java/lang/String" 1059 yJPreconditions_checkIndex prog_22_method_11_code 3 (some (.int)) 3 := mkJPreconditions_checkIndex.link (Or.inl (in_c3 166 rfl rfl))
set_option maxRecDepth 100000 in
theorem mkJString_coder : MKk 0 yJString_coder prog_17_method_152_code 1 (some (.byte)) 0 := ⟨in_c3 147 rfl rfl, in_c1 14 rfl rfl, ⟨by decide +kernel, by decide +kernel, by decide +kernel⟩, by decide, ⟨in_c3 145 rfl rfl, in_c3 146 rfl rfl⟩⟩
set_option maxRecDepth 100000 in
theorem mlJString_335 : MLk 0 "java/lang/String" 335 yJString_coder prog_17_method_152_code 1 (some (.byte)) 0 := mkJString_coder.link (Or.inl (in_c3 144 rfl rfl))
set_option maxRecDepth 100000 in
theorem mkJString_checkIndex : MKk 1 yJString_checkIndex prog_17_method_155_code 2 none 2 := ⟨in_c3 163 rfl rfl, in_c1 14 rfl rfl, ⟨by decide +kernel, by decide +kernel, by decide +kernel⟩, by decide, in_c3 162 rfl rfl⟩
set_option maxRecDepth 100000 in
theorem mlJStringLatin1_9 : MLk 1 "java/lang/StringLatin1" 9 yJString_checkIndex prog_17_method_155_code 2 none 2 := mkJString_checkIndex.link (Or.inl (in_c3 161 rfl rfl))
set_option maxRecDepth 100000 in
theorem mkJStringUTF16_checkIndex : MKk 1 yJStringUTF16_checkIndex prog_19_method_91_code 2 none 2 := ⟨in_c3 174 rfl rfl, in_c1 17 rfl rfl, ⟨by decide +kernel, by decide +kernel, by decide +kernel⟩, by decide, in_c3 173 rfl rfl⟩
set_option maxRecDepth 100000 in
theorem mlJStringUTF16_67 : MLk 1 "java/lang/StringUTF16" 67 yJStringUTF16_checkIndex prog_19_method_91_code 2 none 2 := mkJStringUTF16_checkIndex.link (Or.inl (in_c3 172 rfl rfl))
set_option maxRecDepth 100000 in
theorem mkJStringUTF16_getChar : MKk 1 yJStringUTF16_getChar prog_19_method_5_code 2 (some (.char)) 2 := ⟨in_c3 181 rfl rfl, in_c1 17 rfl rfl, ⟨by decide +kernel, by decide +kernel, by decide +kernel⟩, by decide, in_c3 180 rfl rfl⟩
set_option maxRecDepth 100000 in
theorem mlJStringUTF16_71 : MLk 1 "java/lang/StringUTF16" 71 yJStringUTF16_getChar prog_19_method_5_code 2 (some (.char)) 2 := mkJStringUTF16_getChar.link (Or.inl (in_c3 179 rfl rfl))
set_option maxRecDepth 100000 in
theorem mkJStringUTF16_length : MKk 1 yJStringUTF16_length prog_19_method_6_code 1 (some (.int)) 1 := ⟨in_c3 177 rfl rfl, in_c1 17 rfl rfl, ⟨by decide +kernel, by decide +kernel, by decide +kernel⟩, by decide, in_c3 176 rfl rfl⟩
set_option maxRecDepth 100000 in
theorem mlJStringUTF16_48 : MLk 1 "java/lang/StringUTF16" 48 yJStringUTF16_length prog_19_method_6_code 1 (some (.int)) 1 := mkJStringUTF16_length.link (Or.inl (in_c3 175 rfl rfl))
set_option maxRecDepth 100000 in
theorem mlJStringUTF16_414 : MLk 1 "java/lang/StringUTF16" 414 yJString_checkIndex prog_17_method_155_code 2 none 2 := mkJString_checkIndex.link (Or.inl (in_c3 178 rfl rfl))
