theorem in_gs (ws : List Cond) (ps : List Nat) (hp : ws = ps.filterMap (fun i => lw_tbl[i]?)) (hg : ws.all goodWord = true) : ∀ w ∈ ws, w ∈ lw_g := by
  intro w hw
  have h1 := List.all_eq_true.mp hg w hw
  rw [hp] at hw
  obtain ⟨i, -, hi⟩ := List.mem_filterMap.mp hw
  exact in_g i hi h1
theorem uw0 : ∀ w ∈ u_ws Rc0 Tc0 8, w ∈ lw_g := in_gs _ [668, 670, 672, 674, 676, 678, 680, 682] (by decide +kernel) (by decide +kernel)
theorem ck0 : CKs 0 Rc0 Tc0 8 := ⟨rfl, uw0, by decide +kernel, ⟨yc0, ty0⟩, nm0⟩
theorem ck12 : CKs 12 Rc0 Tc0 8 := ⟨rfl, uw0, by decide +kernel, ⟨yc0, ty0⟩, nm0⟩
theorem uw1 : ∀ w ∈ u_ws Rc1 Tc1 8, w ∈ lw_g := in_gs _ [331, 333, 335, 337, 339, 341, 343, 345] (by decide +kernel) (by decide +kernel)
theorem ck1 : CKs 1 Rc1 Tc1 8 := ⟨rfl, uw1, by decide +kernel, ⟨yc1, ty1⟩, nm1⟩
theorem ck13 : CKs 13 Rc1 Tc1 8 := ⟨rfl, uw1, by decide +kernel, ⟨yc1, ty1⟩, nm1⟩
theorem uw2 : ∀ w ∈ u_ws Rc2 Tc2 17, w ∈ lw_g := in_gs _ [228, 230, 232, 234, 236, 238, 240, 242, 244, 246, 248, 250, 252, 254, 256, 258, 260] (by decide +kernel) (by decide +kernel)
theorem ck2 : CKs 2 Rc2 Tc2 17 := ⟨rfl, uw2, by decide +kernel, ⟨yc2, ty2⟩, nm2⟩
theorem ck14 : CKs 14 Rc2 Tc2 17 := ⟨rfl, uw2, by decide +kernel, ⟨yc2, ty2⟩, nm2⟩
theorem uw3 : ∀ w ∈ u_ws Rc3 Tc3 4, w ∈ lw_g := in_gs _ [285, 287, 289, 291] (by decide +kernel) (by decide +kernel)
theorem ck3 : CKs 3 Rc3 Tc3 4 := ⟨rfl, uw3, by decide +kernel, ⟨yc3, ty3⟩, nm3⟩
theorem ck15 : CKs 15 Rc3 Tc3 4 := ⟨rfl, uw3, by decide +kernel, ⟨yc3, ty3⟩, nm3⟩
theorem uw4 : ∀ w ∈ u_ws Rc4 Tc4 3, w ∈ lw_g := in_gs _ [308, 310, 312] (by decide +kernel) (by decide +kernel)
theorem ck4 : CKs 4 Rc4 Tc4 3 := ⟨rfl, uw4, by decide +kernel, ⟨yc4, ty4⟩, nm4⟩
theorem ck16 : CKs 16 Rc4 Tc4 3 := ⟨rfl, uw4, by decide +kernel, ⟨yc4, ty4⟩, nm4⟩
theorem uw5 : ∀ w ∈ u_ws Rc5 Tc5 14, w ∈ lw_g := in_gs _ [380, 382, 384, 386, 388, 390, 392, 394, 396, 398, 400, 402, 404, 406] (by decide +kernel) (by decide +kernel)
theorem ck5 : CKs 5 Rc5 Tc5 14 := ⟨rfl, uw5, by decide +kernel, ⟨yc5, ty5⟩, nm5⟩
theorem ck17 : CKs 17 Rc5 Tc5 14 := ⟨rfl, uw5, by decide +kernel, ⟨yc5, ty5⟩, nm5⟩
theorem uw6 : ∀ w ∈ u_ws Rc6 Tc6 11, w ∈ lw_g := in_gs _ [518, 520, 522, 524, 526, 528, 530, 532, 534, 536, 538] (by decide +kernel) (by decide +kernel)
theorem ck6 : CKs 6 Rc6 Tc6 11 := ⟨rfl, uw6, by decide +kernel, ⟨yc6, ty6⟩, nm6⟩
theorem ck18 : CKs 18 Rc6 Tc6 11 := ⟨rfl, uw6, by decide +kernel, ⟨yc6, ty6⟩, nm6⟩
theorem uw7 : ∀ w ∈ u_ws Rc7 Tc7 14, w ∈ lw_g := in_gs _ [458, 460, 462, 464, 466, 468, 470, 472, 474, 476, 478, 480, 482, 484] (by decide +kernel) (by decide +kernel)
theorem ck7 : CKs 7 Rc7 Tc7 14 := ⟨rfl, uw7, by decide +kernel, ⟨yc7, ty7⟩, nm7⟩
theorem ck19 : CKs 19 Rc7 Tc7 14 := ⟨rfl, uw7, by decide +kernel, ⟨yc7, ty7⟩, nm7⟩
theorem uw8 : ∀ w ∈ u_ws Rc8 Tc8 4, w ∈ lw_g := in_gs _ [559, 561, 563, 565] (by decide +kernel) (by decide +kernel)
theorem ck8 : CKs 8 Rc8 Tc8 4 := ⟨rfl, uw8, by decide +kernel, ⟨yc8, ty8⟩, nm8⟩
theorem ck20 : CKs 20 Rc8 Tc8 4 := ⟨rfl, uw8, by decide +kernel, ⟨yc8, ty8⟩, nm8⟩
theorem uw9 : ∀ w ∈ u_ws Rc9 Tc9 8, w ∈ lw_g := in_gs _ [591, 593, 595, 597, 599, 601, 603, 605] (by decide +kernel) (by decide +kernel)
theorem ck9 : CKs 9 Rc9 Tc9 8 := ⟨rfl, uw9, by decide +kernel, ⟨yc9, ty9⟩, nm9⟩
theorem ck21 : CKs 21 Rc9 Tc9 8 := ⟨rfl, uw9, by decide +kernel, ⟨yc9, ty9⟩, nm9⟩
theorem uw10 : ∀ w ∈ u_ws Rc10 Tc10 16, w ∈ lw_g := in_gs _ [627, 629, 631, 633, 635, 637, 639, 641, 643, 645, 647, 649, 651, 653, 655, 657] (by decide +kernel) (by decide +kernel)
theorem ck10 : CKs 10 Rc10 Tc10 16 := ⟨rfl, uw10, by decide +kernel, ⟨yc10, ty10⟩, nm10⟩
theorem ck22 : CKs 22 Rc10 Tc10 16 := ⟨rfl, uw10, by decide +kernel, ⟨yc10, ty10⟩, nm10⟩
theorem uw11 : ∀ w ∈ u_ws Rc11 Tc11 87, w ∈ lw_g := in_gs _ [1386, 1388, 1390, 1392, 1394, 1396, 1398, 1400, 1402, 1404, 1406, 1408, 1410, 1412, 1414, 1416, 1418, 1420, 1422, 1424, 1426, 1428, 1430, 1432, 1434, 1436, 1438, 1440, 1442, 1444, 1446, 1448, 1450, 1452, 1454, 1456, 1458, 1460, 1462, 1464, 1466, 1468, 1470, 1472, 1474, 1476, 1478, 1480, 1482, 1484, 1486, 1488, 1490, 1492, 1494, 1496, 1498, 1500, 1502, 1504, 1506, 1508, 1510, 1512, 1514, 1516, 1518, 1520, 1522, 1524, 1526, 1528, 1530, 1532, 1534, 1536, 1538, 1540, 1542, 1544, 1546, 1548, 1550, 1552, 1554, 1556, 1558] (by decide +kernel) (by decide +kernel)
theorem ck11 : CKs 11 Rc11 Tc11 87 := ⟨rfl, uw11, by decide +kernel, ⟨yc11, ty11⟩, nm11⟩
theorem ck23 : CKs 23 Rc11 Tc11 87 := ⟨rfl, uw11, by decide +kernel, ⟨yc11, ty11⟩, nm11⟩
def y0_init : MethodName := ⟨Rc0, "<init>", "()V"⟩
def y0_after : MethodName := ⟨Rc0, "after", "(III)I"⟩
def y0_again : MethodName := ⟨Rc0, "again", "(I)Z"⟩
def y0_agrees : MethodName := ⟨Rc0, "agrees", "(LAskedNames$Run;LAskedNames$Log;I)Z"⟩
def y0_alone : MethodName := ⟨Rc0, "alone", "(IIIII)I"⟩
def y0_begins : MethodName := ⟨Rc0, "begins", "(II)Z"⟩
def y0_count : MethodName := ⟨Rc0, "count", "(I)I"⟩
def y0_deed : MethodName := ⟨Rc0, "deed", "(III)I"⟩
def y0_drawn : MethodName := ⟨Rc0, "drawn", "(IIII)I"⟩
def y0_edges : MethodName := ⟨Rc0, "edges", "(II)I"⟩
def y0_end : MethodName := ⟨Rc0, "end", "(I)I"⟩
def y0_entry : MethodName := ⟨Rc0, "entry", "(IIIIII)I"⟩
def y0_fact : MethodName := ⟨Rc0, "fact", "(III)I"⟩
def y0_far : MethodName := ⟨Rc0, "far", "(III)I"⟩
def y0_fault : MethodName := ⟨Rc0, "fault", "(I)I"⟩
def y0_feed : MethodName := ⟨Rc0, "feed", "(IIIII)I"⟩
def y0_fits : MethodName := ⟨Rc0, "fits", "(IIII)I"⟩
def y0_got : MethodName := ⟨Rc0, "got", "(LAskedNames$Run;II)Z"⟩
def y0_image : MethodName := ⟨Rc0, "image", "(I)Z"⟩
def y0_isName : MethodName := ⟨Rc0, "isName", "(I)Z"⟩
def y0_lettersOf : MethodName := ⟨Rc0, "lettersOf", "(I)I"⟩
def y0_logAt : MethodName := ⟨Rc0, "logAt", "(I)LAskedNames$Log;"⟩
def y0_mean : MethodName := ⟨Rc0, "mean", "(LAskedNames$Run;IZ)I"⟩
def y0_net : MethodName := ⟨Rc0, "net", "(II)I"⟩
def y0_netAt : MethodName := ⟨Rc0, "netAt", "(I)LAskedNames$Net;"⟩
def y0_noteGot : MethodName := ⟨Rc0, "noteGot", "(LAskedNames$Run;I)V"⟩
def y0_runAt : MethodName := ⟨Rc0, "runAt", "(I)LAskedNames$Run;"⟩
def y0_shorten : MethodName := ⟨Rc0, "shorten", "(III)V"⟩
def y0_state : MethodName := ⟨Rc0, "state", "(IIII)I"⟩
def y0_stop : MethodName := ⟨Rc0, "stop", "(II)I"⟩
def y0_stored : MethodName := ⟨Rc0, "stored", "(IIIIII)I"⟩
def y0_table : MethodName := ⟨Rc0, "table", "(III)I"⟩
def y0_tellingAsk : MethodName := ⟨Rc0, "tellingAsk", "(LAskedNames$Run;I)I"⟩
def y0_text : MethodName := ⟨Rc0, "text", "(II)I"⟩
def y0_trail : MethodName := ⟨Rc0, "trail", "(IIII)I"⟩
def y0_ways : MethodName := ⟨Rc0, "ways", "(IIIZ)I"⟩
def y0_why : MethodName := ⟨Rc0, "why", "(IIII)I"⟩
def y10_init : MethodName := ⟨Rc10, "<init>", "()V"⟩
def y10_answer : MethodName := ⟨Rc10, "answer", "(III)V"⟩
def y10_ask : MethodName := ⟨Rc10, "ask", "(IIII)V"⟩
def y10_askAlone : MethodName := ⟨Rc10, "askAlone", "(LAskedNames$Net;III)V"⟩
def y10_begin : MethodName := ⟨Rc10, "begin", "(LAskedNames$Net;I)V"⟩
def y10_below : MethodName := ⟨Rc10, "below", "(I)I"⟩
def y10_bestWay : MethodName := ⟨Rc10, "bestWay", "(III)I"⟩
def y10_close : MethodName := ⟨Rc10, "close", "(I)V"⟩
def y10_draw : MethodName := ⟨Rc10, "draw", "(LAskedNames$Net;II)V"⟩
def y10_drawAsk : MethodName := ⟨Rc10, "drawAsk", "(II)V"⟩
def y10_drawWait : MethodName := ⟨Rc10, "drawWait", "()V"⟩
def y10_drop : MethodName := ⟨Rc10, "drop", "(I)V"⟩
def y10_endEntries : MethodName := ⟨Rc10, "endEntries", "()V"⟩
def y10_entriesAt : MethodName := ⟨Rc10, "entriesAt", "(I)I"⟩
def y10_entryAt : MethodName := ⟨Rc10, "entryAt", "(II)LAskedNames$Entry;"⟩
def y10_find : MethodName := ⟨Rc10, "find", "(III)I"⟩
def y10_firstServed : MethodName := ⟨Rc10, "firstServed", "(IZ)I"⟩
def y10_goOn : MethodName := ⟨Rc10, "goOn", "(LAskedNames$Entry;)Z"⟩
def y10_isMet : MethodName := ⟨Rc10, "isMet", "(IIIII)Z"⟩
def y10_isServed : MethodName := ⟨Rc10, "isServed", "(LAskedNames$Entry;IZ)Z"⟩
def y10_isUp : MethodName := ⟨Rc10, "isUp", "(I)Z"⟩
def y10_land : MethodName := ⟨Rc10, "land", "(I)V"⟩
def y10_look : MethodName := ⟨Rc10, "look", "(I)I"⟩
def y10_makeEntry : MethodName := ⟨Rc10, "makeEntry", "(IIIII)V"⟩
def y10_passMinute : MethodName := ⟨Rc10, "passMinute", "()V"⟩
def y10_perform : MethodName := ⟨Rc10, "perform", "(LAskedNames$Run;I)Z"⟩
def y10_replay : MethodName := ⟨Rc10, "replay", "(LAskedNames$Net;LAskedNames$Run;II)I"⟩
def y10_sayNack : MethodName := ⟨Rc10, "sayNack", "(IIII)V"⟩
def y10_sayServed : MethodName := ⟨Rc10, "sayServed", "(III)V"⟩
def y10_sayStored : MethodName := ⟨Rc10, "sayStored", "(LAskedNames$Store;II)V"⟩
def y10_send : MethodName := ⟨Rc10, "send", "(II)V"⟩
def y10_settle : MethodName := ⟨Rc10, "settle", "(I)V"⟩
def y10_takeData : MethodName := ⟨Rc10, "takeData", "()V"⟩
def y10_takeNack : MethodName := ⟨Rc10, "takeNack", "()V"⟩
def y6_init : MethodName := ⟨Rc6, "<init>", "()V"⟩
def y6_join : MethodName := ⟨Rc6, "join", "(II)V"⟩
def y6_look : MethodName := ⟨Rc6, "look", "(I)I"⟩
def y9_init : MethodName := ⟨Rc9, "<init>", "()V"⟩
def y9_begin : MethodName := ⟨Rc9, "begin", "(I)V"⟩
def y9_look : MethodName := ⟨Rc9, "look", "(I)I"⟩
def y4_init : MethodName := ⟨Rc4, "<init>", "()V"⟩
def y4_add : MethodName := ⟨Rc4, "add", "(II)V"⟩
def y4_copy : MethodName := ⟨Rc4, "copy", "(LAskedNames$Log;)V"⟩
def y7_init : MethodName := ⟨Rc7, "<init>", "()V"⟩
def y7_copy : MethodName := ⟨Rc7, "copy", "(LAskedNames$Message;)V"⟩
def y2_init : MethodName := ⟨Rc2, "<init>", "()V"⟩
def y2_addLink : MethodName := ⟨Rc2, "addLink", "(III)V"⟩
def y2_addRoute : MethodName := ⟨Rc2, "addRoute", "(IIII)V"⟩
def y2_addServe : MethodName := ⟨Rc2, "addServe", "(III)V"⟩
def y2_blindAsBits : MethodName := ⟨Rc2, "blindAsBits", "()I"⟩
def y2_clear : MethodName := ⟨Rc2, "clear", "()V"⟩
def y2_copy : MethodName := ⟨Rc2, "copy", "(LAskedNames$Net;)V"⟩
def y2_hasNode : MethodName := ⟨Rc2, "hasNode", "(I)Z"⟩
def y2_hiddenAsBits : MethodName := ⟨Rc2, "hiddenAsBits", "()I"⟩
def y2_leavesAsBits : MethodName := ⟨Rc2, "leavesAsBits", "()I"⟩
def y2_linkBetween : MethodName := ⟨Rc2, "linkBetween", "(II)I"⟩
def y2_ofPair : MethodName := ⟨Rc2, "ofPair", "(I)I"⟩
def y2_ofRoute : MethodName := ⟨Rc2, "ofRoute", "(I)I"⟩
def y2_ofServe : MethodName := ⟨Rc2, "ofServe", "(I)I"⟩
def y2_routed : MethodName := ⟨Rc2, "routed", "(II)I"⟩
def y2_routesAt : MethodName := ⟨Rc2, "routesAt", "(I)I"⟩
def y2_rowBefore : MethodName := ⟨Rc2, "rowBefore", "(II)Z"⟩
def y2_rowsAt : MethodName := ⟨Rc2, "rowsAt", "(I)I"⟩
def y2_servedAsBits : MethodName := ⟨Rc2, "servedAsBits", "()I"⟩
def y2_serversAsBits : MethodName := ⟨Rc2, "serversAsBits", "()I"⟩
def y2_serving : MethodName := ⟨Rc2, "serving", "(II)I"⟩
def y2_waysFor : MethodName := ⟨Rc2, "waysFor", "(II)I"⟩
def y5_init : MethodName := ⟨Rc5, "<init>", "()V"⟩
def y5_canBe : MethodName := ⟨Rc5, "canBe", "(C)Z"⟩
def y5_isDigit : MethodName := ⟨Rc5, "isDigit", "(I)Z"⟩
def y5_isHere : MethodName := ⟨Rc5, "isHere", "(Ljava/lang/String;)Z"⟩
def y5_isLetter : MethodName := ⟨Rc5, "isLetter", "(I)Z"⟩
def y5_isOneTooMany : MethodName := ⟨Rc5, "isOneTooMany", "(I)Z"⟩
def y5_mark : MethodName := ⟨Rc5, "mark", "(II)V"⟩
def y5_read : MethodName := ⟨Rc5, "read", "([BII)V"⟩
def y5_readLine : MethodName := ⟨Rc5, "readLine", "()V"⟩
def y5_refuse : MethodName := ⟨Rc5, "refuse", "()V"⟩
def y5_shapeOf : MethodName := ⟨Rc5, "shapeOf", "(I)Ljava/lang/String;"⟩
def y5_step : MethodName := ⟨Rc5, "step", "()V"⟩
def y5_takeNumber : MethodName := ⟨Rc5, "takeNumber", "()V"⟩
def y5_takeWord : MethodName := ⟨Rc5, "takeWord", "()V"⟩
def y5_tell : MethodName := ⟨Rc5, "tell", "(I)V"⟩
def y5_verbHere : MethodName := ⟨Rc5, "verbHere", "()I"⟩
def y5_wordOf : MethodName := ⟨Rc5, "wordOf", "(I)Ljava/lang/String;"⟩
def y3_init : MethodName := ⟨Rc3, "<init>", "()V"⟩
def y3_add : MethodName := ⟨Rc3, "add", "(III)V"⟩
def y3_asks : MethodName := ⟨Rc3, "asks", "(I)Z"⟩
def y3_copy : MethodName := ⟨Rc3, "copy", "(LAskedNames$Run;)V"⟩
def y8_init : MethodName := ⟨Rc8, "<init>", "()V"⟩
def y8_add : MethodName := ⟨Rc8, "add", "(III)V"⟩
def y8_find : MethodName := ⟨Rc8, "find", "(I)I"⟩
def y8_keep : MethodName := ⟨Rc8, "keep", "(LAskedNames$Message;I)V"⟩
def y8_remove : MethodName := ⟨Rc8, "remove", "(I)V"⟩
def y8_use : MethodName := ⟨Rc8, "use", "(I)V"⟩
def y1_init : MethodName := ⟨Rc1, "<init>", "()V"⟩
def y1_append : MethodName := ⟨Rc1, "append", "(I)V"⟩
def y1_copy : MethodName := ⟨Rc1, "copy", "(LAskedNames$Told;)V"⟩
def y1_put : MethodName := ⟨Rc1, "put", "(IILAskedNames$Reader;)V"⟩
def y11_init : MethodName := ⟨Rc11, "<init>", "()V"⟩
def y11_addsFault : MethodName := ⟨Rc11, "addsFault", "(II)V"⟩
def y11_after : MethodName := ⟨Rc11, "after", "(III)I"⟩
def y11_again : MethodName := ⟨Rc11, "again", "(I)Z"⟩
def y11_allLines : MethodName := ⟨Rc11, "allLines", "(I)Z"⟩
def y11_alone : MethodName := ⟨Rc11, "alone", "(IIIII)I"⟩
def y11_answers : MethodName := ⟨Rc11, "answers", "(II)V"⟩
def y11_askWhat : MethodName := ⟨Rc11, "askWhat", "()I"⟩
def y11_asks : MethodName := ⟨Rc11, "asks", "(IIII)Z"⟩
def y11_begin : MethodName := ⟨Rc11, "begin", "(I)V"⟩
def y11_changes : MethodName := ⟨Rc11, "changes", "(IIZ)Z"⟩
def y11_comes : MethodName := ⟨Rc11, "comes", "(I)V"⟩
def y11_common : MethodName := ⟨Rc11, "common", "(II)I"⟩
def y11_copyAll : MethodName := ⟨Rc11, "copyAll", "(II)V"⟩
def y11_copyRow : MethodName := ⟨Rc11, "copyRow", "([IIII)V"⟩
def y11_count : MethodName := ⟨Rc11, "count", "(I)I"⟩
def y11_dataCome : MethodName := ⟨Rc11, "dataCome", "(III)V"⟩
def y11_dataTo : MethodName := ⟨Rc11, "dataTo", "(III)V"⟩
def y11_deed : MethodName := ⟨Rc11, "deed", "(III)I"⟩
def y11_deedBy : MethodName := ⟨Rc11, "deedBy", "(J)I"⟩
def y11_deedOf : MethodName := ⟨Rc11, "deedOf", "(II)I"⟩
def y11_deeds : MethodName := ⟨Rc11, "deeds", "()I"⟩
def y11_does : MethodName := ⟨Rc11, "does", "(IIII)Z"⟩
def y11_draw : MethodName := ⟨Rc11, "draw", "(I)I"⟩
def y11_drawDeed : MethodName := ⟨Rc11, "drawDeed", "(I)V"⟩
def y11_drawn : MethodName := ⟨Rc11, "drawn", "(IIII)I"⟩
def y11_edges : MethodName := ⟨Rc11, "edges", "(II)I"⟩
def y11_end : MethodName := ⟨Rc11, "end", "(I)I"⟩
def y11_endsAll : MethodName := ⟨Rc11, "endsAll", "()V"⟩
def y11_entriesAll : MethodName := ⟨Rc11, "entriesAll", "()I"⟩
def y11_entry : MethodName := ⟨Rc11, "entry", "(IIIIII)I"⟩
def y11_entryOf : MethodName := ⟨Rc11, "entryOf", "(III)I"⟩
def y11_fact : MethodName := ⟨Rc11, "fact", "(III)I"⟩
def y11_factOf : MethodName := ⟨Rc11, "factOf", "(II)I"⟩
def y11_facts : MethodName := ⟨Rc11, "facts", "()I"⟩
def y11_fails : MethodName := ⟨Rc11, "fails", "()Z"⟩
def y11_far : MethodName := ⟨Rc11, "far", "(III)I"⟩
def y11_fault : MethodName := ⟨Rc11, "fault", "(I)I"⟩
def y11_feed : MethodName := ⟨Rc11, "feed", "(IIIII)I"⟩
def y11_firstFor : MethodName := ⟨Rc11, "firstFor", "(IIZ)I"⟩
def y11_firstNack : MethodName := ⟨Rc11, "firstNack", "(IIIII)V"⟩
def y11_fits : MethodName := ⟨Rc11, "fits", "(IIII)I"⟩
def y11_four : MethodName := ⟨Rc11, "four", "(I)V"⟩
def y11_fromServer : MethodName := ⟨Rc11, "fromServer", "(IIII)V"⟩
def y11_fromStore : MethodName := ⟨Rc11, "fromStore", "(IIII)V"⟩
def y11_full : MethodName := ⟨Rc11, "full", "(III)V"⟩
def y11_gets : MethodName := ⟨Rc11, "gets", "(I)V"⟩
def y11_goesBy : MethodName := ⟨Rc11, "goesBy", "()V"⟩
def y11_goesOn : MethodName := ⟨Rc11, "goesOn", "(II)Z"⟩
def y11_greater : MethodName := ⟨Rc11, "greater", "(II)I"⟩
def y11_has : MethodName := ⟨Rc11, "has", "(II)Z"⟩
def y11_hasL : MethodName := ⟨Rc11, "hasL", "(JI)Z"⟩
def y11_hasLog : MethodName := ⟨Rc11, "hasLog", "(I)Z"⟩
def y11_hasNet : MethodName := ⟨Rc11, "hasNet", "(I)Z"⟩
def y11_hasRun : MethodName := ⟨Rc11, "hasRun", "(I)Z"⟩
def y11_image : MethodName := ⟨Rc11, "image", "(I)Z"⟩
def y11_in : MethodName := ⟨Rc11, "in", "(III)Z"⟩
def y11_interest : MethodName := ⟨Rc11, "interest", "(IIIII)V"⟩
def y11_is : MethodName := ⟨Rc11, "is", "(II)Z"⟩
def y11_isBeginning : MethodName := ⟨Rc11, "isBeginning", "(II)Z"⟩
def y11_isHidden : MethodName := ⟨Rc11, "isHidden", "(I)Z"⟩
def y11_isName : MethodName := ⟨Rc11, "isName", "(I)Z"⟩
def y11_isNode : MethodName := ⟨Rc11, "isNode", "(I)Z"⟩
def y11_isOf : MethodName := ⟨Rc11, "isOf", "(II)Z"⟩
def y11_isRoute : MethodName := ⟨Rc11, "isRoute", "(IIII)Z"⟩
def y11_isServed : MethodName := ⟨Rc11, "isServed", "(I)Z"⟩
def y11_isSo : MethodName := ⟨Rc11, "isSo", "()Z"⟩
def y11_isUp : MethodName := ⟨Rc11, "isUp", "(II)Z"⟩
def y11_joins : MethodName := ⟨Rc11, "joins", "(III)V"⟩
def y11_keep : MethodName := ⟨Rc11, "keep", "([III)V"⟩
def y11_keepLink : MethodName := ⟨Rc11, "keepLink", "()V"⟩
def y11_keepRow : MethodName := ⟨Rc11, "keepRow", "(IIII)V"⟩
def y11_lay : MethodName := ⟨Rc11, "lay", "(II)Z"⟩
def y11_layLinks : MethodName := ⟨Rc11, "layLinks", "(I)V"⟩
def y11_layState : MethodName := ⟨Rc11, "layState", "(III)Z"⟩
def y11_lesser : MethodName := ⟨Rc11, "lesser", "(II)I"⟩
def y11_lettersOf : MethodName := ⟨Rc11, "lettersOf", "(I)I"⟩
def y11_linkAt : MethodName := ⟨Rc11, "linkAt", "(II)I"⟩
def y11_links : MethodName := ⟨Rc11, "links", "()I"⟩
def y11_linksAt : MethodName := ⟨Rc11, "linksAt", "(I)I"⟩
def y11_logLine : MethodName := ⟨Rc11, "logLine", "(JI)Z"⟩
def y11_longestAt : MethodName := ⟨Rc11, "longestAt", "(II)I"⟩
def y11_makesEntry : MethodName := ⟨Rc11, "makesEntry", "(IIIII)V"⟩
def y11_mean : MethodName := ⟨Rc11, "mean", "(Z)I"⟩
def y11_moves : MethodName := ⟨Rc11, "moves", "(II)V"⟩
def y11_nackComes : MethodName := ⟨Rc11, "nackComes", "(IIII)V"⟩
def y11_nackTo : MethodName := ⟨Rc11, "nackTo", "(IIII)V"⟩
def y11_net : MethodName := ⟨Rc11, "net", "(II)I"⟩
def y11_netLine : MethodName := ⟨Rc11, "netLine", "(JI)Z"⟩
def y11_nextWay : MethodName := ⟨Rc11, "nextWay", "(III)I"⟩
def y11_noteFit : MethodName := ⟨Rc11, "noteFit", "(II)V"⟩
def y11_numberOf : MethodName := ⟨Rc11, "numberOf", "(J)I"⟩
def y11_ofAsk : MethodName := ⟨Rc11, "ofAsk", "(II)I"⟩
def y11_ofNet : MethodName := ⟨Rc11, "ofNet", "(I)I"⟩
def y11_ofPlace : MethodName := ⟨Rc11, "ofPlace", "(II)I"⟩
def y11_ofState : MethodName := ⟨Rc11, "ofState", "(I)I"⟩
def y11_ones : MethodName := ⟨Rc11, "ones", "(I)I"⟩
def y11_onesL : MethodName := ⟨Rc11, "onesL", "(J)I"⟩
def y11_play : MethodName := ⟨Rc11, "play", "(I)I"⟩
def y11_putsLast : MethodName := ⟨Rc11, "putsLast", "(IIII)V"⟩
def y11_readText : MethodName := ⟨Rc11, "readText", "(I)Z"⟩
def y11_refused : MethodName := ⟨Rc11, "refused", "(I)V"⟩
def y11_removes : MethodName := ⟨Rc11, "removes", "(II)V"⟩
def y11_routeAt : MethodName := ⟨Rc11, "routeAt", "(II)I"⟩
def y11_routes : MethodName := ⟨Rc11, "routes", "()I"⟩
def y11_rowsAt : MethodName := ⟨Rc11, "rowsAt", "(I)I"⟩
def y11_runLine : MethodName := ⟨Rc11, "runLine", "(JI)Z"⟩
def y11_see : MethodName := ⟨Rc11, "see", "()I"⟩
def y11_sends : MethodName := ⟨Rc11, "sends", "(IIIIII)V"⟩
def y11_serveAt : MethodName := ⟨Rc11, "serveAt", "(II)I"⟩
def y11_serveFor : MethodName := ⟨Rc11, "serveFor", "(II)I"⟩
def y11_serves : MethodName := ⟨Rc11, "serves", "()I"⟩
def y11_state : MethodName := ⟨Rc11, "state", "(IIII)I"⟩
def y11_stop : MethodName := ⟨Rc11, "stop", "(II)I"⟩
def y11_stored : MethodName := ⟨Rc11, "stored", "(IIIIII)I"⟩
def y11_storedAt : MethodName := ⟨Rc11, "storedAt", "(II)I"⟩
def y11_table : MethodName := ⟨Rc11, "table", "(III)I"⟩
def y11_take : MethodName := ⟨Rc11, "take", "(III)Z"⟩
def y11_takeBut : MethodName := ⟨Rc11, "takeBut", "(IIII)Z"⟩
def y11_takeName : MethodName := ⟨Rc11, "takeName", "(I)Z"⟩
def y11_takeNode : MethodName := ⟨Rc11, "takeNode", "(II)Z"⟩
def y11_takesOut : MethodName := ⟨Rc11, "takesOut", "(II)V"⟩
def y11_text : MethodName := ⟨Rc11, "text", "(II)I"⟩
def y11_token : MethodName := ⟨Rc11, "token", "()V"⟩
def y11_trail : MethodName := ⟨Rc11, "trail", "(IIII)I"⟩
def y11_waits : MethodName := ⟨Rc11, "waits", "(I)Z"⟩
def y11_walks : MethodName := ⟨Rc11, "walks", "(II)I"⟩
def y11_ways : MethodName := ⟨Rc11, "ways", "(IIIZ)I"⟩
def y11_why : MethodName := ⟨Rc11, "why", "(IIII)I"⟩
def yJInteger_bitCount : MethodName := ⟨"java/lang/Integer", "bitCount", "(I)I"⟩
def yJLong_bitCount : MethodName := ⟨"java/lang/Long", "bitCount", "(J)I"⟩
def yJMath_max : MethodName := ⟨"java/lang/Math", "max", "(II)I"⟩
def yJMath_min : MethodName := ⟨"java/lang/Math", "min", "(II)I"⟩
def yJObject_init : MethodName := ⟨"java/lang/Object", "<init>", "()V"⟩
def yJString_charAt : MethodName := ⟨"java/lang/String", "charAt", "(I)C"⟩
def yJString_checkIndex : MethodName := ⟨"java/lang/String", "checkIndex", "(II)V"⟩
def yJString_coder : MethodName := ⟨"java/lang/String", "coder", "()B"⟩
def yJString_isLatin1 : MethodName := ⟨"java/lang/String", "isLatin1", "()Z"⟩
def yJString_length : MethodName := ⟨"java/lang/String", "length", "()I"⟩
def yJStringLatin1_charAt : MethodName := ⟨"java/lang/StringLatin1", "charAt", "([BI)C"⟩
def yJStringUTF16_charAt : MethodName := ⟨"java/lang/StringUTF16", "charAt", "([BI)C"⟩
def yJStringUTF16_checkIndex : MethodName := ⟨"java/lang/StringUTF16", "checkIndex", "(I[B)V"⟩
def yJStringUTF16_getChar : MethodName := ⟨"java/lang/StringUTF16", "getChar", "([BI)C"⟩
def yJStringUTF16_length : MethodName := ⟨"java/lang/StringUTF16", "length", "([B)I"⟩
def yJArrays_fill_IIV : MethodName := ⟨"java/util/Arrays", "fill", "([II)V"⟩
def yJArrays_fill_JJV : MethodName := ⟨"java/util/Arrays", "fill", "([JJ)V"⟩
def yJPreconditions_checkIndex : MethodName := ⟨"jdk/internal/util/Preconditions", "checkIndex", "(IILjava/util/function/BiFunction;)I"⟩
theorem fl0_10 : FLc Rc0 10 0 0 4 := ⟨⟨Rc0, Tc0, 8, ck0, by decide, Or.inl (in_g 660 (by decide +kernel) (by decide +kernel))⟩, by decide +kernel⟩
theorem fl0_10r : FLc Rc0 10 12 0 2 := ⟨⟨Rc0, Tc0, 8, ck12, by decide, Or.inl (in_g 660 (by decide +kernel) (by decide +kernel))⟩, by decide +kernel⟩
theorem fl0_16 : FLc Rc0 16 0 1 50 := ⟨⟨Rc0, Tc0, 8, ck0, by decide, Or.inl (in_g 661 (by decide +kernel) (by decide +kernel))⟩, by decide +kernel⟩
theorem fl0_16r : FLc Rc0 16 12 1 2 := ⟨⟨Rc0, Tc0, 8, ck12, by decide, Or.inl (in_g 661 (by decide +kernel) (by decide +kernel))⟩, by decide +kernel⟩
theorem fl0_20 : FLc Rc0 20 0 2 189 := ⟨⟨Rc0, Tc0, 8, ck0, by decide, Or.inl (in_g 662 (by decide +kernel) (by decide +kernel))⟩, by decide +kernel⟩
theorem fl0_20r : FLc Rc0 20 12 2 2 := ⟨⟨Rc0, Tc0, 8, ck12, by decide, Or.inl (in_g 662 (by decide +kernel) (by decide +kernel))⟩, by decide +kernel⟩
theorem fl0_27 : FLc Rc0 27 0 3 190 := ⟨⟨Rc0, Tc0, 8, ck0, by decide, Or.inl (in_g 663 (by decide +kernel) (by decide +kernel))⟩, by decide +kernel⟩
theorem fl0_27r : FLc Rc0 27 12 3 2 := ⟨⟨Rc0, Tc0, 8, ck12, by decide, Or.inl (in_g 663 (by decide +kernel) (by decide +kernel))⟩, by decide +kernel⟩
theorem fl0_34 : FLc Rc0 34 0 4 213 := ⟨⟨Rc0, Tc0, 8, ck0, by decide, Or.inl (in_g 664 (by decide +kernel) (by decide +kernel))⟩, by decide +kernel⟩
theorem fl0_34r : FLc Rc0 34 12 4 2 := ⟨⟨Rc0, Tc0, 8, ck12, by decide, Or.inl (in_g 664 (by decide +kernel) (by decide +kernel))⟩, by decide +kernel⟩
theorem fl0_38 : FLc Rc0 38 0 5 1040 := ⟨⟨Rc0, Tc0, 8, ck0, by decide, Or.inl (in_g 665 (by decide +kernel) (by decide +kernel))⟩, by decide +kernel⟩
theorem fl0_38r : FLc Rc0 38 12 5 2 := ⟨⟨Rc0, Tc0, 8, ck12, by decide, Or.inl (in_g 665 (by decide +kernel) (by decide +kernel))⟩, by decide +kernel⟩
theorem fl0_42 : FLc Rc0 42 0 6 1041 := ⟨⟨Rc0, Tc0, 8, ck0, by decide, Or.inl (in_g 666 (by decide +kernel) (by decide +kernel))⟩, by decide +kernel⟩
theorem fl0_42r : FLc Rc0 42 12 6 2 := ⟨⟨Rc0, Tc0, 8, ck12, by decide, Or.inl (in_g 666 (by decide +kernel) (by decide +kernel))⟩, by decide +kernel⟩
theorem fl0_45 : FLc Rc0 45 0 7 1042 := ⟨⟨Rc0, Tc0, 8, ck0, by decide, Or.inl (in_g 667 (by decide +kernel) (by decide +kernel))⟩, by decide +kernel⟩
theorem fl0_45r : FLc Rc0 45 12 7 2 := ⟨⟨Rc0, Tc0, 8, ck12, by decide, Or.inl (in_g 667 (by decide +kernel) (by decide +kernel))⟩, by decide +kernel⟩
theorem fl0_48 : FLc Rc0 48 1 1 0 := ⟨⟨Rc1, Tc1, 8, ck1, by decide, Or.inr ⟨"AskedNames", List.mem_of_getElem? (i := 318) (by decide +kernel)⟩⟩, by decide +kernel⟩
theorem ml0_52 : MLk 0 Rc0 52 y1_append prog_11_method_2_code 3 none 1 := ⟨in_g 692 (by decide +kernel) (by decide +kernel), in_g 142 (by decide +kernel) (by decide +kernel), Or.inl (in_g 689 (by decide +kernel) (by decide +kernel)), ⟨by decide +kernel, by decide +kernel, by decide +kernel⟩, by decide, ⟨in_g 690 (by decide +kernel) (by decide +kernel), in_g 691 (by decide +kernel) (by decide +kernel)⟩⟩
theorem fp0_48 : FPc Rc0 48 1 1 0 (.int) := ⟨fl0_48.1, fun C T N h => by cases h; exact ⟨rfl, by decide +kernel⟩, fl0_48.2⟩
theorem fl0_56 : FLc Rc0 56 1 2 0 := ⟨⟨Rc1, Tc1, 8, ck1, by decide, Or.inr ⟨"AskedNames", List.mem_of_getElem? (i := 320) (by decide +kernel)⟩⟩, by decide +kernel⟩
theorem fp0_56 : FPc Rc0 56 1 2 0 (.int) := ⟨fl0_56.1, fun C T N h => by cases h; exact ⟨rfl, by decide +kernel⟩, fl0_56.2⟩
theorem fl0_59 : FLc Rc0 59 1 3 0 := ⟨⟨Rc1, Tc1, 8, ck1, by decide, Or.inr ⟨"AskedNames", List.mem_of_getElem? (i := 322) (by decide +kernel)⟩⟩, by decide +kernel⟩
theorem fp0_59 : FPc Rc0 59 1 3 0 (.int) := ⟨fl0_59.1, fun C T N h => by cases h; exact ⟨rfl, by decide +kernel⟩, fl0_59.2⟩
theorem fl0_62 : FLc Rc0 62 1 4 5 := ⟨⟨Rc1, Tc1, 8, ck1, by decide, Or.inr ⟨"AskedNames", List.mem_of_getElem? (i := 324) (by decide +kernel)⟩⟩, by decide +kernel⟩
theorem fl0_65 : FLc Rc0 65 1 0 4 := ⟨⟨Rc1, Tc1, 8, ck1, by decide, Or.inr ⟨"AskedNames", List.mem_of_getElem? (i := 316) (by decide +kernel)⟩⟩, by decide +kernel⟩
theorem ml0_69 : MLk 0 Rc0 69 y5_read prog_8_method_2_code 5 none 3 := ⟨in_g 704 (by decide +kernel) (by decide +kernel), in_g 146 (by decide +kernel) (by decide +kernel), Or.inl (in_g 701 (by decide +kernel) (by decide +kernel)), ⟨by decide +kernel, by decide +kernel, by decide +kernel⟩, by decide, ⟨in_g 702 (by decide +kernel) (by decide +kernel), in_g 703 (by decide +kernel) (by decide +kernel)⟩⟩
theorem fl0_73 : FLc Rc0 73 5 12 0 := ⟨⟨Rc5, Tc5, 14, ck5, by decide, Or.inr ⟨"AskedNames", List.mem_of_getElem? (i := 377) (by decide +kernel)⟩⟩, by decide +kernel⟩
theorem fl0_74 : FLc Rc0 74 5 13 0 := ⟨⟨Rc5, Tc5, 14, ck5, by decide, Or.inr ⟨"AskedNames", List.mem_of_getElem? (i := 379) (by decide +kernel)⟩⟩, by decide +kernel⟩
theorem ml0_75 : MLk 0 Rc0 75 y1_put prog_11_method_3_code 4 none 3 := ⟨in_g 868 (by decide +kernel) (by decide +kernel), in_g 142 (by decide +kernel) (by decide +kernel), Or.inl (in_g 865 (by decide +kernel) (by decide +kernel)), ⟨by decide +kernel, by decide +kernel, by decide +kernel⟩, by decide, ⟨in_g 866 (by decide +kernel) (by decide +kernel), in_g 867 (by decide +kernel) (by decide +kernel)⟩⟩
theorem ml0_79 : MLk 0 Rc0 79 y0_netAt prog_1_method_26_code 2 (some (.object "AskedNames$Net")) 1 := ⟨in_g 898 (by decide +kernel) (by decide +kernel), in_g 141 (by decide +kernel) (by decide +kernel), Or.inl (in_g 895 (by decide +kernel) (by decide +kernel)), ⟨by decide +kernel, by decide +kernel, by decide +kernel⟩, by decide, ⟨in_g 897 (by decide +kernel) (by decide +kernel), in_g 11 (by decide +kernel) (by decide +kernel)⟩⟩
theorem fl0_83 : FLc Rc0 83 2 0 0 := ⟨⟨Rc2, Tc2, 17, ck2, by decide, Or.inr ⟨"AskedNames", List.mem_of_getElem? (i := 185) (by decide +kernel)⟩⟩, by decide +kernel⟩
theorem fl0_88 : FLc Rc0 88 2 1 0 := ⟨⟨Rc2, Tc2, 17, ck2, by decide, Or.inr ⟨"AskedNames", List.mem_of_getElem? (i := 188) (by decide +kernel)⟩⟩, by decide +kernel⟩
theorem fl0_91 : FLc Rc0 91 2 2 0 := ⟨⟨Rc2, Tc2, 17, ck2, by decide, Or.inr ⟨"AskedNames", List.mem_of_getElem? (i := 192) (by decide +kernel)⟩⟩, by decide +kernel⟩
theorem fl0_94 : FLc Rc0 94 2 3 0 := ⟨⟨Rc2, Tc2, 17, ck2, by decide, Or.inr ⟨"AskedNames", List.mem_of_getElem? (i := 196) (by decide +kernel)⟩⟩, by decide +kernel⟩
theorem fl0_97 : FLc Rc0 97 2 4 0 := ⟨⟨Rc2, Tc2, 17, ck2, by decide, Or.inr ⟨"AskedNames", List.mem_of_getElem? (i := 199) (by decide +kernel)⟩⟩, by decide +kernel⟩
theorem ml0_100 : MLk 0 Rc0 100 y2_ofServe prog_7_method_11_code 3 (some (.int)) 1 := ⟨in_g 902 (by decide +kernel) (by decide +kernel), in_g 143 (by decide +kernel) (by decide +kernel), Or.inl (in_g 899 (by decide +kernel) (by decide +kernel)), ⟨by decide +kernel, by decide +kernel, by decide +kernel⟩, by decide, ⟨in_g 900 (by decide +kernel) (by decide +kernel), in_g 901 (by decide +kernel) (by decide +kernel)⟩⟩
theorem ml0_104 : MLk 0 Rc0 104 y2_ofRoute prog_7_method_10_code 3 (some (.int)) 1 := ⟨in_g 906 (by decide +kernel) (by decide +kernel), in_g 143 (by decide +kernel) (by decide +kernel), Or.inl (in_g 903 (by decide +kernel) (by decide +kernel)), ⟨by decide +kernel, by decide +kernel, by decide +kernel⟩, by decide, ⟨in_g 904 (by decide +kernel) (by decide +kernel), in_g 905 (by decide +kernel) (by decide +kernel)⟩⟩
theorem ml0_107 : MLk 0 Rc0 107 y2_ofPair prog_7_method_9_code 5 (some (.int)) 1 := ⟨in_g 910 (by decide +kernel) (by decide +kernel), in_g 143 (by decide +kernel) (by decide +kernel), Or.inl (in_g 907 (by decide +kernel) (by decide +kernel)), ⟨by decide +kernel, by decide +kernel, by decide +kernel⟩, by decide, ⟨in_g 908 (by decide +kernel) (by decide +kernel), in_g 909 (by decide +kernel) (by decide +kernel)⟩⟩
theorem fl0_110 : FLc Rc0 110 2 5 4 := ⟨⟨Rc2, Tc2, 17, ck2, by decide, Or.inr ⟨"AskedNames", List.mem_of_getElem? (i := 203) (by decide +kernel)⟩⟩, by decide +kernel⟩
theorem ml0_113 : MLk 0 Rc0 113 y0_runAt prog_1_method_27_code 2 (some (.object "AskedNames$Run")) 1 := ⟨in_g 922 (by decide +kernel) (by decide +kernel), in_g 141 (by decide +kernel) (by decide +kernel), Or.inl (in_g 919 (by decide +kernel) (by decide +kernel)), ⟨by decide +kernel, by decide +kernel, by decide +kernel⟩, by decide, ⟨in_g 921 (by decide +kernel) (by decide +kernel), in_g 12 (by decide +kernel) (by decide +kernel)⟩⟩
theorem fl0_117 : FLc Rc0 117 3 0 0 := ⟨⟨Rc3, Tc3, 4, ck3, by decide, Or.inr ⟨"AskedNames", List.mem_of_getElem? (i := 275) (by decide +kernel)⟩⟩, by decide +kernel⟩
theorem fl0_122 : FLc Rc0 122 3 1 4 := ⟨⟨Rc3, Tc3, 4, ck3, by decide, Or.inr ⟨"AskedNames", List.mem_of_getElem? (i := 278) (by decide +kernel)⟩⟩, by decide +kernel⟩
theorem fl0_125 : FLc Rc0 125 3 2 5 := ⟨⟨Rc3, Tc3, 4, ck3, by decide, Or.inr ⟨"AskedNames", List.mem_of_getElem? (i := 281) (by decide +kernel)⟩⟩, by decide +kernel⟩
theorem fl0_128 : FLc Rc0 128 3 3 6 := ⟨⟨Rc3, Tc3, 4, ck3, by decide, Or.inr ⟨"AskedNames", List.mem_of_getElem? (i := 284) (by decide +kernel)⟩⟩, by decide +kernel⟩
theorem ml0_131 : MLk 0 Rc0 131 y10_replay prog_2_method_3_code 6 (some (.int)) 4 := ⟨in_g 930 (by decide +kernel) (by decide +kernel), in_g 147 (by decide +kernel) (by decide +kernel), Or.inl (in_g 927 (by decide +kernel) (by decide +kernel)), ⟨by decide +kernel, by decide +kernel, by decide +kernel⟩, by decide, ⟨in_g 928 (by decide +kernel) (by decide +kernel), in_g 929 (by decide +kernel) (by decide +kernel)⟩⟩
theorem ml0_135 : MLk 0 Rc0 135 y10_look prog_2_method_34_code 4 (some (.int)) 1 := ⟨in_g 1088 (by decide +kernel) (by decide +kernel), in_g 147 (by decide +kernel) (by decide +kernel), Or.inl (in_g 1085 (by decide +kernel) (by decide +kernel)), ⟨by decide +kernel, by decide +kernel, by decide +kernel⟩, by decide, ⟨in_g 1086 (by decide +kernel) (by decide +kernel), in_g 1087 (by decide +kernel) (by decide +kernel)⟩⟩
theorem ml0_138 : MLk 0 Rc0 138 y2_hasNode prog_7_method_7_code 2 (some (.boolean)) 1 := ⟨in_g 914 (by decide +kernel) (by decide +kernel), in_g 143 (by decide +kernel) (by decide +kernel), Or.inl (in_g 1109 (by decide +kernel) (by decide +kernel)), ⟨by decide +kernel, by decide +kernel, by decide +kernel⟩, by decide, ⟨in_g 912 (by decide +kernel) (by decide +kernel), in_g 913 (by decide +kernel) (by decide +kernel)⟩⟩
theorem fl0_142 : FLc Rc0 142 10 13 23 := ⟨⟨Rc10, Tc10, 16, ck10, by decide, Or.inr ⟨"AskedNames", List.mem_of_getElem? (i := 622) (by decide +kernel)⟩⟩, by decide +kernel⟩
theorem fl0_146 : FLc Rc0 146 8 0 0 := ⟨⟨Rc8, Tc8, 4, ck8, by decide, Or.inr ⟨"AskedNames", List.mem_of_getElem? (i := 549) (by decide +kernel)⟩⟩, by decide +kernel⟩
theorem fl0_151 : FLc Rc0 151 8 1 4 := ⟨⟨Rc8, Tc8, 4, ck8, by decide, Or.inr ⟨"AskedNames", List.mem_of_getElem? (i := 551) (by decide +kernel)⟩⟩, by decide +kernel⟩
theorem fl0_154 : FLc Rc0 154 8 2 5 := ⟨⟨Rc8, Tc8, 4, ck8, by decide, Or.inr ⟨"AskedNames", List.mem_of_getElem? (i := 554) (by decide +kernel)⟩⟩, by decide +kernel⟩
theorem fl0_157 : FLc Rc0 157 8 3 6 := ⟨⟨Rc8, Tc8, 4, ck8, by decide, Or.inr ⟨"AskedNames", List.mem_of_getElem? (i := 557) (by decide +kernel)⟩⟩, by decide +kernel⟩
theorem ml0_160 : MLk 0 Rc0 160 y10_entryAt prog_2_method_32_code 5 (some (.object "AskedNames$Entry")) 2 := ⟨in_g 1117 (by decide +kernel) (by decide +kernel), in_g 147 (by decide +kernel) (by decide +kernel), Or.inl (in_g 1114 (by decide +kernel) (by decide +kernel)), ⟨by decide +kernel, by decide +kernel, by decide +kernel⟩, by decide, ⟨in_g 1115 (by decide +kernel) (by decide +kernel), in_g 1116 (by decide +kernel) (by decide +kernel)⟩⟩
theorem ml0_164 : MLk 0 Rc0 164 y6_look prog_3_method_3_code 2 (some (.int)) 1 := ⟨in_g 1121 (by decide +kernel) (by decide +kernel), in_g 149 (by decide +kernel) (by decide +kernel), Or.inl (in_g 1118 (by decide +kernel) (by decide +kernel)), ⟨by decide +kernel, by decide +kernel, by decide +kernel⟩, by decide, ⟨in_g 1119 (by decide +kernel) (by decide +kernel), in_g 1120 (by decide +kernel) (by decide +kernel)⟩⟩
theorem ml0_167 : MLk 0 Rc0 167 y3_asks prog_9_method_4_code 2 (some (.boolean)) 1 := ⟨in_g 1130 (by decide +kernel) (by decide +kernel), in_g 144 (by decide +kernel) (by decide +kernel), Or.inl (in_g 1127 (by decide +kernel) (by decide +kernel)), ⟨by decide +kernel, by decide +kernel, by decide +kernel⟩, by decide, ⟨in_g 1128 (by decide +kernel) (by decide +kernel), in_g 1129 (by decide +kernel) (by decide +kernel)⟩⟩
theorem fl0_170 : FLc Rc0 170 10 14 24 := ⟨⟨Rc10, Tc10, 16, ck10, by decide, Or.inr ⟨"AskedNames", List.mem_of_getElem? (i := 624) (by decide +kernel)⟩⟩, by decide +kernel⟩
theorem ml0_174 : MLk 0 Rc0 174 y9_look prog_4_method_3_code 2 (some (.int)) 1 := ⟨in_g 1134 (by decide +kernel) (by decide +kernel), in_g 151 (by decide +kernel) (by decide +kernel), Or.inl (in_g 1131 (by decide +kernel) (by decide +kernel)), ⟨by decide +kernel, by decide +kernel, by decide +kernel⟩, by decide, ⟨in_g 1132 (by decide +kernel) (by decide +kernel), in_g 1133 (by decide +kernel) (by decide +kernel)⟩⟩
theorem ml0_177 : MLk 1 Rc0 177 y0_isName prog_1_method_35_code 3 (some (.boolean)) 1 := ⟨in_g 1141 (by decide +kernel) (by decide +kernel), in_g 141 (by decide +kernel) (by decide +kernel), Or.inl (in_g 1139 (by decide +kernel) (by decide +kernel)), ⟨by decide +kernel, by decide +kernel, by decide +kernel⟩, by decide, in_g 1140 (by decide +kernel) (by decide +kernel)⟩
theorem ml0_180 : MLk 0 Rc0 180 y10_askAlone prog_2_method_5_code 6 none 4 := ⟨in_g 1145 (by decide +kernel) (by decide +kernel), in_g 147 (by decide +kernel) (by decide +kernel), Or.inl (in_g 1142 (by decide +kernel) (by decide +kernel)), ⟨by decide +kernel, by decide +kernel, by decide +kernel⟩, by decide, ⟨in_g 1143 (by decide +kernel) (by decide +kernel), in_g 1144 (by decide +kernel) (by decide +kernel)⟩⟩
theorem fl0_184 : FLc Rc0 184 10 15 25 := ⟨⟨Rc10, Tc10, 16, ck10, by decide, Or.inr ⟨"AskedNames", List.mem_of_getElem? (i := 626) (by decide +kernel)⟩⟩, by decide +kernel⟩
theorem ml0_187 : MLk 0 Rc0 187 y2_rowsAt prog_7_method_16_code 6 (some (.int)) 1 := ⟨in_g 1153 (by decide +kernel) (by decide +kernel), in_g 143 (by decide +kernel) (by decide +kernel), Or.inl (in_g 1150 (by decide +kernel) (by decide +kernel)), ⟨by decide +kernel, by decide +kernel, by decide +kernel⟩, by decide, ⟨in_g 1151 (by decide +kernel) (by decide +kernel), in_g 1152 (by decide +kernel) (by decide +kernel)⟩⟩
theorem ml0_190 : MLk 0 Rc0 190 y2_routesAt prog_7_method_15_code 4 (some (.int)) 1 := ⟨in_g 1164 (by decide +kernel) (by decide +kernel), in_g 143 (by decide +kernel) (by decide +kernel), Or.inl (in_g 1161 (by decide +kernel) (by decide +kernel)), ⟨by decide +kernel, by decide +kernel, by decide +kernel⟩, by decide, ⟨in_g 1162 (by decide +kernel) (by decide +kernel), in_g 1163 (by decide +kernel) (by decide +kernel)⟩⟩
theorem ml0_193 : MLk 0 Rc0 193 y2_routed prog_7_method_12_code 6 (some (.int)) 2 := ⟨in_g 1031 (by decide +kernel) (by decide +kernel), in_g 143 (by decide +kernel) (by decide +kernel), Or.inl (in_g 1169 (by decide +kernel) (by decide +kernel)), ⟨by decide +kernel, by decide +kernel, by decide +kernel⟩, by decide, ⟨in_g 1029 (by decide +kernel) (by decide +kernel), in_g 1030 (by decide +kernel) (by decide +kernel)⟩⟩
theorem ml0_197 : MLk 1 Rc0 197 y0_lettersOf prog_1_method_36_code 4 (some (.int)) 1 := ⟨in_g 1172 (by decide +kernel) (by decide +kernel), in_g 141 (by decide +kernel) (by decide +kernel), Or.inl (in_g 1170 (by decide +kernel) (by decide +kernel)), ⟨by decide +kernel, by decide +kernel, by decide +kernel⟩, by decide, in_g 1171 (by decide +kernel) (by decide +kernel)⟩
theorem ml0_200 : MLk 0 Rc0 200 y2_waysFor prog_7_method_13_code 6 (some (.int)) 2 := ⟨in_g 1176 (by decide +kernel) (by decide +kernel), in_g 143 (by decide +kernel) (by decide +kernel), Or.inl (in_g 1173 (by decide +kernel) (by decide +kernel)), ⟨by decide +kernel, by decide +kernel, by decide +kernel⟩, by decide, ⟨in_g 1174 (by decide +kernel) (by decide +kernel), in_g 1175 (by decide +kernel) (by decide +kernel)⟩⟩
theorem ml0_203 : MLk 0 Rc0 203 y10_begin prog_2_method_2_code 4 none 2 := ⟨in_g 934 (by decide +kernel) (by decide +kernel), in_g 147 (by decide +kernel) (by decide +kernel), Or.inl (in_g 1182 (by decide +kernel) (by decide +kernel)), ⟨by decide +kernel, by decide +kernel, by decide +kernel⟩, by decide, ⟨in_g 932 (by decide +kernel) (by decide +kernel), in_g 933 (by decide +kernel) (by decide +kernel)⟩⟩
theorem ml0_207 : MLk 0 Rc0 207 y10_bestWay prog_2_method_17_code 12 (some (.int)) 3 := ⟨in_g 1027 (by decide +kernel) (by decide +kernel), in_g 147 (by decide +kernel) (by decide +kernel), Or.inl (in_g 1183 (by decide +kernel) (by decide +kernel)), ⟨by decide +kernel, by decide +kernel, by decide +kernel⟩, by decide, ⟨in_g 1025 (by decide +kernel) (by decide +kernel), in_g 1026 (by decide +kernel) (by decide +kernel)⟩⟩
theorem ml0_211 : MLk 0 Rc0 211 y2_serving prog_7_method_14_code 6 (some (.int)) 2 := ⟨in_g 967 (by decide +kernel) (by decide +kernel), in_g 143 (by decide +kernel) (by decide +kernel), Or.inl (in_g 1184 (by decide +kernel) (by decide +kernel)), ⟨by decide +kernel, by decide +kernel, by decide +kernel⟩, by decide, ⟨in_g 965 (by decide +kernel) (by decide +kernel), in_g 966 (by decide +kernel) (by decide +kernel)⟩⟩
theorem ml0_214 : MLk 1 Rc0 214 yJArrays_fill_IIV prog_21_method_103_code 4 none 2 := ⟨in_g 711 (by decide +kernel) (by decide +kernel), in_g 153 (by decide +kernel) (by decide +kernel), Or.inl (in_g 1189 (by decide +kernel) (by decide +kernel)), ⟨by decide +kernel, by decide +kernel, by decide +kernel⟩, by decide, in_g 710 (by decide +kernel) (by decide +kernel)⟩
theorem fl0_220 : FLc Rc0 220 2 6 5 := ⟨⟨Rc2, Tc2, 17, ck2, by decide, Or.inr ⟨"AskedNames", List.mem_of_getElem? (i := 207) (by decide +kernel)⟩⟩, by decide +kernel⟩
theorem fl0_223 : FLc Rc0 223 2 7 6 := ⟨⟨Rc2, Tc2, 17, ck2, by decide, Or.inr ⟨"AskedNames", List.mem_of_getElem? (i := 209) (by decide +kernel)⟩⟩, by decide +kernel⟩
theorem fl0_226 : FLc Rc0 226 2 8 7 := ⟨⟨Rc2, Tc2, 17, ck2, by decide, Or.inr ⟨"AskedNames", List.mem_of_getElem? (i := 211) (by decide +kernel)⟩⟩, by decide +kernel⟩
theorem ml0_229 : MLk 0 Rc0 229 y0_shorten prog_1_method_29_code 4 none 3 := ⟨in_g 1193 (by decide +kernel) (by decide +kernel), in_g 141 (by decide +kernel) (by decide +kernel), Or.inl (in_g 1190 (by decide +kernel) (by decide +kernel)), ⟨by decide +kernel, by decide +kernel, by decide +kernel⟩, by decide, ⟨in_g 1192 (by decide +kernel) (by decide +kernel), in_g 39 (by decide +kernel) (by decide +kernel)⟩⟩
theorem ml0_233 : MLk 0 Rc0 233 y0_logAt prog_1_method_28_code 2 (some (.object "AskedNames$Log")) 1 := ⟨in_g 1201 (by decide +kernel) (by decide +kernel), in_g 141 (by decide +kernel) (by decide +kernel), Or.inl (in_g 1198 (by decide +kernel) (by decide +kernel)), ⟨by decide +kernel, by decide +kernel, by decide +kernel⟩, by decide, ⟨in_g 1200 (by decide +kernel) (by decide +kernel), in_g 40 (by decide +kernel) (by decide +kernel)⟩⟩
theorem fl0_237 : FLc Rc0 237 4 0 0 := ⟨⟨Rc4, Tc4, 3, ck4, by decide, Or.inr ⟨"AskedNames", List.mem_of_getElem? (i := 303) (by decide +kernel)⟩⟩, by decide +kernel⟩
theorem fl0_242 : FLc Rc0 242 4 1 4 := ⟨⟨Rc4, Tc4, 3, ck4, by decide, Or.inr ⟨"AskedNames", List.mem_of_getElem? (i := 305) (by decide +kernel)⟩⟩, by decide +kernel⟩
theorem fl0_245 : FLc Rc0 245 4 2 5 := ⟨⟨Rc4, Tc4, 3, ck4, by decide, Or.inr ⟨"AskedNames", List.mem_of_getElem? (i := 307) (by decide +kernel)⟩⟩, by decide +kernel⟩
theorem ml0_248 : MLk 0 Rc0 248 y0_agrees prog_1_method_31_code 8 (some (.boolean)) 3 := ⟨in_g 1209 (by decide +kernel) (by decide +kernel), in_g 141 (by decide +kernel) (by decide +kernel), Or.inl (in_g 1206 (by decide +kernel) (by decide +kernel)), ⟨by decide +kernel, by decide +kernel, by decide +kernel⟩, by decide, ⟨in_g 1208 (by decide +kernel) (by decide +kernel), in_g 41 (by decide +kernel) (by decide +kernel)⟩⟩
theorem ml0_252 : MLk 0 Rc0 252 y0_noteGot prog_1_method_32_code 4 none 2 := ⟨in_g 1217 (by decide +kernel) (by decide +kernel), in_g 141 (by decide +kernel) (by decide +kernel), Or.inl (in_g 1214 (by decide +kernel) (by decide +kernel)), ⟨by decide +kernel, by decide +kernel, by decide +kernel⟩, by decide, ⟨in_g 1216 (by decide +kernel) (by decide +kernel), in_g 43 (by decide +kernel) (by decide +kernel)⟩⟩
theorem ml0_256 : MLk 0 Rc0 256 y0_tellingAsk prog_1_method_33_code 7 (some (.int)) 2 := ⟨in_g 1221 (by decide +kernel) (by decide +kernel), in_g 141 (by decide +kernel) (by decide +kernel), Or.inl (in_g 1218 (by decide +kernel) (by decide +kernel)), ⟨by decide +kernel, by decide +kernel, by decide +kernel⟩, by decide, ⟨in_g 1220 (by decide +kernel) (by decide +kernel), in_g 44 (by decide +kernel) (by decide +kernel)⟩⟩
theorem ml0_260 : MLk 0 Rc0 260 y10_draw prog_2_method_6_code 6 none 3 := ⟨in_g 1230 (by decide +kernel) (by decide +kernel), in_g 147 (by decide +kernel) (by decide +kernel), Or.inl (in_g 1227 (by decide +kernel) (by decide +kernel)), ⟨by decide +kernel, by decide +kernel, by decide +kernel⟩, by decide, ⟨in_g 1228 (by decide +kernel) (by decide +kernel), in_g 1229 (by decide +kernel) (by decide +kernel)⟩⟩
theorem ml0_264 : MLk 0 Rc0 264 y0_mean prog_1_method_34_code 10 (some (.int)) 3 := ⟨in_g 1251 (by decide +kernel) (by decide +kernel), in_g 141 (by decide +kernel) (by decide +kernel), Or.inl (in_g 1248 (by decide +kernel) (by decide +kernel)), ⟨by decide +kernel, by decide +kernel, by decide +kernel⟩, by decide, ⟨in_g 1250 (by decide +kernel) (by decide +kernel), in_g 48 (by decide +kernel) (by decide +kernel)⟩⟩
theorem ml0_268 : MLk 0 Rc0 268 y2_serversAsBits prog_7_method_18_code 3 (some (.int)) 0 := ⟨in_g 1259 (by decide +kernel) (by decide +kernel), in_g 143 (by decide +kernel) (by decide +kernel), Or.inl (in_g 1256 (by decide +kernel) (by decide +kernel)), ⟨by decide +kernel, by decide +kernel, by decide +kernel⟩, by decide, ⟨in_g 1257 (by decide +kernel) (by decide +kernel), in_g 1258 (by decide +kernel) (by decide +kernel)⟩⟩
theorem ml0_272 : MLk 0 Rc0 272 y2_leavesAsBits prog_7_method_19_code 5 (some (.int)) 0 := ⟨in_g 1263 (by decide +kernel) (by decide +kernel), in_g 143 (by decide +kernel) (by decide +kernel), Or.inl (in_g 1260 (by decide +kernel) (by decide +kernel)), ⟨by decide +kernel, by decide +kernel, by decide +kernel⟩, by decide, ⟨in_g 1261 (by decide +kernel) (by decide +kernel), in_g 1262 (by decide +kernel) (by decide +kernel)⟩⟩
theorem ml0_275 : MLk 0 Rc0 275 y2_blindAsBits prog_7_method_20_code 3 (some (.int)) 0 := ⟨in_g 1267 (by decide +kernel) (by decide +kernel), in_g 143 (by decide +kernel) (by decide +kernel), Or.inl (in_g 1264 (by decide +kernel) (by decide +kernel)), ⟨by decide +kernel, by decide +kernel, by decide +kernel⟩, by decide, ⟨in_g 1265 (by decide +kernel) (by decide +kernel), in_g 1266 (by decide +kernel) (by decide +kernel)⟩⟩
theorem ml0_278 : MLk 0 Rc0 278 y2_hiddenAsBits prog_7_method_21_code 5 (some (.int)) 0 := ⟨in_g 1271 (by decide +kernel) (by decide +kernel), in_g 143 (by decide +kernel) (by decide +kernel), Or.inl (in_g 1268 (by decide +kernel) (by decide +kernel)), ⟨by decide +kernel, by decide +kernel, by decide +kernel⟩, by decide, ⟨in_g 1269 (by decide +kernel) (by decide +kernel), in_g 1270 (by decide +kernel) (by decide +kernel)⟩⟩
theorem ml0_281 : MLk 0 Rc0 281 y2_servedAsBits prog_7_method_22_code 5 (some (.int)) 0 := ⟨in_g 1275 (by decide +kernel) (by decide +kernel), in_g 143 (by decide +kernel) (by decide +kernel), Or.inl (in_g 1272 (by decide +kernel) (by decide +kernel)), ⟨by decide +kernel, by decide +kernel, by decide +kernel⟩, by decide, ⟨in_g 1273 (by decide +kernel) (by decide +kernel), in_g 1274 (by decide +kernel) (by decide +kernel)⟩⟩
theorem ml0_284 : MLk 0 Rc0 284 y1_copy prog_11_method_4_code 3 none 1 := ⟨in_g 1287 (by decide +kernel) (by decide +kernel), in_g 142 (by decide +kernel) (by decide +kernel), Or.inl (in_g 1284 (by decide +kernel) (by decide +kernel)), ⟨by decide +kernel, by decide +kernel, by decide +kernel⟩, by decide, ⟨in_g 1285 (by decide +kernel) (by decide +kernel), in_g 1286 (by decide +kernel) (by decide +kernel)⟩⟩
theorem fl0_288 : FLc Rc0 288 1 5 6 := ⟨⟨Rc1, Tc1, 8, ck1, by decide, Or.inr ⟨"AskedNames", List.mem_of_getElem? (i := 326) (by decide +kernel)⟩⟩, by decide +kernel⟩
theorem fl0_292 : FLc Rc0 292 1 6 33 := ⟨⟨Rc1, Tc1, 8, ck1, by decide, Or.inr ⟨"AskedNames", List.mem_of_getElem? (i := 328) (by decide +kernel)⟩⟩, by decide +kernel⟩
theorem fl0_296 : FLc Rc0 296 1 7 42 := ⟨⟨Rc1, Tc1, 8, ck1, by decide, Or.inr ⟨"AskedNames", List.mem_of_getElem? (i := 330) (by decide +kernel)⟩⟩, by decide +kernel⟩
theorem fl0_300 : FLc Rc0 300 9 0 0 := ⟨⟨Rc9, Tc9, 8, ck9, by decide, Or.inr ⟨"AskedNames", List.mem_of_getElem? (i := 575) (by decide +kernel)⟩⟩, by decide +kernel⟩
theorem ml0_303 : MLk 0 Rc0 303 y0_got prog_1_method_30_code 4 (some (.boolean)) 3 := ⟨in_g 1213 (by decide +kernel) (by decide +kernel), in_g 141 (by decide +kernel) (by decide +kernel), Or.inl (in_g 1210 (by decide +kernel) (by decide +kernel)), ⟨by decide +kernel, by decide +kernel, by decide +kernel⟩, by decide, ⟨in_g 1212 (by decide +kernel) (by decide +kernel), in_g 42 (by decide +kernel) (by decide +kernel)⟩⟩
theorem fl0_307 : FLc Rc0 307 9 2 0 := ⟨⟨Rc9, Tc9, 8, ck9, by decide, Or.inr ⟨"AskedNames", List.mem_of_getElem? (i := 580) (by decide +kernel)⟩⟩, by decide +kernel⟩
theorem ml0_309 : MLk 1 Rc0 309 yJMath_max prog_16_method_65_code 2 (some (.int)) 2 := ⟨in_g 840 (by decide +kernel) (by decide +kernel), in_g 158 (by decide +kernel) (by decide +kernel), Or.inl (in_g 1222 (by decide +kernel) (by decide +kernel)), ⟨by decide +kernel, by decide +kernel, by decide +kernel⟩, by decide, in_g 839 (by decide +kernel) (by decide +kernel)⟩
theorem fl0_314 : FLc Rc0 314 9 1 0 := ⟨⟨Rc9, Tc9, 8, ck9, by decide, Or.inr ⟨"AskedNames", List.mem_of_getElem? (i := 577) (by decide +kernel)⟩⟩, by decide +kernel⟩
theorem fl11_7 : FLc Rc11 7 11 1 4 := ⟨⟨Rc11, Tc11, 87, ck11, by decide, Or.inl (in_g 1300 (by decide +kernel) (by decide +kernel))⟩, by decide +kernel⟩
theorem fl11_7r : FLc Rc11 7 23 1 2 := ⟨⟨Rc11, Tc11, 87, ck23, by decide, Or.inl (in_g 1300 (by decide +kernel) (by decide +kernel))⟩, by decide +kernel⟩
theorem fl11_13 : FLc Rc11 13 11 2 5 := ⟨⟨Rc11, Tc11, 87, ck11, by decide, Or.inl (in_g 1301 (by decide +kernel) (by decide +kernel))⟩, by decide +kernel⟩
theorem fl11_13r : FLc Rc11 13 23 2 2 := ⟨⟨Rc11, Tc11, 87, ck23, by decide, Or.inl (in_g 1301 (by decide +kernel) (by decide +kernel))⟩, by decide +kernel⟩
theorem fl11_17 : FLc Rc11 17 11 3 6 := ⟨⟨Rc11, Tc11, 87, ck11, by decide, Or.inl (in_g 1302 (by decide +kernel) (by decide +kernel))⟩, by decide +kernel⟩
theorem fl11_17r : FLc Rc11 17 23 3 2 := ⟨⟨Rc11, Tc11, 87, ck23, by decide, Or.inl (in_g 1302 (by decide +kernel) (by decide +kernel))⟩, by decide +kernel⟩
theorem fl11_20 : FLc Rc11 20 11 4 7 := ⟨⟨Rc11, Tc11, 87, ck11, by decide, Or.inl (in_g 1303 (by decide +kernel) (by decide +kernel))⟩, by decide +kernel⟩
theorem fl11_20r : FLc Rc11 20 23 4 2 := ⟨⟨Rc11, Tc11, 87, ck23, by decide, Or.inl (in_g 1303 (by decide +kernel) (by decide +kernel))⟩, by decide +kernel⟩
theorem fl11_23 : FLc Rc11 23 11 5 8 := ⟨⟨Rc11, Tc11, 87, ck11, by decide, Or.inl (in_g 1304 (by decide +kernel) (by decide +kernel))⟩, by decide +kernel⟩
theorem fl11_23r : FLc Rc11 23 23 5 2 := ⟨⟨Rc11, Tc11, 87, ck23, by decide, Or.inl (in_g 1304 (by decide +kernel) (by decide +kernel))⟩, by decide +kernel⟩
theorem fl11_26 : FLc Rc11 26 11 6 9 := ⟨⟨Rc11, Tc11, 87, ck11, by decide, Or.inl (in_g 1305 (by decide +kernel) (by decide +kernel))⟩, by decide +kernel⟩
theorem fl11_26r : FLc Rc11 26 23 6 2 := ⟨⟨Rc11, Tc11, 87, ck23, by decide, Or.inl (in_g 1305 (by decide +kernel) (by decide +kernel))⟩, by decide +kernel⟩
theorem fl11_29 : FLc Rc11 29 11 7 10 := ⟨⟨Rc11, Tc11, 87, ck11, by decide, Or.inl (in_g 1306 (by decide +kernel) (by decide +kernel))⟩, by decide +kernel⟩
theorem fl11_29r : FLc Rc11 29 23 7 2 := ⟨⟨Rc11, Tc11, 87, ck23, by decide, Or.inl (in_g 1306 (by decide +kernel) (by decide +kernel))⟩, by decide +kernel⟩
theorem fl11_32 : FLc Rc11 32 11 8 11 := ⟨⟨Rc11, Tc11, 87, ck11, by decide, Or.inl (in_g 1307 (by decide +kernel) (by decide +kernel))⟩, by decide +kernel⟩
theorem fl11_32r : FLc Rc11 32 23 8 2 := ⟨⟨Rc11, Tc11, 87, ck23, by decide, Or.inl (in_g 1307 (by decide +kernel) (by decide +kernel))⟩, by decide +kernel⟩
theorem fl11_35 : FLc Rc11 35 11 18 12 := ⟨⟨Rc11, Tc11, 87, ck11, by decide, Or.inl (in_g 1317 (by decide +kernel) (by decide +kernel))⟩, by decide +kernel⟩
theorem fl11_35r : FLc Rc11 35 23 18 2 := ⟨⟨Rc11, Tc11, 87, ck23, by decide, Or.inl (in_g 1317 (by decide +kernel) (by decide +kernel))⟩, by decide +kernel⟩
theorem fl11_38 : FLc Rc11 38 11 19 13 := ⟨⟨Rc11, Tc11, 87, ck11, by decide, Or.inl (in_g 1318 (by decide +kernel) (by decide +kernel))⟩, by decide +kernel⟩
theorem fl11_38r : FLc Rc11 38 23 19 2 := ⟨⟨Rc11, Tc11, 87, ck23, by decide, Or.inl (in_g 1318 (by decide +kernel) (by decide +kernel))⟩, by decide +kernel⟩
theorem fl11_41 : FLc Rc11 41 11 25 14 := ⟨⟨Rc11, Tc11, 87, ck11, by decide, Or.inl (in_g 1324 (by decide +kernel) (by decide +kernel))⟩, by decide +kernel⟩
theorem fl11_41r : FLc Rc11 41 23 25 2 := ⟨⟨Rc11, Tc11, 87, ck23, by decide, Or.inl (in_g 1324 (by decide +kernel) (by decide +kernel))⟩, by decide +kernel⟩
theorem fl11_44 : FLc Rc11 44 11 28 15 := ⟨⟨Rc11, Tc11, 87, ck11, by decide, Or.inl (in_g 1327 (by decide +kernel) (by decide +kernel))⟩, by decide +kernel⟩
theorem fl11_44r : FLc Rc11 44 23 28 2 := ⟨⟨Rc11, Tc11, 87, ck23, by decide, Or.inl (in_g 1327 (by decide +kernel) (by decide +kernel))⟩, by decide +kernel⟩
theorem fl11_48 : FLc Rc11 48 11 29 16 := ⟨⟨Rc11, Tc11, 87, ck11, by decide, Or.inl (in_g 1328 (by decide +kernel) (by decide +kernel))⟩, by decide +kernel⟩
theorem fl11_48r : FLc Rc11 48 23 29 2 := ⟨⟨Rc11, Tc11, 87, ck23, by decide, Or.inl (in_g 1328 (by decide +kernel) (by decide +kernel))⟩, by decide +kernel⟩
theorem fl11_51 : FLc Rc11 51 11 30 17 := ⟨⟨Rc11, Tc11, 87, ck11, by decide, Or.inl (in_g 1329 (by decide +kernel) (by decide +kernel))⟩, by decide +kernel⟩
theorem fl11_51r : FLc Rc11 51 23 30 2 := ⟨⟨Rc11, Tc11, 87, ck23, by decide, Or.inl (in_g 1329 (by decide +kernel) (by decide +kernel))⟩, by decide +kernel⟩
theorem fl11_54 : FLc Rc11 54 11 31 18 := ⟨⟨Rc11, Tc11, 87, ck11, by decide, Or.inl (in_g 1330 (by decide +kernel) (by decide +kernel))⟩, by decide +kernel⟩
theorem fl11_54r : FLc Rc11 54 23 31 2 := ⟨⟨Rc11, Tc11, 87, ck23, by decide, Or.inl (in_g 1330 (by decide +kernel) (by decide +kernel))⟩, by decide +kernel⟩
theorem fl11_57 : FLc Rc11 57 11 32 19 := ⟨⟨Rc11, Tc11, 87, ck11, by decide, Or.inl (in_g 1331 (by decide +kernel) (by decide +kernel))⟩, by decide +kernel⟩
theorem fl11_57r : FLc Rc11 57 23 32 2 := ⟨⟨Rc11, Tc11, 87, ck23, by decide, Or.inl (in_g 1331 (by decide +kernel) (by decide +kernel))⟩, by decide +kernel⟩
theorem fl11_60 : FLc Rc11 60 11 33 20 := ⟨⟨Rc11, Tc11, 87, ck11, by decide, Or.inl (in_g 1332 (by decide +kernel) (by decide +kernel))⟩, by decide +kernel⟩
theorem fl11_60r : FLc Rc11 60 23 33 2 := ⟨⟨Rc11, Tc11, 87, ck23, by decide, Or.inl (in_g 1332 (by decide +kernel) (by decide +kernel))⟩, by decide +kernel⟩
theorem fl11_63 : FLc Rc11 63 11 34 21 := ⟨⟨Rc11, Tc11, 87, ck11, by decide, Or.inl (in_g 1333 (by decide +kernel) (by decide +kernel))⟩, by decide +kernel⟩
theorem fl11_63r : FLc Rc11 63 23 34 2 := ⟨⟨Rc11, Tc11, 87, ck23, by decide, Or.inl (in_g 1333 (by decide +kernel) (by decide +kernel))⟩, by decide +kernel⟩
theorem fl11_66 : FLc Rc11 66 11 35 22 := ⟨⟨Rc11, Tc11, 87, ck11, by decide, Or.inl (in_g 1334 (by decide +kernel) (by decide +kernel))⟩, by decide +kernel⟩
theorem fl11_66r : FLc Rc11 66 23 35 2 := ⟨⟨Rc11, Tc11, 87, ck23, by decide, Or.inl (in_g 1334 (by decide +kernel) (by decide +kernel))⟩, by decide +kernel⟩
theorem fl11_69 : FLc Rc11 69 11 36 23 := ⟨⟨Rc11, Tc11, 87, ck11, by decide, Or.inl (in_g 1335 (by decide +kernel) (by decide +kernel))⟩, by decide +kernel⟩
theorem fl11_69r : FLc Rc11 69 23 36 2 := ⟨⟨Rc11, Tc11, 87, ck23, by decide, Or.inl (in_g 1335 (by decide +kernel) (by decide +kernel))⟩, by decide +kernel⟩
theorem fl11_72 : FLc Rc11 72 11 37 24 := ⟨⟨Rc11, Tc11, 87, ck11, by decide, Or.inl (in_g 1336 (by decide +kernel) (by decide +kernel))⟩, by decide +kernel⟩
theorem fl11_72r : FLc Rc11 72 23 37 2 := ⟨⟨Rc11, Tc11, 87, ck23, by decide, Or.inl (in_g 1336 (by decide +kernel) (by decide +kernel))⟩, by decide +kernel⟩
theorem fl11_75 : FLc Rc11 75 11 38 25 := ⟨⟨Rc11, Tc11, 87, ck11, by decide, Or.inl (in_g 1337 (by decide +kernel) (by decide +kernel))⟩, by decide +kernel⟩
theorem fl11_75r : FLc Rc11 75 23 38 2 := ⟨⟨Rc11, Tc11, 87, ck23, by decide, Or.inl (in_g 1337 (by decide +kernel) (by decide +kernel))⟩, by decide +kernel⟩
theorem fl11_78 : FLc Rc11 78 11 39 26 := ⟨⟨Rc11, Tc11, 87, ck11, by decide, Or.inl (in_g 1338 (by decide +kernel) (by decide +kernel))⟩, by decide +kernel⟩
theorem fl11_78r : FLc Rc11 78 23 39 2 := ⟨⟨Rc11, Tc11, 87, ck23, by decide, Or.inl (in_g 1338 (by decide +kernel) (by decide +kernel))⟩, by decide +kernel⟩
theorem fl11_81 : FLc Rc11 81 11 40 27 := ⟨⟨Rc11, Tc11, 87, ck11, by decide, Or.inl (in_g 1339 (by decide +kernel) (by decide +kernel))⟩, by decide +kernel⟩
theorem fl11_81r : FLc Rc11 81 23 40 2 := ⟨⟨Rc11, Tc11, 87, ck23, by decide, Or.inl (in_g 1339 (by decide +kernel) (by decide +kernel))⟩, by decide +kernel⟩
theorem fl11_84 : FLc Rc11 84 11 41 28 := ⟨⟨Rc11, Tc11, 87, ck11, by decide, Or.inl (in_g 1340 (by decide +kernel) (by decide +kernel))⟩, by decide +kernel⟩
theorem fl11_84r : FLc Rc11 84 23 41 2 := ⟨⟨Rc11, Tc11, 87, ck23, by decide, Or.inl (in_g 1340 (by decide +kernel) (by decide +kernel))⟩, by decide +kernel⟩
theorem fl11_87 : FLc Rc11 87 11 42 29 := ⟨⟨Rc11, Tc11, 87, ck11, by decide, Or.inl (in_g 1341 (by decide +kernel) (by decide +kernel))⟩, by decide +kernel⟩
theorem fl11_87r : FLc Rc11 87 23 42 2 := ⟨⟨Rc11, Tc11, 87, ck23, by decide, Or.inl (in_g 1341 (by decide +kernel) (by decide +kernel))⟩, by decide +kernel⟩
theorem fl11_90 : FLc Rc11 90 11 43 30 := ⟨⟨Rc11, Tc11, 87, ck11, by decide, Or.inl (in_g 1342 (by decide +kernel) (by decide +kernel))⟩, by decide +kernel⟩
theorem fl11_90r : FLc Rc11 90 23 43 2 := ⟨⟨Rc11, Tc11, 87, ck23, by decide, Or.inl (in_g 1342 (by decide +kernel) (by decide +kernel))⟩, by decide +kernel⟩
theorem fl11_93 : FLc Rc11 93 11 44 31 := ⟨⟨Rc11, Tc11, 87, ck11, by decide, Or.inl (in_g 1343 (by decide +kernel) (by decide +kernel))⟩, by decide +kernel⟩
theorem fl11_93r : FLc Rc11 93 23 44 2 := ⟨⟨Rc11, Tc11, 87, ck23, by decide, Or.inl (in_g 1343 (by decide +kernel) (by decide +kernel))⟩, by decide +kernel⟩
theorem fl11_96 : FLc Rc11 96 11 46 32 := ⟨⟨Rc11, Tc11, 87, ck11, by decide, Or.inl (in_g 1345 (by decide +kernel) (by decide +kernel))⟩, by decide +kernel⟩
theorem fl11_96r : FLc Rc11 96 23 46 2 := ⟨⟨Rc11, Tc11, 87, ck23, by decide, Or.inl (in_g 1345 (by decide +kernel) (by decide +kernel))⟩, by decide +kernel⟩
theorem fl11_99 : FLc Rc11 99 11 47 33 := ⟨⟨Rc11, Tc11, 87, ck11, by decide, Or.inl (in_g 1346 (by decide +kernel) (by decide +kernel))⟩, by decide +kernel⟩
theorem fl11_99r : FLc Rc11 99 23 47 2 := ⟨⟨Rc11, Tc11, 87, ck23, by decide, Or.inl (in_g 1346 (by decide +kernel) (by decide +kernel))⟩, by decide +kernel⟩
theorem fl11_102 : FLc Rc11 102 11 48 34 := ⟨⟨Rc11, Tc11, 87, ck11, by decide, Or.inl (in_g 1347 (by decide +kernel) (by decide +kernel))⟩, by decide +kernel⟩
theorem fl11_102r : FLc Rc11 102 23 48 2 := ⟨⟨Rc11, Tc11, 87, ck23, by decide, Or.inl (in_g 1347 (by decide +kernel) (by decide +kernel))⟩, by decide +kernel⟩
theorem fl11_105 : FLc Rc11 105 11 49 35 := ⟨⟨Rc11, Tc11, 87, ck11, by decide, Or.inl (in_g 1348 (by decide +kernel) (by decide +kernel))⟩, by decide +kernel⟩
theorem fl11_105r : FLc Rc11 105 23 49 2 := ⟨⟨Rc11, Tc11, 87, ck23, by decide, Or.inl (in_g 1348 (by decide +kernel) (by decide +kernel))⟩, by decide +kernel⟩
theorem fl11_108 : FLc Rc11 108 11 50 36 := ⟨⟨Rc11, Tc11, 87, ck11, by decide, Or.inl (in_g 1349 (by decide +kernel) (by decide +kernel))⟩, by decide +kernel⟩
theorem fl11_108r : FLc Rc11 108 23 50 2 := ⟨⟨Rc11, Tc11, 87, ck23, by decide, Or.inl (in_g 1349 (by decide +kernel) (by decide +kernel))⟩, by decide +kernel⟩
theorem fl11_111 : FLc Rc11 111 11 51 37 := ⟨⟨Rc11, Tc11, 87, ck11, by decide, Or.inl (in_g 1350 (by decide +kernel) (by decide +kernel))⟩, by decide +kernel⟩
theorem fl11_111r : FLc Rc11 111 23 51 2 := ⟨⟨Rc11, Tc11, 87, ck23, by decide, Or.inl (in_g 1350 (by decide +kernel) (by decide +kernel))⟩, by decide +kernel⟩
theorem fl11_114 : FLc Rc11 114 11 52 38 := ⟨⟨Rc11, Tc11, 87, ck11, by decide, Or.inl (in_g 1351 (by decide +kernel) (by decide +kernel))⟩, by decide +kernel⟩
theorem fl11_114r : FLc Rc11 114 23 52 2 := ⟨⟨Rc11, Tc11, 87, ck23, by decide, Or.inl (in_g 1351 (by decide +kernel) (by decide +kernel))⟩, by decide +kernel⟩
theorem fl11_117 : FLc Rc11 117 11 53 39 := ⟨⟨Rc11, Tc11, 87, ck11, by decide, Or.inl (in_g 1352 (by decide +kernel) (by decide +kernel))⟩, by decide +kernel⟩
theorem fl11_117r : FLc Rc11 117 23 53 2 := ⟨⟨Rc11, Tc11, 87, ck23, by decide, Or.inl (in_g 1352 (by decide +kernel) (by decide +kernel))⟩, by decide +kernel⟩
theorem fl11_120 : FLc Rc11 120 11 54 40 := ⟨⟨Rc11, Tc11, 87, ck11, by decide, Or.inl (in_g 1353 (by decide +kernel) (by decide +kernel))⟩, by decide +kernel⟩
theorem fl11_120r : FLc Rc11 120 23 54 2 := ⟨⟨Rc11, Tc11, 87, ck23, by decide, Or.inl (in_g 1353 (by decide +kernel) (by decide +kernel))⟩, by decide +kernel⟩
theorem fl11_123 : FLc Rc11 123 11 55 41 := ⟨⟨Rc11, Tc11, 87, ck11, by decide, Or.inl (in_g 1354 (by decide +kernel) (by decide +kernel))⟩, by decide +kernel⟩
theorem fl11_123r : FLc Rc11 123 23 55 2 := ⟨⟨Rc11, Tc11, 87, ck23, by decide, Or.inl (in_g 1354 (by decide +kernel) (by decide +kernel))⟩, by decide +kernel⟩
theorem fl11_126 : FLc Rc11 126 11 56 42 := ⟨⟨Rc11, Tc11, 87, ck11, by decide, Or.inl (in_g 1355 (by decide +kernel) (by decide +kernel))⟩, by decide +kernel⟩
theorem fl11_126r : FLc Rc11 126 23 56 2 := ⟨⟨Rc11, Tc11, 87, ck23, by decide, Or.inl (in_g 1355 (by decide +kernel) (by decide +kernel))⟩, by decide +kernel⟩
theorem fl11_129 : FLc Rc11 129 11 57 43 := ⟨⟨Rc11, Tc11, 87, ck11, by decide, Or.inl (in_g 1356 (by decide +kernel) (by decide +kernel))⟩, by decide +kernel⟩
theorem fl11_129r : FLc Rc11 129 23 57 2 := ⟨⟨Rc11, Tc11, 87, ck23, by decide, Or.inl (in_g 1356 (by decide +kernel) (by decide +kernel))⟩, by decide +kernel⟩
theorem fl11_132 : FLc Rc11 132 11 58 44 := ⟨⟨Rc11, Tc11, 87, ck11, by decide, Or.inl (in_g 1357 (by decide +kernel) (by decide +kernel))⟩, by decide +kernel⟩
theorem fl11_132r : FLc Rc11 132 23 58 2 := ⟨⟨Rc11, Tc11, 87, ck23, by decide, Or.inl (in_g 1357 (by decide +kernel) (by decide +kernel))⟩, by decide +kernel⟩
theorem fl11_135 : FLc Rc11 135 11 59 45 := ⟨⟨Rc11, Tc11, 87, ck11, by decide, Or.inl (in_g 1358 (by decide +kernel) (by decide +kernel))⟩, by decide +kernel⟩
theorem fl11_135r : FLc Rc11 135 23 59 2 := ⟨⟨Rc11, Tc11, 87, ck23, by decide, Or.inl (in_g 1358 (by decide +kernel) (by decide +kernel))⟩, by decide +kernel⟩
theorem fl11_138 : FLc Rc11 138 11 60 46 := ⟨⟨Rc11, Tc11, 87, ck11, by decide, Or.inl (in_g 1359 (by decide +kernel) (by decide +kernel))⟩, by decide +kernel⟩
theorem fl11_138r : FLc Rc11 138 23 60 2 := ⟨⟨Rc11, Tc11, 87, ck23, by decide, Or.inl (in_g 1359 (by decide +kernel) (by decide +kernel))⟩, by decide +kernel⟩
theorem fl11_141 : FLc Rc11 141 11 61 47 := ⟨⟨Rc11, Tc11, 87, ck11, by decide, Or.inl (in_g 1360 (by decide +kernel) (by decide +kernel))⟩, by decide +kernel⟩
theorem fl11_141r : FLc Rc11 141 23 61 2 := ⟨⟨Rc11, Tc11, 87, ck23, by decide, Or.inl (in_g 1360 (by decide +kernel) (by decide +kernel))⟩, by decide +kernel⟩
theorem fl11_144 : FLc Rc11 144 11 62 48 := ⟨⟨Rc11, Tc11, 87, ck11, by decide, Or.inl (in_g 1361 (by decide +kernel) (by decide +kernel))⟩, by decide +kernel⟩
theorem fl11_144r : FLc Rc11 144 23 62 2 := ⟨⟨Rc11, Tc11, 87, ck23, by decide, Or.inl (in_g 1361 (by decide +kernel) (by decide +kernel))⟩, by decide +kernel⟩
theorem fl11_147 : FLc Rc11 147 11 63 49 := ⟨⟨Rc11, Tc11, 87, ck11, by decide, Or.inl (in_g 1362 (by decide +kernel) (by decide +kernel))⟩, by decide +kernel⟩
theorem fl11_147r : FLc Rc11 147 23 63 2 := ⟨⟨Rc11, Tc11, 87, ck23, by decide, Or.inl (in_g 1362 (by decide +kernel) (by decide +kernel))⟩, by decide +kernel⟩
theorem fl11_150 : FLc Rc11 150 11 64 50 := ⟨⟨Rc11, Tc11, 87, ck11, by decide, Or.inl (in_g 1363 (by decide +kernel) (by decide +kernel))⟩, by decide +kernel⟩
theorem fl11_150r : FLc Rc11 150 23 64 2 := ⟨⟨Rc11, Tc11, 87, ck23, by decide, Or.inl (in_g 1363 (by decide +kernel) (by decide +kernel))⟩, by decide +kernel⟩
theorem fl11_153 : FLc Rc11 153 11 77 51 := ⟨⟨Rc11, Tc11, 87, ck11, by decide, Or.inl (in_g 1376 (by decide +kernel) (by decide +kernel))⟩, by decide +kernel⟩
theorem fl11_153r : FLc Rc11 153 23 77 2 := ⟨⟨Rc11, Tc11, 87, ck23, by decide, Or.inl (in_g 1376 (by decide +kernel) (by decide +kernel))⟩, by decide +kernel⟩
theorem fl11_156 : FLc Rc11 156 11 78 52 := ⟨⟨Rc11, Tc11, 87, ck11, by decide, Or.inl (in_g 1377 (by decide +kernel) (by decide +kernel))⟩, by decide +kernel⟩
theorem fl11_156r : FLc Rc11 156 23 78 2 := ⟨⟨Rc11, Tc11, 87, ck23, by decide, Or.inl (in_g 1377 (by decide +kernel) (by decide +kernel))⟩, by decide +kernel⟩
theorem fl11_159 : FLc Rc11 159 11 80 53 := ⟨⟨Rc11, Tc11, 87, ck11, by decide, Or.inl (in_g 1379 (by decide +kernel) (by decide +kernel))⟩, by decide +kernel⟩
theorem fl11_159r : FLc Rc11 159 23 80 2 := ⟨⟨Rc11, Tc11, 87, ck23, by decide, Or.inl (in_g 1379 (by decide +kernel) (by decide +kernel))⟩, by decide +kernel⟩
theorem fl11_162 : FLc Rc11 162 11 84 54 := ⟨⟨Rc11, Tc11, 87, ck11, by decide, Or.inl (in_g 1383 (by decide +kernel) (by decide +kernel))⟩, by decide +kernel⟩
theorem fl11_162r : FLc Rc11 162 23 84 2 := ⟨⟨Rc11, Tc11, 87, ck23, by decide, Or.inl (in_g 1383 (by decide +kernel) (by decide +kernel))⟩, by decide +kernel⟩
theorem fl11_165 : FLc Rc11 165 11 86 55 := ⟨⟨Rc11, Tc11, 87, ck11, by decide, Or.inl (in_g 1385 (by decide +kernel) (by decide +kernel))⟩, by decide +kernel⟩
theorem fl11_165r : FLc Rc11 165 23 86 2 := ⟨⟨Rc11, Tc11, 87, ck23, by decide, Or.inl (in_g 1385 (by decide +kernel) (by decide +kernel))⟩, by decide +kernel⟩
theorem ml11_173 : MLk 1 Rc11 173 y11_has prog_13_method_4_code 2 (some (.boolean)) 2 := ⟨in_g 1812 (by decide +kernel) (by decide +kernel), in_g 152 (by decide +kernel) (by decide +kernel), Or.inl (in_g 1810 (by decide +kernel) (by decide +kernel)), ⟨by decide +kernel, by decide +kernel, by decide +kernel⟩, by decide, in_g 1811 (by decide +kernel) (by decide +kernel)⟩
theorem ml11_177 : MLk 1 Rc11 177 y11_copyRow prog_13_method_8_code 5 none 4 := ⟨in_g 2071 (by decide +kernel) (by decide +kernel), in_g 152 (by decide +kernel) (by decide +kernel), Or.inl (in_g 2069 (by decide +kernel) (by decide +kernel)), ⟨by decide +kernel, by decide +kernel, by decide +kernel⟩, by decide, in_g 2070 (by decide +kernel) (by decide +kernel)⟩
theorem ml11_181 : MLk 1 Rc11 181 y11_in prog_13_method_3_code 3 (some (.boolean)) 3 := ⟨in_g 1575 (by decide +kernel) (by decide +kernel), in_g 152 (by decide +kernel) (by decide +kernel), Or.inl (in_g 1573 (by decide +kernel) (by decide +kernel)), ⟨by decide +kernel, by decide +kernel, by decide +kernel⟩, by decide, in_g 1574 (by decide +kernel) (by decide +kernel)⟩
theorem fl11_169 : FLc Rc11 169 11 0 0 := ⟨⟨Rc11, Tc11, 87, ck11, by decide, Or.inl (in_g 1299 (by decide +kernel) (by decide +kernel))⟩, by decide +kernel⟩
theorem fp11_169 : FPc Rc11 169 11 0 0 (.int) := ⟨fl11_169.1, fun C T N h => by cases h; exact ⟨rfl, by decide +kernel⟩, fl11_169.2⟩
theorem ml11_185 : MLk 0 Rc11 185 y11_four prog_13_method_12_code 3 none 1 := ⟨in_g 1568 (by decide +kernel) (by decide +kernel), in_g 152 (by decide +kernel) (by decide +kernel), Or.inl (in_g 1565 (by decide +kernel) (by decide +kernel)), ⟨by decide +kernel, by decide +kernel, by decide +kernel⟩, by decide, ⟨in_g 1567 (by decide +kernel) (by decide +kernel), in_g 49 (by decide +kernel) (by decide +kernel)⟩⟩
theorem fl11_189 : FLc Rc11 189 11 9 0 := ⟨⟨Rc11, Tc11, 87, ck11, by decide, Or.inl (in_g 1308 (by decide +kernel) (by decide +kernel))⟩, by decide +kernel⟩
theorem fl11_192 : FLc Rc11 192 11 10 0 := ⟨⟨Rc11, Tc11, 87, ck11, by decide, Or.inl (in_g 1309 (by decide +kernel) (by decide +kernel))⟩, by decide +kernel⟩
theorem ml11_195 : MLk 0 Rc11 195 y11_see prog_13_method_14_code 1 (some (.int)) 0 := ⟨in_g 1595 (by decide +kernel) (by decide +kernel), in_g 152 (by decide +kernel) (by decide +kernel), Or.inl (in_g 1592 (by decide +kernel) (by decide +kernel)), ⟨by decide +kernel, by decide +kernel, by decide +kernel⟩, by decide, ⟨in_g 1594 (by decide +kernel) (by decide +kernel), in_g 53 (by decide +kernel) (by decide +kernel)⟩⟩
theorem fp11_189 : FPc Rc11 189 11 9 0 (.int) := ⟨fl11_189.1, fun C T N h => by cases h; exact ⟨rfl, by decide +kernel⟩, fl11_189.2⟩
theorem fl11_199 : FLc Rc11 199 11 11 0 := ⟨⟨Rc11, Tc11, 87, ck11, by decide, Or.inl (in_g 1310 (by decide +kernel) (by decide +kernel))⟩, by decide +kernel⟩
theorem fp11_199 : FPc Rc11 199 11 11 0 (.int) := ⟨fl11_199.1, fun C T N h => by cases h; exact ⟨rfl, by decide +kernel⟩, fl11_199.2⟩
theorem fl11_202 : FLc Rc11 202 11 14 1 := ⟨⟨Rc11, Tc11, 87, ck11, by decide, Or.inl (in_g 1313 (by decide +kernel) (by decide +kernel))⟩, by decide +kernel⟩
theorem fp11_202 : FPc Rc11 202 11 14 1 (.long) := ⟨fl11_202.1, fun C T N h => by cases h; exact ⟨rfl, by decide +kernel⟩, fl11_202.2⟩
theorem fl11_206 : FLc Rc11 206 11 12 0 := ⟨⟨Rc11, Tc11, 87, ck11, by decide, Or.inl (in_g 1311 (by decide +kernel) (by decide +kernel))⟩, by decide +kernel⟩
theorem fp11_206 : FPc Rc11 206 11 12 0 (.int) := ⟨fl11_206.1, fun C T N h => by cases h; exact ⟨rfl, by decide +kernel⟩, fl11_206.2⟩
theorem fl11_209 : FLc Rc11 209 11 13 0 := ⟨⟨Rc11, Tc11, 87, ck11, by decide, Or.inl (in_g 1312 (by decide +kernel) (by decide +kernel))⟩, by decide +kernel⟩
theorem fp11_209 : FPc Rc11 209 11 13 0 (.int) := ⟨fl11_209.1, fun C T N h => by cases h; exact ⟨rfl, by decide +kernel⟩, fl11_209.2⟩
theorem fl11_212 : FLc Rc11 212 11 15 0 := ⟨⟨Rc11, Tc11, 87, ck11, by decide, Or.inl (in_g 1314 (by decide +kernel) (by decide +kernel))⟩, by decide +kernel⟩
theorem fp11_212 : FPc Rc11 212 11 15 0 (.int) := ⟨fl11_212.1, fun C T N h => by cases h; exact ⟨rfl, by decide +kernel⟩, fl11_212.2⟩
theorem fl11_215 : FLc Rc11 215 11 16 0 := ⟨⟨Rc11, Tc11, 87, ck11, by decide, Or.inl (in_g 1315 (by decide +kernel) (by decide +kernel))⟩, by decide +kernel⟩
theorem fl11_218 : FLc Rc11 218 11 17 0 := ⟨⟨Rc11, Tc11, 87, ck11, by decide, Or.inl (in_g 1316 (by decide +kernel) (by decide +kernel))⟩, by decide +kernel⟩
theorem fp11_215 : FPc Rc11 215 11 16 0 (.int) := ⟨fl11_215.1, fun C T N h => by cases h; exact ⟨rfl, by decide +kernel⟩, fl11_215.2⟩
theorem fp11_218 : FPc Rc11 218 11 17 0 (.int) := ⟨fl11_218.1, fun C T N h => by cases h; exact ⟨rfl, by decide +kernel⟩, fl11_218.2⟩
theorem ml11_221 : MLk 0 Rc11 221 y11_fails prog_13_method_16_code 1 (some (.boolean)) 0 := ⟨in_g 1617 (by decide +kernel) (by decide +kernel), in_g 152 (by decide +kernel) (by decide +kernel), Or.inl (in_g 1614 (by decide +kernel) (by decide +kernel)), ⟨by decide +kernel, by decide +kernel, by decide +kernel⟩, by decide, ⟨in_g 1616 (by decide +kernel) (by decide +kernel), in_g 58 (by decide +kernel) (by decide +kernel)⟩⟩
theorem ml11_225 : MLk 0 Rc11 225 y11_addsFault prog_13_method_17_code 3 none 2 := ⟨in_g 1621 (by decide +kernel) (by decide +kernel), in_g 152 (by decide +kernel) (by decide +kernel), Or.inl (in_g 1618 (by decide +kernel) (by decide +kernel)), ⟨by decide +kernel, by decide +kernel, by decide +kernel⟩, by decide, ⟨in_g 1620 (by decide +kernel) (by decide +kernel), in_g 59 (by decide +kernel) (by decide +kernel)⟩⟩
theorem fl11_229 : FLc Rc11 229 11 21 0 := ⟨⟨Rc11, Tc11, 87, ck11, by decide, Or.inl (in_g 1320 (by decide +kernel) (by decide +kernel))⟩, by decide +kernel⟩
theorem fp11_229 : FPc Rc11 229 11 21 0 (.boolean) := ⟨fl11_229.1, fun C T N h => by cases h; exact ⟨rfl, by decide +kernel⟩, fl11_229.2⟩
theorem ml11_233 : MLk 0 Rc11 233 y11_token prog_13_method_15_code 3 none 0 := ⟨in_g 1591 (by decide +kernel) (by decide +kernel), in_g 152 (by decide +kernel) (by decide +kernel), Or.inl (in_g 1588 (by decide +kernel) (by decide +kernel)), ⟨by decide +kernel, by decide +kernel, by decide +kernel⟩, by decide, ⟨in_g 1590 (by decide +kernel) (by decide +kernel), in_g 52 (by decide +kernel) (by decide +kernel)⟩⟩
theorem ml11_236 : MLk 0 Rc11 236 y11_takeBut prog_13_method_18_code 5 (some (.boolean)) 4 := ⟨in_g 1613 (by decide +kernel) (by decide +kernel), in_g 152 (by decide +kernel) (by decide +kernel), Or.inl (in_g 1610 (by decide +kernel) (by decide +kernel)), ⟨by decide +kernel, by decide +kernel, by decide +kernel⟩, by decide, ⟨in_g 1612 (by decide +kernel) (by decide +kernel), in_g 57 (by decide +kernel) (by decide +kernel)⟩⟩
theorem fl11_240 : FLc Rc11 240 11 20 0 := ⟨⟨Rc11, Tc11, 87, ck11, by decide, Or.inl (in_g 1319 (by decide +kernel) (by decide +kernel))⟩, by decide +kernel⟩
theorem ml11_243 : MLk 1 Rc11 243 y11_greater prog_13_method_5_code 2 (some (.int)) 2 := ⟨in_g 1629 (by decide +kernel) (by decide +kernel), in_g 152 (by decide +kernel) (by decide +kernel), Or.inl (in_g 1627 (by decide +kernel) (by decide +kernel)), ⟨by decide +kernel, by decide +kernel, by decide +kernel⟩, by decide, in_g 1628 (by decide +kernel) (by decide +kernel)⟩
theorem fp11_240 : FPc Rc11 240 11 20 0 (.int) := ⟨fl11_240.1, fun C T N h => by cases h; exact ⟨rfl, by decide +kernel⟩, fl11_240.2⟩
theorem ml11_249 : MLk 1 Rc11 249 y11_numberOf prog_13_method_21_code 5 (some (.int)) 1 := ⟨in_g 1658 (by decide +kernel) (by decide +kernel), in_g 152 (by decide +kernel) (by decide +kernel), Or.inl (in_g 1656 (by decide +kernel) (by decide +kernel)), ⟨by decide +kernel, by decide +kernel, by decide +kernel⟩, by decide, in_g 1657 (by decide +kernel) (by decide +kernel)⟩
theorem ml11_253 : MLk 1 Rc11 253 y11_lesser prog_13_method_6_code 2 (some (.int)) 2 := ⟨in_g 1645 (by decide +kernel) (by decide +kernel), in_g 152 (by decide +kernel) (by decide +kernel), Or.inl (in_g 1643 (by decide +kernel) (by decide +kernel)), ⟨by decide +kernel, by decide +kernel, by decide +kernel⟩, by decide, in_g 1644 (by decide +kernel) (by decide +kernel)⟩
theorem ml11_256 : MLk 0 Rc11 256 y11_isOf prog_13_method_26_code 3 (some (.boolean)) 2 := ⟨in_g 1638 (by decide +kernel) (by decide +kernel), in_g 152 (by decide +kernel) (by decide +kernel), Or.inl (in_g 1635 (by decide +kernel) (by decide +kernel)), ⟨by decide +kernel, by decide +kernel, by decide +kernel⟩, by decide, ⟨in_g 1637 (by decide +kernel) (by decide +kernel), in_g 62 (by decide +kernel) (by decide +kernel)⟩⟩
theorem ml11_259 : MLk 0 Rc11 259 y11_keepRow prog_13_method_24_code 7 none 4 := ⟨in_g 1642 (by decide +kernel) (by decide +kernel), in_g 152 (by decide +kernel) (by decide +kernel), Or.inl (in_g 1639 (by decide +kernel) (by decide +kernel)), ⟨by decide +kernel, by decide +kernel, by decide +kernel⟩, by decide, ⟨in_g 1641 (by decide +kernel) (by decide +kernel), in_g 63 (by decide +kernel) (by decide +kernel)⟩⟩
theorem ml11_267 : MLk 0 Rc11 267 y11_take prog_13_method_19_code 4 (some (.boolean)) 3 := ⟨in_g 1609 (by decide +kernel) (by decide +kernel), in_g 152 (by decide +kernel) (by decide +kernel), Or.inl (in_g 1606 (by decide +kernel) (by decide +kernel)), ⟨by decide +kernel, by decide +kernel, by decide +kernel⟩, by decide, ⟨in_g 1608 (by decide +kernel) (by decide +kernel), in_g 56 (by decide +kernel) (by decide +kernel)⟩⟩
theorem ml11_272 : MLk 0 Rc11 272 y11_takeNode prog_13_method_20_code 3 (some (.boolean)) 2 := ⟨in_g 1626 (by decide +kernel) (by decide +kernel), in_g 152 (by decide +kernel) (by decide +kernel), Or.inl (in_g 1623 (by decide +kernel) (by decide +kernel)), ⟨by decide +kernel, by decide +kernel, by decide +kernel⟩, by decide, ⟨in_g 1625 (by decide +kernel) (by decide +kernel), in_g 60 (by decide +kernel) (by decide +kernel)⟩⟩
theorem ml11_277 : MLk 0 Rc11 277 y11_keepLink prog_13_method_25_code 2 none 0 := ⟨in_g 1634 (by decide +kernel) (by decide +kernel), in_g 152 (by decide +kernel) (by decide +kernel), Or.inl (in_g 1631 (by decide +kernel) (by decide +kernel)), ⟨by decide +kernel, by decide +kernel, by decide +kernel⟩, by decide, ⟨in_g 1633 (by decide +kernel) (by decide +kernel), in_g 61 (by decide +kernel) (by decide +kernel)⟩⟩
theorem ml11_284 : MLk 0 Rc11 284 y11_full prog_13_method_23_code 4 none 3 := ⟨in_g 1651 (by decide +kernel) (by decide +kernel), in_g 152 (by decide +kernel) (by decide +kernel), Or.inl (in_g 1648 (by decide +kernel) (by decide +kernel)), ⟨by decide +kernel, by decide +kernel, by decide +kernel⟩, by decide, ⟨in_g 1650 (by decide +kernel) (by decide +kernel), in_g 64 (by decide +kernel) (by decide +kernel)⟩⟩
theorem ml11_288 : MLk 0 Rc11 288 y11_takeName prog_13_method_22_code 2 (some (.boolean)) 1 := ⟨in_g 1655 (by decide +kernel) (by decide +kernel), in_g 152 (by decide +kernel) (by decide +kernel), Or.inl (in_g 1652 (by decide +kernel) (by decide +kernel)), ⟨by decide +kernel, by decide +kernel, by decide +kernel⟩, by decide, ⟨in_g 1654 (by decide +kernel) (by decide +kernel), in_g 65 (by decide +kernel) (by decide +kernel)⟩⟩
theorem ml11_302 : MLk 0 Rc11 302 y11_deedBy prog_13_method_28_code 3 (some (.int)) 1 := ⟨in_g 1667 (by decide +kernel) (by decide +kernel), in_g 152 (by decide +kernel) (by decide +kernel), Or.inl (in_g 1664 (by decide +kernel) (by decide +kernel)), ⟨by decide +kernel, by decide +kernel, by decide +kernel⟩, by decide, ⟨in_g 1666 (by decide +kernel) (by decide +kernel), in_g 67 (by decide +kernel) (by decide +kernel)⟩⟩
theorem ml11_309 : MLk 0 Rc11 309 y11_netLine prog_13_method_27_code 5 (some (.boolean)) 2 := ⟨in_g 1603 (by decide +kernel) (by decide +kernel), in_g 152 (by decide +kernel) (by decide +kernel), Or.inl (in_g 1600 (by decide +kernel) (by decide +kernel)), ⟨by decide +kernel, by decide +kernel, by decide +kernel⟩, by decide, ⟨in_g 1602 (by decide +kernel) (by decide +kernel), in_g 55 (by decide +kernel) (by decide +kernel)⟩⟩
theorem ml11_313 : MLk 0 Rc11 313 y11_runLine prog_13_method_29_code 5 (some (.boolean)) 2 := ⟨in_g 1663 (by decide +kernel) (by decide +kernel), in_g 152 (by decide +kernel) (by decide +kernel), Or.inl (in_g 1660 (by decide +kernel) (by decide +kernel)), ⟨by decide +kernel, by decide +kernel, by decide +kernel⟩, by decide, ⟨in_g 1662 (by decide +kernel) (by decide +kernel), in_g 66 (by decide +kernel) (by decide +kernel)⟩⟩
theorem ml11_316 : MLk 0 Rc11 316 y11_logLine prog_13_method_30_code 4 (some (.boolean)) 2 := ⟨in_g 1676 (by decide +kernel) (by decide +kernel), in_g 152 (by decide +kernel) (by decide +kernel), Or.inl (in_g 1673 (by decide +kernel) (by decide +kernel)), ⟨by decide +kernel, by decide +kernel, by decide +kernel⟩, by decide, ⟨in_g 1675 (by decide +kernel) (by decide +kernel), in_g 68 (by decide +kernel) (by decide +kernel)⟩⟩
theorem ml11_319 : MLk 0 Rc11 319 y11_allLines prog_13_method_31_code 6 (some (.boolean)) 1 := ⟨in_g 1599 (by decide +kernel) (by decide +kernel), in_g 152 (by decide +kernel) (by decide +kernel), Or.inl (in_g 1596 (by decide +kernel) (by decide +kernel)), ⟨by decide +kernel, by decide +kernel, by decide +kernel⟩, by decide, ⟨in_g 1598 (by decide +kernel) (by decide +kernel), in_g 54 (by decide +kernel) (by decide +kernel)⟩⟩
theorem fp11_192 : FPc Rc11 192 11 10 0 (.int) := ⟨fl11_192.1, fun C T N h => by cases h; exact ⟨rfl, by decide +kernel⟩, fl11_192.2⟩
theorem ml11_322 : MLk 0 Rc11 322 y11_is prog_13_method_10_code 3 (some (.boolean)) 2 := ⟨in_g 1583 (by decide +kernel) (by decide +kernel), in_g 152 (by decide +kernel) (by decide +kernel), Or.inl (in_g 1580 (by decide +kernel) (by decide +kernel)), ⟨by decide +kernel, by decide +kernel, by decide +kernel⟩, by decide, ⟨in_g 1582 (by decide +kernel) (by decide +kernel), in_g 50 (by decide +kernel) (by decide +kernel)⟩⟩
theorem ml11_325 : MLk 0 Rc11 325 y11_readText prog_13_method_32_code 3 (some (.boolean)) 1 := ⟨in_g 1587 (by decide +kernel) (by decide +kernel), in_g 152 (by decide +kernel) (by decide +kernel), Or.inl (in_g 1584 (by decide +kernel) (by decide +kernel)), ⟨by decide +kernel, by decide +kernel, by decide +kernel⟩, by decide, ⟨in_g 1586 (by decide +kernel) (by decide +kernel), in_g 51 (by decide +kernel) (by decide +kernel)⟩⟩
theorem ml11_328 : MLk 0 Rc11 328 y11_keep prog_13_method_33_code 5 none 3 := ⟨in_g 1682 (by decide +kernel) (by decide +kernel), in_g 152 (by decide +kernel) (by decide +kernel), Or.inl (in_g 1679 (by decide +kernel) (by decide +kernel)), ⟨by decide +kernel, by decide +kernel, by decide +kernel⟩, by decide, ⟨in_g 1681 (by decide +kernel) (by decide +kernel), in_g 69 (by decide +kernel) (by decide +kernel)⟩⟩
theorem fl11_332 : FLc Rc11 332 11 22 0 := ⟨⟨Rc11, Tc11, 87, ck11, by decide, Or.inl (in_g 1321 (by decide +kernel) (by decide +kernel))⟩, by decide +kernel⟩
theorem fp11_332 : FPc Rc11 332 11 22 0 (.int) := ⟨fl11_332.1, fun C T N h => by cases h; exact ⟨rfl, by decide +kernel⟩, fl11_332.2⟩
theorem ml11_335 : MLk 0 Rc11 335 y11_ofNet prog_13_method_36_code 2 (some (.int)) 1 := ⟨in_g 1698 (by decide +kernel) (by decide +kernel), in_g 152 (by decide +kernel) (by decide +kernel), Or.inl (in_g 1695 (by decide +kernel) (by decide +kernel)), ⟨by decide +kernel, by decide +kernel, by decide +kernel⟩, by decide, ⟨in_g 1697 (by decide +kernel) (by decide +kernel), in_g 71 (by decide +kernel) (by decide +kernel)⟩⟩
theorem fl11_339 : FLc Rc11 339 11 23 0 := ⟨⟨Rc11, Tc11, 87, ck11, by decide, Or.inl (in_g 1322 (by decide +kernel) (by decide +kernel))⟩, by decide +kernel⟩
theorem fp11_339 : FPc Rc11 339 11 23 0 (.int) := ⟨fl11_339.1, fun C T N h => by cases h; exact ⟨rfl, by decide +kernel⟩, fl11_339.2⟩
theorem fl11_342 : FLc Rc11 342 11 24 0 := ⟨⟨Rc11, Tc11, 87, ck11, by decide, Or.inl (in_g 1323 (by decide +kernel) (by decide +kernel))⟩, by decide +kernel⟩
theorem fp11_342 : FPc Rc11 342 11 24 0 (.int) := ⟨fl11_342.1, fun C T N h => by cases h; exact ⟨rfl, by decide +kernel⟩, fl11_342.2⟩
theorem ml11_345 : MLk 0 Rc11 345 y11_links prog_13_method_39_code 1 (some (.int)) 0 := ⟨in_g 1710 (by decide +kernel) (by decide +kernel), in_g 152 (by decide +kernel) (by decide +kernel), Or.inl (in_g 1707 (by decide +kernel) (by decide +kernel)), ⟨by decide +kernel, by decide +kernel, by decide +kernel⟩, by decide, ⟨in_g 1709 (by decide +kernel) (by decide +kernel), in_g 74 (by decide +kernel) (by decide +kernel)⟩⟩
theorem ml11_348 : MLk 0 Rc11 348 y11_linkAt prog_13_method_40_code 3 (some (.int)) 2 := ⟨in_g 1714 (by decide +kernel) (by decide +kernel), in_g 152 (by decide +kernel) (by decide +kernel), Or.inl (in_g 1711 (by decide +kernel) (by decide +kernel)), ⟨by decide +kernel, by decide +kernel, by decide +kernel⟩, by decide, ⟨in_g 1713 (by decide +kernel) (by decide +kernel), in_g 75 (by decide +kernel) (by decide +kernel)⟩⟩
theorem fl11_351 : FLc Rc11 351 11 26 0 := ⟨⟨Rc11, Tc11, 87, ck11, by decide, Or.inl (in_g 1325 (by decide +kernel) (by decide +kernel))⟩, by decide +kernel⟩
theorem ml11_354 : MLk 1 Rc11 354 y11_lettersOf prog_13_method_47_code 3 (some (.int)) 1 := ⟨in_g 1842 (by decide +kernel) (by decide +kernel), in_g 152 (by decide +kernel) (by decide +kernel), Or.inl (in_g 1840 (by decide +kernel) (by decide +kernel)), ⟨by decide +kernel, by decide +kernel, by decide +kernel⟩, by decide, in_g 1841 (by decide +kernel) (by decide +kernel)⟩
theorem ml11_357 : MLk 0 Rc11 357 y11_routes prog_13_method_41_code 1 (some (.int)) 0 := ⟨in_g 1722 (by decide +kernel) (by decide +kernel), in_g 152 (by decide +kernel) (by decide +kernel), Or.inl (in_g 1719 (by decide +kernel) (by decide +kernel)), ⟨by decide +kernel, by decide +kernel, by decide +kernel⟩, by decide, ⟨in_g 1721 (by decide +kernel) (by decide +kernel), in_g 77 (by decide +kernel) (by decide +kernel)⟩⟩
theorem ml11_360 : MLk 0 Rc11 360 y11_routeAt prog_13_method_42_code 3 (some (.int)) 2 := ⟨in_g 1726 (by decide +kernel) (by decide +kernel), in_g 152 (by decide +kernel) (by decide +kernel), Or.inl (in_g 1723 (by decide +kernel) (by decide +kernel)), ⟨by decide +kernel, by decide +kernel, by decide +kernel⟩, by decide, ⟨in_g 1725 (by decide +kernel) (by decide +kernel), in_g 78 (by decide +kernel) (by decide +kernel)⟩⟩
theorem ml11_363 : MLk 1 Rc11 363 y11_isBeginning prog_13_method_48_code 4 (some (.boolean)) 2 := ⟨in_g 1839 (by decide +kernel) (by decide +kernel), in_g 152 (by decide +kernel) (by decide +kernel), Or.inl (in_g 1837 (by decide +kernel) (by decide +kernel)), ⟨by decide +kernel, by decide +kernel, by decide +kernel⟩, by decide, in_g 1838 (by decide +kernel) (by decide +kernel)⟩
theorem ml11_366 : MLk 0 Rc11 366 y11_serves prog_13_method_43_code 1 (some (.int)) 0 := ⟨in_g 1730 (by decide +kernel) (by decide +kernel), in_g 152 (by decide +kernel) (by decide +kernel), Or.inl (in_g 1727 (by decide +kernel) (by decide +kernel)), ⟨by decide +kernel, by decide +kernel, by decide +kernel⟩, by decide, ⟨in_g 1729 (by decide +kernel) (by decide +kernel), in_g 79 (by decide +kernel) (by decide +kernel)⟩⟩
theorem ml11_369 : MLk 0 Rc11 369 y11_serveAt prog_13_method_44_code 3 (some (.int)) 2 := ⟨in_g 1734 (by decide +kernel) (by decide +kernel), in_g 152 (by decide +kernel) (by decide +kernel), Or.inl (in_g 1731 (by decide +kernel) (by decide +kernel)), ⟨by decide +kernel, by decide +kernel, by decide +kernel⟩, by decide, ⟨in_g 1733 (by decide +kernel) (by decide +kernel), in_g 80 (by decide +kernel) (by decide +kernel)⟩⟩
theorem ml11_372 : MLk 0 Rc11 372 y11_hasNet prog_13_method_37_code 2 (some (.boolean)) 1 := ⟨in_g 1694 (by decide +kernel) (by decide +kernel), in_g 152 (by decide +kernel) (by decide +kernel), Or.inl (in_g 1691 (by decide +kernel) (by decide +kernel)), ⟨by decide +kernel, by decide +kernel, by decide +kernel⟩, by decide, ⟨in_g 1693 (by decide +kernel) (by decide +kernel), in_g 70 (by decide +kernel) (by decide +kernel)⟩⟩
theorem ml11_375 : MLk 0 Rc11 375 y11_isNode prog_13_method_38_code 2 (some (.boolean)) 1 := ⟨in_g 1702 (by decide +kernel) (by decide +kernel), in_g 152 (by decide +kernel) (by decide +kernel), Or.inl (in_g 1699 (by decide +kernel) (by decide +kernel)), ⟨by decide +kernel, by decide +kernel, by decide +kernel⟩, by decide, ⟨in_g 1701 (by decide +kernel) (by decide +kernel), in_g 72 (by decide +kernel) (by decide +kernel)⟩⟩
theorem ml11_378 : MLk 0 Rc11 378 y11_layLinks prog_13_method_45_code 3 none 1 := ⟨in_g 1706 (by decide +kernel) (by decide +kernel), in_g 152 (by decide +kernel) (by decide +kernel), Or.inl (in_g 1703 (by decide +kernel) (by decide +kernel)), ⟨by decide +kernel, by decide +kernel, by decide +kernel⟩, by decide, ⟨in_g 1705 (by decide +kernel) (by decide +kernel), in_g 73 (by decide +kernel) (by decide +kernel)⟩⟩
theorem ml11_381 : MLk 0 Rc11 381 y11_ofPlace prog_13_method_53_code 3 (some (.int)) 2 := ⟨in_g 1718 (by decide +kernel) (by decide +kernel), in_g 152 (by decide +kernel) (by decide +kernel), Or.inl (in_g 1715 (by decide +kernel) (by decide +kernel)), ⟨by decide +kernel, by decide +kernel, by decide +kernel⟩, by decide, ⟨in_g 1717 (by decide +kernel) (by decide +kernel), in_g 76 (by decide +kernel) (by decide +kernel)⟩⟩
theorem fp11_351 : FPc Rc11 351 11 26 0 (.int) := ⟨fl11_351.1, fun C T N h => by cases h; exact ⟨rfl, by decide +kernel⟩, fl11_351.2⟩
theorem fl11_384 : FLc Rc11 384 11 27 0 := ⟨⟨Rc11, Tc11, 87, ck11, by decide, Or.inl (in_g 1326 (by decide +kernel) (by decide +kernel))⟩, by decide +kernel⟩
theorem fp11_384 : FPc Rc11 384 11 27 0 (.int) := ⟨fl11_384.1, fun C T N h => by cases h; exact ⟨rfl, by decide +kernel⟩, fl11_384.2⟩
theorem fl11_387 : FLc Rc11 387 11 45 0 := ⟨⟨Rc11, Tc11, 87, ck11, by decide, Or.inl (in_g 1344 (by decide +kernel) (by decide +kernel))⟩, by decide +kernel⟩
theorem fp11_387 : FPc Rc11 387 11 45 0 (.int) := ⟨fl11_387.1, fun C T N h => by cases h; exact ⟨rfl, by decide +kernel⟩, fl11_387.2⟩
theorem fl11_390 : FLc Rc11 390 11 65 0 := ⟨⟨Rc11, Tc11, 87, ck11, by decide, Or.inl (in_g 1364 (by decide +kernel) (by decide +kernel))⟩, by decide +kernel⟩
theorem fp11_390 : FPc Rc11 390 11 65 0 (.int) := ⟨fl11_390.1, fun C T N h => by cases h; exact ⟨rfl, by decide +kernel⟩, fl11_390.2⟩
theorem fl11_393 : FLc Rc11 393 11 66 0 := ⟨⟨Rc11, Tc11, 87, ck11, by decide, Or.inl (in_g 1365 (by decide +kernel) (by decide +kernel))⟩, by decide +kernel⟩
theorem fp11_393 : FPc Rc11 393 11 66 0 (.int) := ⟨fl11_393.1, fun C T N h => by cases h; exact ⟨rfl, by decide +kernel⟩, fl11_393.2⟩
theorem fl11_396 : FLc Rc11 396 11 67 0 := ⟨⟨Rc11, Tc11, 87, ck11, by decide, Or.inl (in_g 1366 (by decide +kernel) (by decide +kernel))⟩, by decide +kernel⟩
theorem fp11_396 : FPc Rc11 396 11 67 0 (.int) := ⟨fl11_396.1, fun C T N h => by cases h; exact ⟨rfl, by decide +kernel⟩, fl11_396.2⟩
theorem fl11_399 : FLc Rc11 399 11 68 0 := ⟨⟨Rc11, Tc11, 87, ck11, by decide, Or.inl (in_g 1367 (by decide +kernel) (by decide +kernel))⟩, by decide +kernel⟩
theorem fp11_399 : FPc Rc11 399 11 68 0 (.int) := ⟨fl11_399.1, fun C T N h => by cases h; exact ⟨rfl, by decide +kernel⟩, fl11_399.2⟩
theorem fl11_402 : FLc Rc11 402 11 69 0 := ⟨⟨Rc11, Tc11, 87, ck11, by decide, Or.inl (in_g 1368 (by decide +kernel) (by decide +kernel))⟩, by decide +kernel⟩
theorem fp11_402 : FPc Rc11 402 11 69 0 (.int) := ⟨fl11_402.1, fun C T N h => by cases h; exact ⟨rfl, by decide +kernel⟩, fl11_402.2⟩
theorem fl11_405 : FLc Rc11 405 11 70 0 := ⟨⟨Rc11, Tc11, 87, ck11, by decide, Or.inl (in_g 1369 (by decide +kernel) (by decide +kernel))⟩, by decide +kernel⟩
theorem fp11_405 : FPc Rc11 405 11 70 0 (.int) := ⟨fl11_405.1, fun C T N h => by cases h; exact ⟨rfl, by decide +kernel⟩, fl11_405.2⟩
theorem ml11_408 : MLk 0 Rc11 408 y11_isUp prog_13_method_46_code 4 (some (.boolean)) 2 := ⟨in_g 1809 (by decide +kernel) (by decide +kernel), in_g 152 (by decide +kernel) (by decide +kernel), Or.inl (in_g 1806 (by decide +kernel) (by decide +kernel)), ⟨by decide +kernel, by decide +kernel, by decide +kernel⟩, by decide, ⟨in_g 1808 (by decide +kernel) (by decide +kernel), in_g 96 (by decide +kernel) (by decide +kernel)⟩⟩
theorem fl11_411 : FLc Rc11 411 11 71 0 := ⟨⟨Rc11, Tc11, 87, ck11, by decide, Or.inl (in_g 1370 (by decide +kernel) (by decide +kernel))⟩, by decide +kernel⟩
theorem fl11_414 : FLc Rc11 414 11 72 0 := ⟨⟨Rc11, Tc11, 87, ck11, by decide, Or.inl (in_g 1371 (by decide +kernel) (by decide +kernel))⟩, by decide +kernel⟩
theorem fl11_417 : FLc Rc11 417 11 73 0 := ⟨⟨Rc11, Tc11, 87, ck11, by decide, Or.inl (in_g 1372 (by decide +kernel) (by decide +kernel))⟩, by decide +kernel⟩
theorem fl11_420 : FLc Rc11 420 11 74 0 := ⟨⟨Rc11, Tc11, 87, ck11, by decide, Or.inl (in_g 1373 (by decide +kernel) (by decide +kernel))⟩, by decide +kernel⟩
theorem ml11_423 : MLk 0 Rc11 423 y11_gets prog_13_method_57_code 2 none 1 := ⟨in_g 1832 (by decide +kernel) (by decide +kernel), in_g 152 (by decide +kernel) (by decide +kernel), Or.inl (in_g 1829 (by decide +kernel) (by decide +kernel)), ⟨by decide +kernel, by decide +kernel, by decide +kernel⟩, by decide, ⟨in_g 1831 (by decide +kernel) (by decide +kernel), in_g 101 (by decide +kernel) (by decide +kernel)⟩⟩
theorem ml11_426 : MLk 0 Rc11 426 y11_sends prog_13_method_56_code 7 none 6 := ⟨in_g 1805 (by decide +kernel) (by decide +kernel), in_g 152 (by decide +kernel) (by decide +kernel), Or.inl (in_g 1802 (by decide +kernel) (by decide +kernel)), ⟨by decide +kernel, by decide +kernel, by decide +kernel⟩, by decide, ⟨in_g 1804 (by decide +kernel) (by decide +kernel), in_g 95 (by decide +kernel) (by decide +kernel)⟩⟩
theorem ml11_430 : MLk 0 Rc11 430 y11_refused prog_13_method_58_code 2 none 1 := ⟨in_g 1801 (by decide +kernel) (by decide +kernel), in_g 152 (by decide +kernel) (by decide +kernel), Or.inl (in_g 1798 (by decide +kernel) (by decide +kernel)), ⟨by decide +kernel, by decide +kernel, by decide +kernel⟩, by decide, ⟨in_g 1800 (by decide +kernel) (by decide +kernel), in_g 94 (by decide +kernel) (by decide +kernel)⟩⟩
theorem fp11_411 : FPc Rc11 411 11 71 0 (.int) := ⟨fl11_411.1, fun C T N h => by cases h; exact ⟨rfl, by decide +kernel⟩, fl11_411.2⟩
theorem fp11_414 : FPc Rc11 414 11 72 0 (.int) := ⟨fl11_414.1, fun C T N h => by cases h; exact ⟨rfl, by decide +kernel⟩, fl11_414.2⟩
theorem fp11_417 : FPc Rc11 417 11 73 0 (.int) := ⟨fl11_417.1, fun C T N h => by cases h; exact ⟨rfl, by decide +kernel⟩, fl11_417.2⟩
theorem fp11_420 : FPc Rc11 420 11 74 0 (.int) := ⟨fl11_420.1, fun C T N h => by cases h; exact ⟨rfl, by decide +kernel⟩, fl11_420.2⟩
theorem ml11_433 : MLk 0 Rc11 433 y11_nackTo prog_13_method_60_code 5 none 4 := ⟨in_g 1797 (by decide +kernel) (by decide +kernel), in_g 152 (by decide +kernel) (by decide +kernel), Or.inl (in_g 1794 (by decide +kernel) (by decide +kernel)), ⟨by decide +kernel, by decide +kernel, by decide +kernel⟩, by decide, ⟨in_g 1796 (by decide +kernel) (by decide +kernel), in_g 93 (by decide +kernel) (by decide +kernel)⟩⟩
theorem ml11_436 : MLk 0 Rc11 436 y11_storedAt prog_13_method_62_code 4 (some (.int)) 2 := ⟨in_g 1786 (by decide +kernel) (by decide +kernel), in_g 152 (by decide +kernel) (by decide +kernel), Or.inl (in_g 1783 (by decide +kernel) (by decide +kernel)), ⟨by decide +kernel, by decide +kernel, by decide +kernel⟩, by decide, ⟨in_g 1785 (by decide +kernel) (by decide +kernel), in_g 91 (by decide +kernel) (by decide +kernel)⟩⟩
theorem ml11_439 : MLk 0 Rc11 439 y11_takesOut prog_13_method_63_code 4 none 2 := ⟨in_g 1824 (by decide +kernel) (by decide +kernel), in_g 152 (by decide +kernel) (by decide +kernel), Or.inl (in_g 1821 (by decide +kernel) (by decide +kernel)), ⟨by decide +kernel, by decide +kernel, by decide +kernel⟩, by decide, ⟨in_g 1823 (by decide +kernel) (by decide +kernel), in_g 99 (by decide +kernel) (by decide +kernel)⟩⟩
theorem ml11_442 : MLk 0 Rc11 442 y11_longestAt prog_13_method_50_code 6 (some (.int)) 2 := ⟨in_g 1866 (by decide +kernel) (by decide +kernel), in_g 152 (by decide +kernel) (by decide +kernel), Or.inl (in_g 1863 (by decide +kernel) (by decide +kernel)), ⟨by decide +kernel, by decide +kernel, by decide +kernel⟩, by decide, ⟨in_g 1865 (by decide +kernel) (by decide +kernel), in_g 108 (by decide +kernel) (by decide +kernel)⟩⟩
theorem ml11_446 : MLk 0 Rc11 446 y11_isRoute prog_13_method_51_code 5 (some (.boolean)) 4 := ⟨in_g 1871 (by decide +kernel) (by decide +kernel), in_g 152 (by decide +kernel) (by decide +kernel), Or.inl (in_g 1868 (by decide +kernel) (by decide +kernel)), ⟨by decide +kernel, by decide +kernel, by decide +kernel⟩, by decide, ⟨in_g 1870 (by decide +kernel) (by decide +kernel), in_g 109 (by decide +kernel) (by decide +kernel)⟩⟩
theorem ml11_449 : MLk 0 Rc11 449 y11_nextWay prog_13_method_68_code 11 (some (.int)) 3 := ⟨in_g 1862 (by decide +kernel) (by decide +kernel), in_g 152 (by decide +kernel) (by decide +kernel), Or.inl (in_g 1859 (by decide +kernel) (by decide +kernel)), ⟨by decide +kernel, by decide +kernel, by decide +kernel⟩, by decide, ⟨in_g 1861 (by decide +kernel) (by decide +kernel), in_g 107 (by decide +kernel) (by decide +kernel)⟩⟩
theorem ml11_453 : MLk 0 Rc11 453 y11_joins prog_13_method_70_code 4 none 3 := ⟨in_g 1850 (by decide +kernel) (by decide +kernel), in_g 152 (by decide +kernel) (by decide +kernel), Or.inl (in_g 1847 (by decide +kernel) (by decide +kernel)), ⟨by decide +kernel, by decide +kernel, by decide +kernel⟩, by decide, ⟨in_g 1849 (by decide +kernel) (by decide +kernel), in_g 104 (by decide +kernel) (by decide +kernel)⟩⟩
theorem ml11_456 : MLk 0 Rc11 456 y11_goesOn prog_13_method_69_code 4 (some (.boolean)) 2 := ⟨in_g 1858 (by decide +kernel) (by decide +kernel), in_g 152 (by decide +kernel) (by decide +kernel), Or.inl (in_g 1855 (by decide +kernel) (by decide +kernel)), ⟨by decide +kernel, by decide +kernel, by decide +kernel⟩, by decide, ⟨in_g 1857 (by decide +kernel) (by decide +kernel), in_g 106 (by decide +kernel) (by decide +kernel)⟩⟩
theorem ml11_459 : MLk 0 Rc11 459 y11_removes prog_13_method_66_code 4 none 2 := ⟨in_g 1875 (by decide +kernel) (by decide +kernel), in_g 152 (by decide +kernel) (by decide +kernel), Or.inl (in_g 1872 (by decide +kernel) (by decide +kernel)), ⟨by decide +kernel, by decide +kernel, by decide +kernel⟩, by decide, ⟨in_g 1874 (by decide +kernel) (by decide +kernel), in_g 110 (by decide +kernel) (by decide +kernel)⟩⟩
theorem ml11_462 : MLk 0 Rc11 462 y11_firstNack prog_13_method_61_code 6 none 5 := ⟨in_g 1793 (by decide +kernel) (by decide +kernel), in_g 152 (by decide +kernel) (by decide +kernel), Or.inl (in_g 1790 (by decide +kernel) (by decide +kernel)), ⟨by decide +kernel, by decide +kernel, by decide +kernel⟩, by decide, ⟨in_g 1792 (by decide +kernel) (by decide +kernel), in_g 92 (by decide +kernel) (by decide +kernel)⟩⟩
theorem ml11_466 : MLk 0 Rc11 466 y11_putsLast prog_13_method_64_code 7 none 4 := ⟨in_g 1820 (by decide +kernel) (by decide +kernel), in_g 152 (by decide +kernel) (by decide +kernel), Or.inl (in_g 1817 (by decide +kernel) (by decide +kernel)), ⟨by decide +kernel, by decide +kernel, by decide +kernel⟩, by decide, ⟨in_g 1819 (by decide +kernel) (by decide +kernel), in_g 98 (by decide +kernel) (by decide +kernel)⟩⟩
theorem ml11_469 : MLk 0 Rc11 469 y11_dataTo prog_13_method_59_code 4 none 3 := ⟨in_g 1828 (by decide +kernel) (by decide +kernel), in_g 152 (by decide +kernel) (by decide +kernel), Or.inl (in_g 1825 (by decide +kernel) (by decide +kernel)), ⟨by decide +kernel, by decide +kernel, by decide +kernel⟩, by decide, ⟨in_g 1827 (by decide +kernel) (by decide +kernel), in_g 100 (by decide +kernel) (by decide +kernel)⟩⟩
theorem ml11_472 : MLk 0 Rc11 472 y11_entryOf prog_13_method_65_code 5 (some (.int)) 3 := ⟨in_g 1782 (by decide +kernel) (by decide +kernel), in_g 152 (by decide +kernel) (by decide +kernel), Or.inl (in_g 1779 (by decide +kernel) (by decide +kernel)), ⟨by decide +kernel, by decide +kernel, by decide +kernel⟩, by decide, ⟨in_g 1781 (by decide +kernel) (by decide +kernel), in_g 90 (by decide +kernel) (by decide +kernel)⟩⟩
theorem ml11_475 : MLk 1 Rc11 475 y11_hasL prog_13_method_67_code 3 (some (.boolean)) 2 := ⟨in_g 1789 (by decide +kernel) (by decide +kernel), in_g 152 (by decide +kernel) (by decide +kernel), Or.inl (in_g 1787 (by decide +kernel) (by decide +kernel)), ⟨by decide +kernel, by decide +kernel, by decide +kernel⟩, by decide, in_g 1788 (by decide +kernel) (by decide +kernel)⟩
theorem ml11_478 : MLk 0 Rc11 478 y11_fromStore prog_13_method_72_code 6 none 4 := ⟨in_g 1816 (by decide +kernel) (by decide +kernel), in_g 152 (by decide +kernel) (by decide +kernel), Or.inl (in_g 1813 (by decide +kernel) (by decide +kernel)), ⟨by decide +kernel, by decide +kernel, by decide +kernel⟩, by decide, ⟨in_g 1815 (by decide +kernel) (by decide +kernel), in_g 97 (by decide +kernel) (by decide +kernel)⟩⟩
theorem ml11_481 : MLk 0 Rc11 481 y11_serveFor prog_13_method_52_code 6 (some (.int)) 2 := ⟨in_g 1836 (by decide +kernel) (by decide +kernel), in_g 152 (by decide +kernel) (by decide +kernel), Or.inl (in_g 1833 (by decide +kernel) (by decide +kernel)), ⟨by decide +kernel, by decide +kernel, by decide +kernel⟩, by decide, ⟨in_g 1835 (by decide +kernel) (by decide +kernel), in_g 102 (by decide +kernel) (by decide +kernel)⟩⟩
theorem ml11_484 : MLk 0 Rc11 484 y11_fromServer prog_13_method_73_code 5 none 4 := ⟨in_g 1846 (by decide +kernel) (by decide +kernel), in_g 152 (by decide +kernel) (by decide +kernel), Or.inl (in_g 1843 (by decide +kernel) (by decide +kernel)), ⟨by decide +kernel, by decide +kernel, by decide +kernel⟩, by decide, ⟨in_g 1845 (by decide +kernel) (by decide +kernel), in_g 103 (by decide +kernel) (by decide +kernel)⟩⟩
theorem ml11_487 : MLk 0 Rc11 487 y11_makesEntry prog_13_method_71_code 7 none 5 := ⟨in_g 1854 (by decide +kernel) (by decide +kernel), in_g 152 (by decide +kernel) (by decide +kernel), Or.inl (in_g 1851 (by decide +kernel) (by decide +kernel)), ⟨by decide +kernel, by decide +kernel, by decide +kernel⟩, by decide, ⟨in_g 1853 (by decide +kernel) (by decide +kernel), in_g 105 (by decide +kernel) (by decide +kernel)⟩⟩
theorem ml11_490 : MLk 0 Rc11 490 y11_firstFor prog_13_method_76_code 5 (some (.int)) 3 := ⟨in_g 1899 (by decide +kernel) (by decide +kernel), in_g 152 (by decide +kernel) (by decide +kernel), Or.inl (in_g 1896 (by decide +kernel) (by decide +kernel)), ⟨by decide +kernel, by decide +kernel, by decide +kernel⟩, by decide, ⟨in_g 1898 (by decide +kernel) (by decide +kernel), in_g 116 (by decide +kernel) (by decide +kernel)⟩⟩
theorem ml11_494 : MLk 0 Rc11 494 y11_answers prog_13_method_75_code 4 none 2 := ⟨in_g 1903 (by decide +kernel) (by decide +kernel), in_g 152 (by decide +kernel) (by decide +kernel), Or.inl (in_g 1900 (by decide +kernel) (by decide +kernel)), ⟨by decide +kernel, by decide +kernel, by decide +kernel⟩, by decide, ⟨in_g 1902 (by decide +kernel) (by decide +kernel), in_g 117 (by decide +kernel) (by decide +kernel)⟩⟩
theorem ml11_497 : MLk 0 Rc11 497 y11_interest prog_13_method_74_code 8 none 5 := ⟨in_g 1778 (by decide +kernel) (by decide +kernel), in_g 152 (by decide +kernel) (by decide +kernel), Or.inl (in_g 1775 (by decide +kernel) (by decide +kernel)), ⟨by decide +kernel, by decide +kernel, by decide +kernel⟩, by decide, ⟨in_g 1777 (by decide +kernel) (by decide +kernel), in_g 89 (by decide +kernel) (by decide +kernel)⟩⟩
theorem ml11_500 : MLk 0 Rc11 500 y11_dataCome prog_13_method_77_code 6 none 3 := ⟨in_g 1895 (by decide +kernel) (by decide +kernel), in_g 152 (by decide +kernel) (by decide +kernel), Or.inl (in_g 1892 (by decide +kernel) (by decide +kernel)), ⟨by decide +kernel, by decide +kernel, by decide +kernel⟩, by decide, ⟨in_g 1894 (by decide +kernel) (by decide +kernel), in_g 115 (by decide +kernel) (by decide +kernel)⟩⟩
theorem ml11_503 : MLk 0 Rc11 503 y11_nackComes prog_13_method_78_code 7 none 4 := ⟨in_g 1907 (by decide +kernel) (by decide +kernel), in_g 152 (by decide +kernel) (by decide +kernel), Or.inl (in_g 1904 (by decide +kernel) (by decide +kernel)), ⟨by decide +kernel, by decide +kernel, by decide +kernel⟩, by decide, ⟨in_g 1906 (by decide +kernel) (by decide +kernel), in_g 118 (by decide +kernel) (by decide +kernel)⟩⟩
theorem ml11_506 : MLk 0 Rc11 506 y11_endsAll prog_13_method_79_code 5 none 0 := ⟨in_g 1887 (by decide +kernel) (by decide +kernel), in_g 152 (by decide +kernel) (by decide +kernel), Or.inl (in_g 1884 (by decide +kernel) (by decide +kernel)), ⟨by decide +kernel, by decide +kernel, by decide +kernel⟩, by decide, ⟨in_g 1886 (by decide +kernel) (by decide +kernel), in_g 113 (by decide +kernel) (by decide +kernel)⟩⟩
theorem ml11_509 : MLk 0 Rc11 509 y11_comes prog_13_method_80_code 2 none 1 := ⟨in_g 1891 (by decide +kernel) (by decide +kernel), in_g 152 (by decide +kernel) (by decide +kernel), Or.inl (in_g 1888 (by decide +kernel) (by decide +kernel)), ⟨by decide +kernel, by decide +kernel, by decide +kernel⟩, by decide, ⟨in_g 1890 (by decide +kernel) (by decide +kernel), in_g 114 (by decide +kernel) (by decide +kernel)⟩⟩
theorem ml11_512 : MLk 0 Rc11 512 y11_moves prog_13_method_81_code 3 none 2 := ⟨in_g 1911 (by decide +kernel) (by decide +kernel), in_g 152 (by decide +kernel) (by decide +kernel), Or.inl (in_g 1908 (by decide +kernel) (by decide +kernel)), ⟨by decide +kernel, by decide +kernel, by decide +kernel⟩, by decide, ⟨in_g 1910 (by decide +kernel) (by decide +kernel), in_g 119 (by decide +kernel) (by decide +kernel)⟩⟩
theorem ml11_515 : MLk 0 Rc11 515 y11_goesBy prog_13_method_82_code 4 none 0 := ⟨in_g 1883 (by decide +kernel) (by decide +kernel), in_g 152 (by decide +kernel) (by decide +kernel), Or.inl (in_g 1880 (by decide +kernel) (by decide +kernel)), ⟨by decide +kernel, by decide +kernel, by decide +kernel⟩, by decide, ⟨in_g 1882 (by decide +kernel) (by decide +kernel), in_g 112 (by decide +kernel) (by decide +kernel)⟩⟩
theorem ml11_518 : MLk 0 Rc11 518 y11_asks prog_13_method_84_code 5 (some (.boolean)) 4 := ⟨in_g 1774 (by decide +kernel) (by decide +kernel), in_g 152 (by decide +kernel) (by decide +kernel), Or.inl (in_g 1771 (by decide +kernel) (by decide +kernel)), ⟨by decide +kernel, by decide +kernel, by decide +kernel⟩, by decide, ⟨in_g 1773 (by decide +kernel) (by decide +kernel), in_g 88 (by decide +kernel) (by decide +kernel)⟩⟩
theorem ml11_521 : MLk 0 Rc11 521 y11_waits prog_13_method_83_code 3 (some (.boolean)) 1 := ⟨in_g 1879 (by decide +kernel) (by decide +kernel), in_g 152 (by decide +kernel) (by decide +kernel), Or.inl (in_g 1876 (by decide +kernel) (by decide +kernel)), ⟨by decide +kernel, by decide +kernel, by decide +kernel⟩, by decide, ⟨in_g 1878 (by decide +kernel) (by decide +kernel), in_g 111 (by decide +kernel) (by decide +kernel)⟩⟩
theorem ml11_524 : MLk 0 Rc11 524 y11_changes prog_13_method_85_code 5 (some (.boolean)) 3 := ⟨in_g 1915 (by decide +kernel) (by decide +kernel), in_g 152 (by decide +kernel) (by decide +kernel), Or.inl (in_g 1912 (by decide +kernel) (by decide +kernel)), ⟨by decide +kernel, by decide +kernel, by decide +kernel⟩, by decide, ⟨in_g 1914 (by decide +kernel) (by decide +kernel), in_g 120 (by decide +kernel) (by decide +kernel)⟩⟩
theorem fl11_528 : FLc Rc11 528 11 75 0 := ⟨⟨Rc11, Tc11, 87, ck11, by decide, Or.inl (in_g 1374 (by decide +kernel) (by decide +kernel))⟩, by decide +kernel⟩
theorem fp11_528 : FPc Rc11 528 11 75 0 (.int) := ⟨fl11_528.1, fun C T N h => by cases h; exact ⟨rfl, by decide +kernel⟩, fl11_528.2⟩
theorem ml11_531 : MLk 0 Rc11 531 y11_hasRun prog_13_method_89_code 2 (some (.boolean)) 1 := ⟨in_g 1742 (by decide +kernel) (by decide +kernel), in_g 152 (by decide +kernel) (by decide +kernel), Or.inl (in_g 1739 (by decide +kernel) (by decide +kernel)), ⟨by decide +kernel, by decide +kernel, by decide +kernel⟩, by decide, ⟨in_g 1741 (by decide +kernel) (by decide +kernel), in_g 81 (by decide +kernel) (by decide +kernel)⟩⟩
theorem ml11_534 : MLk 0 Rc11 534 y11_deeds prog_13_method_87_code 1 (some (.int)) 0 := ⟨in_g 1746 (by decide +kernel) (by decide +kernel), in_g 152 (by decide +kernel) (by decide +kernel), Or.inl (in_g 1743 (by decide +kernel) (by decide +kernel)), ⟨by decide +kernel, by decide +kernel, by decide +kernel⟩, by decide, ⟨in_g 1745 (by decide +kernel) (by decide +kernel), in_g 82 (by decide +kernel) (by decide +kernel)⟩⟩
theorem ml11_537 : MLk 0 Rc11 537 y11_deedOf prog_13_method_88_code 3 (some (.int)) 2 := ⟨in_g 1750 (by decide +kernel) (by decide +kernel), in_g 152 (by decide +kernel) (by decide +kernel), Or.inl (in_g 1747 (by decide +kernel) (by decide +kernel)), ⟨by decide +kernel, by decide +kernel, by decide +kernel⟩, by decide, ⟨in_g 1749 (by decide +kernel) (by decide +kernel), in_g 83 (by decide +kernel) (by decide +kernel)⟩⟩
theorem fl11_540 : FLc Rc11 540 11 76 0 := ⟨⟨Rc11, Tc11, 87, ck11, by decide, Or.inl (in_g 1375 (by decide +kernel) (by decide +kernel))⟩, by decide +kernel⟩
theorem fp11_540 : FPc Rc11 540 11 76 0 (.int) := ⟨fl11_540.1, fun C T N h => by cases h; exact ⟨rfl, by decide +kernel⟩, fl11_540.2⟩
theorem ml11_543 : MLk 0 Rc11 543 y11_does prog_13_method_86_code 5 (some (.boolean)) 4 := ⟨in_g 1770 (by decide +kernel) (by decide +kernel), in_g 152 (by decide +kernel) (by decide +kernel), Or.inl (in_g 1767 (by decide +kernel) (by decide +kernel)), ⟨by decide +kernel, by decide +kernel, by decide +kernel⟩, by decide, ⟨in_g 1769 (by decide +kernel) (by decide +kernel), in_g 87 (by decide +kernel) (by decide +kernel)⟩⟩
theorem ml11_546 : MLk 0 Rc11 546 y11_entriesAll prog_13_method_91_code 3 (some (.int)) 0 := ⟨in_g 1919 (by decide +kernel) (by decide +kernel), in_g 152 (by decide +kernel) (by decide +kernel), Or.inl (in_g 1916 (by decide +kernel) (by decide +kernel)), ⟨by decide +kernel, by decide +kernel, by decide +kernel⟩, by decide, ⟨in_g 1918 (by decide +kernel) (by decide +kernel), in_g 121 (by decide +kernel) (by decide +kernel)⟩⟩
theorem ml11_549 : MLk 0 Rc11 549 y11_begin prog_13_method_55_code 3 none 1 := ⟨in_g 1762 (by decide +kernel) (by decide +kernel), in_g 152 (by decide +kernel) (by decide +kernel), Or.inl (in_g 1759 (by decide +kernel) (by decide +kernel)), ⟨by decide +kernel, by decide +kernel, by decide +kernel⟩, by decide, ⟨in_g 1761 (by decide +kernel) (by decide +kernel), in_g 85 (by decide +kernel) (by decide +kernel)⟩⟩
theorem ml11_552 : MLk 0 Rc11 552 y11_lay prog_13_method_93_code 3 (some (.boolean)) 2 := ⟨in_g 1758 (by decide +kernel) (by decide +kernel), in_g 152 (by decide +kernel) (by decide +kernel), Or.inl (in_g 1755 (by decide +kernel) (by decide +kernel)), ⟨by decide +kernel, by decide +kernel, by decide +kernel⟩, by decide, ⟨in_g 1757 (by decide +kernel) (by decide +kernel), in_g 84 (by decide +kernel) (by decide +kernel)⟩⟩
theorem ml11_555 : MLk 0 Rc11 555 y11_play prog_13_method_92_code 3 (some (.int)) 1 := ⟨in_g 1766 (by decide +kernel) (by decide +kernel), in_g 152 (by decide +kernel) (by decide +kernel), Or.inl (in_g 1763 (by decide +kernel) (by decide +kernel)), ⟨by decide +kernel, by decide +kernel, by decide +kernel⟩, by decide, ⟨in_g 1765 (by decide +kernel) (by decide +kernel), in_g 86 (by decide +kernel) (by decide +kernel)⟩⟩
theorem ml11_558 : MLk 1 Rc11 558 y11_ones prog_13_method_7_code 3 (some (.int)) 1 := ⟨in_g 1934 (by decide +kernel) (by decide +kernel), in_g 152 (by decide +kernel) (by decide +kernel), Or.inl (in_g 1932 (by decide +kernel) (by decide +kernel)), ⟨by decide +kernel, by decide +kernel, by decide +kernel⟩, by decide, in_g 1933 (by decide +kernel) (by decide +kernel)⟩
theorem ml11_561 : MLk 1 Rc11 561 y11_onesL prog_13_method_96_code 4 (some (.int)) 1 := ⟨in_g 1937 (by decide +kernel) (by decide +kernel), in_g 152 (by decide +kernel) (by decide +kernel), Or.inl (in_g 1935 (by decide +kernel) (by decide +kernel)), ⟨by decide +kernel, by decide +kernel, by decide +kernel⟩, by decide, in_g 1936 (by decide +kernel) (by decide +kernel)⟩
theorem ml11_564 : MLk 0 Rc11 564 y11_layState prog_13_method_95_code 4 (some (.boolean)) 3 := ⟨in_g 1927 (by decide +kernel) (by decide +kernel), in_g 152 (by decide +kernel) (by decide +kernel), Or.inl (in_g 1924 (by decide +kernel) (by decide +kernel)), ⟨by decide +kernel, by decide +kernel, by decide +kernel⟩, by decide, ⟨in_g 1926 (by decide +kernel) (by decide +kernel), in_g 122 (by decide +kernel) (by decide +kernel)⟩⟩
theorem ml11_567 : MLk 0 Rc11 567 y11_ofState prog_13_method_97_code 4 (some (.int)) 1 := ⟨in_g 1931 (by decide +kernel) (by decide +kernel), in_g 152 (by decide +kernel) (by decide +kernel), Or.inl (in_g 1928 (by decide +kernel) (by decide +kernel)), ⟨by decide +kernel, by decide +kernel, by decide +kernel⟩, by decide, ⟨in_g 1930 (by decide +kernel) (by decide +kernel), in_g 123 (by decide +kernel) (by decide +kernel)⟩⟩
theorem ml11_570 : MLk 0 Rc11 570 y11_ofAsk prog_13_method_101_code 4 (some (.int)) 2 := ⟨in_g 1953 (by decide +kernel) (by decide +kernel), in_g 152 (by decide +kernel) (by decide +kernel), Or.inl (in_g 1950 (by decide +kernel) (by decide +kernel)), ⟨by decide +kernel, by decide +kernel, by decide +kernel⟩, by decide, ⟨in_g 1952 (by decide +kernel) (by decide +kernel), in_g 124 (by decide +kernel) (by decide +kernel)⟩⟩
theorem ml11_573 : MLk 1 Rc11 573 y11_isName prog_13_method_49_code 3 (some (.boolean)) 1 := ⟨in_g 1960 (by decide +kernel) (by decide +kernel), in_g 152 (by decide +kernel) (by decide +kernel), Or.inl (in_g 1958 (by decide +kernel) (by decide +kernel)), ⟨by decide +kernel, by decide +kernel, by decide +kernel⟩, by decide, in_g 1959 (by decide +kernel) (by decide +kernel)⟩
theorem ml11_576 : MLk 0 Rc11 576 y11_rowsAt prog_13_method_104_code 7 (some (.int)) 1 := ⟨in_g 1968 (by decide +kernel) (by decide +kernel), in_g 152 (by decide +kernel) (by decide +kernel), Or.inl (in_g 1965 (by decide +kernel) (by decide +kernel)), ⟨by decide +kernel, by decide +kernel, by decide +kernel⟩, by decide, ⟨in_g 1967 (by decide +kernel) (by decide +kernel), in_g 125 (by decide +kernel) (by decide +kernel)⟩⟩
theorem fl11_579 : FLc Rc11 579 11 79 0 := ⟨⟨Rc11, Tc11, 87, ck11, by decide, Or.inl (in_g 1378 (by decide +kernel) (by decide +kernel))⟩, by decide +kernel⟩
theorem fp11_579 : FPc Rc11 579 11 79 0 (.int) := ⟨fl11_579.1, fun C T N h => by cases h; exact ⟨rfl, by decide +kernel⟩, fl11_579.2⟩
theorem ml11_582 : MLk 0 Rc11 582 y11_walks prog_13_method_107_code 7 (some (.int)) 2 := ⟨in_g 1980 (by decide +kernel) (by decide +kernel), in_g 152 (by decide +kernel) (by decide +kernel), Or.inl (in_g 1977 (by decide +kernel) (by decide +kernel)), ⟨by decide +kernel, by decide +kernel, by decide +kernel⟩, by decide, ⟨in_g 1979 (by decide +kernel) (by decide +kernel), in_g 126 (by decide +kernel) (by decide +kernel)⟩⟩
theorem fl11_585 : FLc Rc11 585 11 81 0 := ⟨⟨Rc11, Tc11, 87, ck11, by decide, Or.inl (in_g 1380 (by decide +kernel) (by decide +kernel))⟩, by decide +kernel⟩
theorem fp11_585 : FPc Rc11 585 11 81 0 (.int) := ⟨fl11_585.1, fun C T N h => by cases h; exact ⟨rfl, by decide +kernel⟩, fl11_585.2⟩
theorem ml11_588 : MLk 0 Rc11 588 y11_hasLog prog_13_method_112_code 2 (some (.boolean)) 1 := ⟨in_g 1992 (by decide +kernel) (by decide +kernel), in_g 152 (by decide +kernel) (by decide +kernel), Or.inl (in_g 1989 (by decide +kernel) (by decide +kernel)), ⟨by decide +kernel, by decide +kernel, by decide +kernel⟩, by decide, ⟨in_g 1991 (by decide +kernel) (by decide +kernel), in_g 127 (by decide +kernel) (by decide +kernel)⟩⟩
theorem ml11_591 : MLk 0 Rc11 591 y11_facts prog_13_method_110_code 1 (some (.int)) 0 := ⟨in_g 1996 (by decide +kernel) (by decide +kernel), in_g 152 (by decide +kernel) (by decide +kernel), Or.inl (in_g 1993 (by decide +kernel) (by decide +kernel)), ⟨by decide +kernel, by decide +kernel, by decide +kernel⟩, by decide, ⟨in_g 1995 (by decide +kernel) (by decide +kernel), in_g 128 (by decide +kernel) (by decide +kernel)⟩⟩
theorem ml11_594 : MLk 0 Rc11 594 y11_factOf prog_13_method_111_code 3 (some (.int)) 2 := ⟨in_g 2000 (by decide +kernel) (by decide +kernel), in_g 152 (by decide +kernel) (by decide +kernel), Or.inl (in_g 1997 (by decide +kernel) (by decide +kernel)), ⟨by decide +kernel, by decide +kernel, by decide +kernel⟩, by decide, ⟨in_g 1999 (by decide +kernel) (by decide +kernel), in_g 129 (by decide +kernel) (by decide +kernel)⟩⟩
theorem fl11_597 : FLc Rc11 597 11 82 0 := ⟨⟨Rc11, Tc11, 87, ck11, by decide, Or.inl (in_g 1381 (by decide +kernel) (by decide +kernel))⟩, by decide +kernel⟩
theorem fl11_600 : FLc Rc11 600 11 83 0 := ⟨⟨Rc11, Tc11, 87, ck11, by decide, Or.inl (in_g 1382 (by decide +kernel) (by decide +kernel))⟩, by decide +kernel⟩
theorem fp11_600 : FPc Rc11 600 11 83 0 (.int) := ⟨fl11_600.1, fun C T N h => by cases h; exact ⟨rfl, by decide +kernel⟩, fl11_600.2⟩
theorem fp11_597 : FPc Rc11 597 11 82 0 (.int) := ⟨fl11_597.1, fun C T N h => by cases h; exact ⟨rfl, by decide +kernel⟩, fl11_597.2⟩
theorem ml11_603 : MLk 0 Rc11 603 y11_isSo prog_13_method_114_code 4 (some (.boolean)) 0 := ⟨in_g 2008 (by decide +kernel) (by decide +kernel), in_g 152 (by decide +kernel) (by decide +kernel), Or.inl (in_g 2005 (by decide +kernel) (by decide +kernel)), ⟨by decide +kernel, by decide +kernel, by decide +kernel⟩, by decide, ⟨in_g 2007 (by decide +kernel) (by decide +kernel), in_g 130 (by decide +kernel) (by decide +kernel)⟩⟩
theorem ml11_606 : MLk 0 Rc11 606 y11_noteFit prog_13_method_115_code 4 none 2 := ⟨in_g 2012 (by decide +kernel) (by decide +kernel), in_g 152 (by decide +kernel) (by decide +kernel), Or.inl (in_g 2009 (by decide +kernel) (by decide +kernel)), ⟨by decide +kernel, by decide +kernel, by decide +kernel⟩, by decide, ⟨in_g 2011 (by decide +kernel) (by decide +kernel), in_g 131 (by decide +kernel) (by decide +kernel)⟩⟩
theorem ml11_609 : MLk 0 Rc11 609 y11_askWhat prog_13_method_116_code 5 (some (.int)) 0 := ⟨in_g 2016 (by decide +kernel) (by decide +kernel), in_g 152 (by decide +kernel) (by decide +kernel), Or.inl (in_g 2013 (by decide +kernel) (by decide +kernel)), ⟨by decide +kernel, by decide +kernel, by decide +kernel⟩, by decide, ⟨in_g 2015 (by decide +kernel) (by decide +kernel), in_g 132 (by decide +kernel) (by decide +kernel)⟩⟩
theorem fl11_612 : FLc Rc11 612 11 85 0 := ⟨⟨Rc11, Tc11, 87, ck11, by decide, Or.inl (in_g 1384 (by decide +kernel) (by decide +kernel))⟩, by decide +kernel⟩
theorem fp11_612 : FPc Rc11 612 11 85 0 (.int) := ⟨fl11_612.1, fun C T N h => by cases h; exact ⟨rfl, by decide +kernel⟩, fl11_612.2⟩
theorem ml11_616 : MLk 0 Rc11 616 y11_draw prog_13_method_118_code 2 (some (.int)) 1 := ⟨in_g 2028 (by decide +kernel) (by decide +kernel), in_g 152 (by decide +kernel) (by decide +kernel), Or.inl (in_g 2025 (by decide +kernel) (by decide +kernel)), ⟨by decide +kernel, by decide +kernel, by decide +kernel⟩, by decide, ⟨in_g 2027 (by decide +kernel) (by decide +kernel), in_g 134 (by decide +kernel) (by decide +kernel)⟩⟩
theorem ml11_619 : MLk 0 Rc11 619 y11_drawDeed prog_13_method_119_code 6 none 1 := ⟨in_g 2024 (by decide +kernel) (by decide +kernel), in_g 152 (by decide +kernel) (by decide +kernel), Or.inl (in_g 2021 (by decide +kernel) (by decide +kernel)), ⟨by decide +kernel, by decide +kernel, by decide +kernel⟩, by decide, ⟨in_g 2023 (by decide +kernel) (by decide +kernel), in_g 133 (by decide +kernel) (by decide +kernel)⟩⟩
theorem ml11_622 : MLk 1 Rc11 622 y11_common prog_13_method_121_code 5 (some (.int)) 2 := ⟨in_g 2040 (by decide +kernel) (by decide +kernel), in_g 152 (by decide +kernel) (by decide +kernel), Or.inl (in_g 2038 (by decide +kernel) (by decide +kernel)), ⟨by decide +kernel, by decide +kernel, by decide +kernel⟩, by decide, in_g 2039 (by decide +kernel) (by decide +kernel)⟩
theorem ml11_625 : MLk 0 Rc11 625 y11_mean prog_13_method_122_code 5 (some (.int)) 1 := ⟨in_g 2037 (by decide +kernel) (by decide +kernel), in_g 152 (by decide +kernel) (by decide +kernel), Or.inl (in_g 2034 (by decide +kernel) (by decide +kernel)), ⟨by decide +kernel, by decide +kernel, by decide +kernel⟩, by decide, ⟨in_g 2036 (by decide +kernel) (by decide +kernel), in_g 135 (by decide +kernel) (by decide +kernel)⟩⟩
theorem ml11_629 : MLk 0 Rc11 629 y11_linksAt prog_13_method_124_code 4 (some (.int)) 1 := ⟨in_g 2048 (by decide +kernel) (by decide +kernel), in_g 152 (by decide +kernel) (by decide +kernel), Or.inl (in_g 2045 (by decide +kernel) (by decide +kernel)), ⟨by decide +kernel, by decide +kernel, by decide +kernel⟩, by decide, ⟨in_g 2047 (by decide +kernel) (by decide +kernel), in_g 136 (by decide +kernel) (by decide +kernel)⟩⟩
theorem ml11_632 : MLk 0 Rc11 632 y11_isServed prog_13_method_126_code 3 (some (.boolean)) 1 := ⟨in_g 2052 (by decide +kernel) (by decide +kernel), in_g 152 (by decide +kernel) (by decide +kernel), Or.inl (in_g 2049 (by decide +kernel) (by decide +kernel)), ⟨by decide +kernel, by decide +kernel, by decide +kernel⟩, by decide, ⟨in_g 2051 (by decide +kernel) (by decide +kernel), in_g 137 (by decide +kernel) (by decide +kernel)⟩⟩
theorem ml11_635 : MLk 0 Rc11 635 y11_isHidden prog_13_method_125_code 3 (some (.boolean)) 1 := ⟨in_g 2056 (by decide +kernel) (by decide +kernel), in_g 152 (by decide +kernel) (by decide +kernel), Or.inl (in_g 2053 (by decide +kernel) (by decide +kernel)), ⟨by decide +kernel, by decide +kernel, by decide +kernel⟩, by decide, ⟨in_g 2055 (by decide +kernel) (by decide +kernel), in_g 138 (by decide +kernel) (by decide +kernel)⟩⟩
theorem ml11_638 : MLk 0 Rc11 638 y11_copyAll prog_13_method_9_code 4 none 2 := ⟨in_g 2068 (by decide +kernel) (by decide +kernel), in_g 152 (by decide +kernel) (by decide +kernel), Or.inl (in_g 2065 (by decide +kernel) (by decide +kernel)), ⟨by decide +kernel, by decide +kernel, by decide +kernel⟩, by decide, ⟨in_g 2067 (by decide +kernel) (by decide +kernel), in_g 139 (by decide +kernel) (by decide +kernel)⟩⟩
theorem fl10_12 : FLc Rc10 12 10 0 2 := ⟨⟨Rc10, Tc10, 16, ck10, by decide, Or.inl (in_g 608 (by decide +kernel) (by decide +kernel))⟩, by decide +kernel⟩
theorem fl10_12r : FLc Rc10 12 22 0 2 := ⟨⟨Rc10, Tc10, 16, ck22, by decide, Or.inl (in_g 608 (by decide +kernel) (by decide +kernel))⟩, by decide +kernel⟩
theorem fp10_12 : FPc Rc10 12 10 0 2 (.object "AskedNames$Net") := ⟨fl10_12.1, fun C T N h => by cases h; exact ⟨rfl, by decide +kernel⟩, fl10_12.2⟩
theorem fl10_18 : FLc Rc10 18 10 1 0 := ⟨⟨Rc10, Tc10, 16, ck10, by decide, Or.inl (in_g 609 (by decide +kernel) (by decide +kernel))⟩, by decide +kernel⟩
theorem fl10_18r : FLc Rc10 18 22 1 0 := ⟨⟨Rc10, Tc10, 16, ck22, by decide, Or.inl (in_g 609 (by decide +kernel) (by decide +kernel))⟩, by decide +kernel⟩
theorem fp10_18 : FPc Rc10 18 10 1 0 (.int) := ⟨fl10_18.1, fun C T N h => by cases h; exact ⟨rfl, by decide +kernel⟩, fl10_18.2⟩
theorem fl10_22 : FLc Rc10 22 10 2 0 := ⟨⟨Rc10, Tc10, 16, ck10, by decide, Or.inl (in_g 610 (by decide +kernel) (by decide +kernel))⟩, by decide +kernel⟩
theorem fl10_22r : FLc Rc10 22 22 2 0 := ⟨⟨Rc10, Tc10, 16, ck22, by decide, Or.inl (in_g 610 (by decide +kernel) (by decide +kernel))⟩, by decide +kernel⟩
theorem fp10_22 : FPc Rc10 22 10 2 0 (.int) := ⟨fl10_22.1, fun C T N h => by cases h; exact ⟨rfl, by decide +kernel⟩, fl10_22.2⟩
theorem fl10_25 : FLc Rc10 25 10 3 0 := ⟨⟨Rc10, Tc10, 16, ck10, by decide, Or.inl (in_g 611 (by decide +kernel) (by decide +kernel))⟩, by decide +kernel⟩
theorem fl10_25r : FLc Rc10 25 22 3 0 := ⟨⟨Rc10, Tc10, 16, ck22, by decide, Or.inl (in_g 611 (by decide +kernel) (by decide +kernel))⟩, by decide +kernel⟩
theorem fp10_25 : FPc Rc10 25 10 3 0 (.int) := ⟨fl10_25.1, fun C T N h => by cases h; exact ⟨rfl, by decide +kernel⟩, fl10_25.2⟩
theorem fl10_28 : FLc Rc10 28 10 4 0 := ⟨⟨Rc10, Tc10, 16, ck10, by decide, Or.inl (in_g 612 (by decide +kernel) (by decide +kernel))⟩, by decide +kernel⟩
theorem fl10_28r : FLc Rc10 28 22 4 0 := ⟨⟨Rc10, Tc10, 16, ck22, by decide, Or.inl (in_g 612 (by decide +kernel) (by decide +kernel))⟩, by decide +kernel⟩
theorem fp10_28 : FPc Rc10 28 10 4 0 (.int) := ⟨fl10_28.1, fun C T N h => by cases h; exact ⟨rfl, by decide +kernel⟩, fl10_28.2⟩
theorem fl10_33 : FLc Rc10 33 10 5 17 := ⟨⟨Rc10, Tc10, 16, ck10, by decide, Or.inl (in_g 613 (by decide +kernel) (by decide +kernel))⟩, by decide +kernel⟩
theorem fl10_33r : FLc Rc10 33 22 5 2 := ⟨⟨Rc10, Tc10, 16, ck22, by decide, Or.inl (in_g 613 (by decide +kernel) (by decide +kernel))⟩, by decide +kernel⟩
theorem fl10_37 : FLc Rc10 37 10 6 0 := ⟨⟨Rc10, Tc10, 16, ck10, by decide, Or.inl (in_g 614 (by decide +kernel) (by decide +kernel))⟩, by decide +kernel⟩
theorem fl10_37r : FLc Rc10 37 22 6 0 := ⟨⟨Rc10, Tc10, 16, ck22, by decide, Or.inl (in_g 614 (by decide +kernel) (by decide +kernel))⟩, by decide +kernel⟩
theorem fp10_37 : FPc Rc10 37 10 6 0 (.int) := ⟨fl10_37.1, fun C T N h => by cases h; exact ⟨rfl, by decide +kernel⟩, fl10_37.2⟩
theorem fl10_42 : FLc Rc10 42 10 7 18 := ⟨⟨Rc10, Tc10, 16, ck10, by decide, Or.inl (in_g 615 (by decide +kernel) (by decide +kernel))⟩, by decide +kernel⟩
theorem fl10_42r : FLc Rc10 42 22 7 2 := ⟨⟨Rc10, Tc10, 16, ck22, by decide, Or.inl (in_g 615 (by decide +kernel) (by decide +kernel))⟩, by decide +kernel⟩
theorem fl10_46 : FLc Rc10 46 10 8 0 := ⟨⟨Rc10, Tc10, 16, ck10, by decide, Or.inl (in_g 616 (by decide +kernel) (by decide +kernel))⟩, by decide +kernel⟩
theorem fl10_46r : FLc Rc10 46 22 8 0 := ⟨⟨Rc10, Tc10, 16, ck22, by decide, Or.inl (in_g 616 (by decide +kernel) (by decide +kernel))⟩, by decide +kernel⟩
theorem fp10_46 : FPc Rc10 46 10 8 0 (.int) := ⟨fl10_46.1, fun C T N h => by cases h; exact ⟨rfl, by decide +kernel⟩, fl10_46.2⟩
theorem fl10_50 : FLc Rc10 50 10 9 19 := ⟨⟨Rc10, Tc10, 16, ck10, by decide, Or.inl (in_g 617 (by decide +kernel) (by decide +kernel))⟩, by decide +kernel⟩
theorem fl10_50r : FLc Rc10 50 22 9 2 := ⟨⟨Rc10, Tc10, 16, ck22, by decide, Or.inl (in_g 617 (by decide +kernel) (by decide +kernel))⟩, by decide +kernel⟩
theorem fl10_54 : FLc Rc10 54 10 10 20 := ⟨⟨Rc10, Tc10, 16, ck10, by decide, Or.inl (in_g 618 (by decide +kernel) (by decide +kernel))⟩, by decide +kernel⟩
theorem fl10_54r : FLc Rc10 54 22 10 2 := ⟨⟨Rc10, Tc10, 16, ck22, by decide, Or.inl (in_g 618 (by decide +kernel) (by decide +kernel))⟩, by decide +kernel⟩
theorem fl10_57 : FLc Rc10 57 10 11 21 := ⟨⟨Rc10, Tc10, 16, ck10, by decide, Or.inl (in_g 619 (by decide +kernel) (by decide +kernel))⟩, by decide +kernel⟩
theorem fl10_57r : FLc Rc10 57 22 11 2 := ⟨⟨Rc10, Tc10, 16, ck22, by decide, Or.inl (in_g 619 (by decide +kernel) (by decide +kernel))⟩, by decide +kernel⟩
theorem fl10_61 : FLc Rc10 61 10 12 22 := ⟨⟨Rc10, Tc10, 16, ck10, by decide, Or.inl (in_g 620 (by decide +kernel) (by decide +kernel))⟩, by decide +kernel⟩
theorem fl10_61r : FLc Rc10 61 22 12 2 := ⟨⟨Rc10, Tc10, 16, ck22, by decide, Or.inl (in_g 620 (by decide +kernel) (by decide +kernel))⟩, by decide +kernel⟩
theorem fl10_67 : FLc Rc10 67 10 13 23 := ⟨⟨Rc10, Tc10, 16, ck10, by decide, Or.inl (in_g 621 (by decide +kernel) (by decide +kernel))⟩, by decide +kernel⟩
theorem fl10_67r : FLc Rc10 67 22 13 2 := ⟨⟨Rc10, Tc10, 16, ck22, by decide, Or.inl (in_g 621 (by decide +kernel) (by decide +kernel))⟩, by decide +kernel⟩
theorem fl10_73 : FLc Rc10 73 10 14 24 := ⟨⟨Rc10, Tc10, 16, ck10, by decide, Or.inl (in_g 623 (by decide +kernel) (by decide +kernel))⟩, by decide +kernel⟩
theorem fl10_73r : FLc Rc10 73 22 14 2 := ⟨⟨Rc10, Tc10, 16, ck22, by decide, Or.inl (in_g 623 (by decide +kernel) (by decide +kernel))⟩, by decide +kernel⟩
theorem fl10_77 : FLc Rc10 77 10 15 25 := ⟨⟨Rc10, Tc10, 16, ck10, by decide, Or.inl (in_g 625 (by decide +kernel) (by decide +kernel))⟩, by decide +kernel⟩
theorem fl10_77r : FLc Rc10 77 22 15 2 := ⟨⟨Rc10, Tc10, 16, ck22, by decide, Or.inl (in_g 625 (by decide +kernel) (by decide +kernel))⟩, by decide +kernel⟩
theorem ml10_83 : MLk 1 Rc10 83 yJArrays_fill_IIV prog_21_method_103_code 4 none 2 := ⟨in_g 711 (by decide +kernel) (by decide +kernel), in_g 153 (by decide +kernel) (by decide +kernel), Or.inl (in_g 935 (by decide +kernel) (by decide +kernel)), ⟨by decide +kernel, by decide +kernel, by decide +kernel⟩, by decide, in_g 710 (by decide +kernel) (by decide +kernel)⟩
theorem ml10_89 : MLk 1 Rc10 89 yJArrays_fill_JJV prog_21_method_101_code 5 none 2 := ⟨in_g 938 (by decide +kernel) (by decide +kernel), in_g 153 (by decide +kernel) (by decide +kernel), Or.inl (in_g 936 (by decide +kernel) (by decide +kernel)), ⟨by decide +kernel, by decide +kernel, by decide +kernel⟩, by decide, in_g 937 (by decide +kernel) (by decide +kernel)⟩
theorem fl10_92 : FLc Rc10 92 8 0 0 := ⟨⟨Rc8, Tc8, 4, ck8, by decide, Or.inr ⟨"AskedNames", List.mem_of_getElem? (i := 548) (by decide +kernel)⟩⟩, by decide +kernel⟩
theorem fp10_92 : FPc Rc10 92 8 0 0 (.int) := ⟨fl10_92.1, fun C T N h => by cases h; exact ⟨rfl, by decide +kernel⟩, fl10_92.2⟩
theorem ml10_95 : MLk 0 Rc10 95 y10_begin prog_2_method_2_code 4 none 2 := ⟨in_g 934 (by decide +kernel) (by decide +kernel), in_g 147 (by decide +kernel) (by decide +kernel), Or.inl (in_g 931 (by decide +kernel) (by decide +kernel)), ⟨by decide +kernel, by decide +kernel, by decide +kernel⟩, by decide, ⟨in_g 932 (by decide +kernel) (by decide +kernel), in_g 933 (by decide +kernel) (by decide +kernel)⟩⟩
theorem fl10_99 : FLc Rc10 99 3 0 0 := ⟨⟨Rc3, Tc3, 4, ck3, by decide, Or.inr ⟨"AskedNames", List.mem_of_getElem? (i := 274) (by decide +kernel)⟩⟩, by decide +kernel⟩
theorem ml10_104 : MLk 0 Rc10 104 y10_perform prog_2_method_4_code 8 (some (.boolean)) 2 := ⟨in_g 942 (by decide +kernel) (by decide +kernel), in_g 147 (by decide +kernel) (by decide +kernel), Or.inl (in_g 939 (by decide +kernel) (by decide +kernel)), ⟨by decide +kernel, by decide +kernel, by decide +kernel⟩, by decide, ⟨in_g 941 (by decide +kernel) (by decide +kernel), in_g 13 (by decide +kernel) (by decide +kernel)⟩⟩
theorem ml10_108 : MLk 1 Rc10 108 yJMath_max prog_16_method_65_code 2 (some (.int)) 2 := ⟨in_g 840 (by decide +kernel) (by decide +kernel), in_g 158 (by decide +kernel) (by decide +kernel), Or.inl (in_g 1077 (by decide +kernel) (by decide +kernel)), ⟨by decide +kernel, by decide +kernel, by decide +kernel⟩, by decide, in_g 839 (by decide +kernel) (by decide +kernel)⟩
theorem ml10_114 : MLk 1 Rc10 114 yJMath_min prog_16_method_69_code 2 (some (.int)) 2 := ⟨in_g 1080 (by decide +kernel) (by decide +kernel), in_g 158 (by decide +kernel) (by decide +kernel), Or.inl (in_g 1078 (by decide +kernel) (by decide +kernel)), ⟨by decide +kernel, by decide +kernel, by decide +kernel⟩, by decide, in_g 1079 (by decide +kernel) (by decide +kernel)⟩
theorem fl10_117 : FLc Rc10 117 3 2 5 := ⟨⟨Rc3, Tc3, 4, ck3, by decide, Or.inr ⟨"AskedNames", List.mem_of_getElem? (i := 280) (by decide +kernel)⟩⟩, by decide +kernel⟩
theorem fl10_120 : FLc Rc10 120 3 3 6 := ⟨⟨Rc3, Tc3, 4, ck3, by decide, Or.inr ⟨"AskedNames", List.mem_of_getElem? (i := 283) (by decide +kernel)⟩⟩, by decide +kernel⟩
theorem fl10_123 : FLc Rc10 123 3 1 4 := ⟨⟨Rc3, Tc3, 4, ck3, by decide, Or.inr ⟨"AskedNames", List.mem_of_getElem? (i := 277) (by decide +kernel)⟩⟩, by decide +kernel⟩
theorem ml10_126 : MLk 0 Rc10 126 y2_hasNode prog_7_method_7_code 2 (some (.boolean)) 1 := ⟨in_g 914 (by decide +kernel) (by decide +kernel), in_g 143 (by decide +kernel) (by decide +kernel), Or.inl (in_g 943 (by decide +kernel) (by decide +kernel)), ⟨by decide +kernel, by decide +kernel, by decide +kernel⟩, by decide, ⟨in_g 912 (by decide +kernel) (by decide +kernel), in_g 913 (by decide +kernel) (by decide +kernel)⟩⟩
theorem ml10_130 : MLk 0 Rc10 130 y10_ask prog_2_method_10_code 5 none 4 := ⟨in_g 947 (by decide +kernel) (by decide +kernel), in_g 147 (by decide +kernel) (by decide +kernel), Or.inl (in_g 944 (by decide +kernel) (by decide +kernel)), ⟨by decide +kernel, by decide +kernel, by decide +kernel⟩, by decide, ⟨in_g 946 (by decide +kernel) (by decide +kernel), in_g 14 (by decide +kernel) (by decide +kernel)⟩⟩
theorem ml10_134 : MLk 0 Rc10 134 y10_passMinute prog_2_method_11_code 3 none 0 := ⟨in_g 1035 (by decide +kernel) (by decide +kernel), in_g 147 (by decide +kernel) (by decide +kernel), Or.inl (in_g 1032 (by decide +kernel) (by decide +kernel)), ⟨by decide +kernel, by decide +kernel, by decide +kernel⟩, by decide, ⟨in_g 1034 (by decide +kernel) (by decide +kernel), in_g 28 (by decide +kernel) (by decide +kernel)⟩⟩
theorem ml10_137 : MLk 0 Rc10 137 y2_linkBetween prog_7_method_8_code 3 (some (.int)) 2 := ⟨in_g 1076 (by decide +kernel) (by decide +kernel), in_g 143 (by decide +kernel) (by decide +kernel), Or.inl (in_g 1073 (by decide +kernel) (by decide +kernel)), ⟨by decide +kernel, by decide +kernel, by decide +kernel⟩, by decide, ⟨in_g 1074 (by decide +kernel) (by decide +kernel), in_g 1075 (by decide +kernel) (by decide +kernel)⟩⟩
theorem ml10_140 : MLk 0 Rc10 140 y10_below prog_2_method_9_code 2 (some (.int)) 1 := ⟨in_g 1234 (by decide +kernel) (by decide +kernel), in_g 147 (by decide +kernel) (by decide +kernel), Or.inl (in_g 1231 (by decide +kernel) (by decide +kernel)), ⟨by decide +kernel, by decide +kernel, by decide +kernel⟩, by decide, ⟨in_g 1233 (by decide +kernel) (by decide +kernel), in_g 45 (by decide +kernel) (by decide +kernel)⟩⟩
theorem ml10_144 : MLk 0 Rc10 144 y10_drawAsk prog_2_method_7_code 7 none 2 := ⟨in_g 1239 (by decide +kernel) (by decide +kernel), in_g 147 (by decide +kernel) (by decide +kernel), Or.inl (in_g 1236 (by decide +kernel) (by decide +kernel)), ⟨by decide +kernel, by decide +kernel, by decide +kernel⟩, by decide, ⟨in_g 1238 (by decide +kernel) (by decide +kernel), in_g 46 (by decide +kernel) (by decide +kernel)⟩⟩
theorem ml10_148 : MLk 0 Rc10 148 y10_drawWait prog_2_method_8_code 4 none 0 := ⟨in_g 1243 (by decide +kernel) (by decide +kernel), in_g 147 (by decide +kernel) (by decide +kernel), Or.inl (in_g 1240 (by decide +kernel) (by decide +kernel)), ⟨by decide +kernel, by decide +kernel, by decide +kernel⟩, by decide, ⟨in_g 1242 (by decide +kernel) (by decide +kernel), in_g 47 (by decide +kernel) (by decide +kernel)⟩⟩
theorem fl10_151 : FLc Rc10 151 2 2 0 := ⟨⟨Rc2, Tc2, 17, ck2, by decide, Or.inr ⟨"AskedNames", List.mem_of_getElem? (i := 193) (by decide +kernel)⟩⟩, by decide +kernel⟩
theorem fl10_154 : FLc Rc10 154 2 4 0 := ⟨⟨Rc2, Tc2, 17, ck2, by decide, Or.inr ⟨"AskedNames", List.mem_of_getElem? (i := 201) (by decide +kernel)⟩⟩, by decide +kernel⟩
theorem fl10_157 : FLc Rc10 157 2 0 0 := ⟨⟨Rc2, Tc2, 17, ck2, by decide, Or.inr ⟨"AskedNames", List.mem_of_getElem? (i := 186) (by decide +kernel)⟩⟩, by decide +kernel⟩
theorem fl10_160 : FLc Rc10 160 2 15 14 := ⟨⟨Rc2, Tc2, 17, ck2, by decide, Or.inr ⟨"AskedNames", List.mem_of_getElem? (i := 225) (by decide +kernel)⟩⟩, by decide +kernel⟩
theorem ml10_164 : MLk 0 Rc10 164 y9_begin prog_4_method_2_code 2 none 1 := ⟨in_g 951 (by decide +kernel) (by decide +kernel), in_g 151 (by decide +kernel) (by decide +kernel), Or.inl (in_g 948 (by decide +kernel) (by decide +kernel)), ⟨by decide +kernel, by decide +kernel, by decide +kernel⟩, by decide, ⟨in_g 949 (by decide +kernel) (by decide +kernel), in_g 950 (by decide +kernel) (by decide +kernel)⟩⟩
theorem ml10_167 : MLk 0 Rc10 167 y10_isMet prog_2_method_14_code 11 (some (.boolean)) 5 := ⟨in_g 955 (by decide +kernel) (by decide +kernel), in_g 147 (by decide +kernel) (by decide +kernel), Or.inl (in_g 952 (by decide +kernel) (by decide +kernel)), ⟨by decide +kernel, by decide +kernel, by decide +kernel⟩, by decide, ⟨in_g 954 (by decide +kernel) (by decide +kernel), in_g 15 (by decide +kernel) (by decide +kernel)⟩⟩
theorem ml10_171 : MLk 0 Rc10 171 y10_makeEntry prog_2_method_15_code 7 none 5 := ⟨in_g 1019 (by decide +kernel) (by decide +kernel), in_g 147 (by decide +kernel) (by decide +kernel), Or.inl (in_g 1016 (by decide +kernel) (by decide +kernel)), ⟨by decide +kernel, by decide +kernel, by decide +kernel⟩, by decide, ⟨in_g 1018 (by decide +kernel) (by decide +kernel), in_g 26 (by decide +kernel) (by decide +kernel)⟩⟩
theorem ml10_175 : MLk 0 Rc10 175 y10_endEntries prog_2_method_12_code 5 none 0 := ⟨in_g 1039 (by decide +kernel) (by decide +kernel), in_g 147 (by decide +kernel) (by decide +kernel), Or.inl (in_g 1036 (by decide +kernel) (by decide +kernel)), ⟨by decide +kernel, by decide +kernel, by decide +kernel⟩, by decide, ⟨in_g 1038 (by decide +kernel) (by decide +kernel), in_g 29 (by decide +kernel) (by decide +kernel)⟩⟩
theorem fl10_178 : FLc Rc10 178 7 3 0 := ⟨⟨Rc7, Tc7, 14, ck7, by decide, Or.inr ⟨"AskedNames", List.mem_of_getElem? (i := 434) (by decide +kernel)⟩⟩, by decide +kernel⟩
theorem ml10_181 : MLk 0 Rc10 181 y10_land prog_2_method_13_code 4 none 1 := ⟨in_g 1047 (by decide +kernel) (by decide +kernel), in_g 147 (by decide +kernel) (by decide +kernel), Or.inl (in_g 1044 (by decide +kernel) (by decide +kernel)), ⟨by decide +kernel, by decide +kernel, by decide +kernel⟩, by decide, ⟨in_g 1046 (by decide +kernel) (by decide +kernel), in_g 31 (by decide +kernel) (by decide +kernel)⟩⟩
theorem fl10_184 : FLc Rc10 184 7 0 0 := ⟨⟨Rc7, Tc7, 14, ck7, by decide, Or.inr ⟨"AskedNames", List.mem_of_getElem? (i := 428) (by decide +kernel)⟩⟩, by decide +kernel⟩
theorem ml10_186 : MLk 0 Rc10 186 y10_takeData prog_2_method_19_code 6 none 0 := ⟨in_g 1051 (by decide +kernel) (by decide +kernel), in_g 147 (by decide +kernel) (by decide +kernel), Or.inl (in_g 1048 (by decide +kernel) (by decide +kernel)), ⟨by decide +kernel, by decide +kernel, by decide +kernel⟩, by decide, ⟨in_g 1050 (by decide +kernel) (by decide +kernel), in_g 32 (by decide +kernel) (by decide +kernel)⟩⟩
theorem ml10_189 : MLk 0 Rc10 189 y10_takeNack prog_2_method_22_code 2 none 0 := ⟨in_g 1072 (by decide +kernel) (by decide +kernel), in_g 147 (by decide +kernel) (by decide +kernel), Or.inl (in_g 1069 (by decide +kernel) (by decide +kernel)), ⟨by decide +kernel, by decide +kernel, by decide +kernel⟩, by decide, ⟨in_g 1071 (by decide +kernel) (by decide +kernel), in_g 36 (by decide +kernel) (by decide +kernel)⟩⟩
theorem fl10_192 : FLc Rc10 192 7 2 0 := ⟨⟨Rc7, Tc7, 14, ck7, by decide, Or.inr ⟨"AskedNames", List.mem_of_getElem? (i := 432) (by decide +kernel)⟩⟩, by decide +kernel⟩
theorem fl10_195 : FLc Rc10 195 7 1 0 := ⟨⟨Rc7, Tc7, 14, ck7, by decide, Or.inr ⟨"AskedNames", List.mem_of_getElem? (i := 430) (by decide +kernel)⟩⟩, by decide +kernel⟩
theorem fl10_198 : FLc Rc10 198 7 4 0 := ⟨⟨Rc7, Tc7, 14, ck7, by decide, Or.inr ⟨"AskedNames", List.mem_of_getElem? (i := 437) (by decide +kernel)⟩⟩, by decide +kernel⟩
theorem fl10_201 : FLc Rc10 201 7 5 0 := ⟨⟨Rc7, Tc7, 14, ck7, by decide, Or.inr ⟨"AskedNames", List.mem_of_getElem? (i := 439) (by decide +kernel)⟩⟩, by decide +kernel⟩
theorem fl10_204 : FLc Rc10 204 7 6 0 := ⟨⟨Rc7, Tc7, 14, ck7, by decide, Or.inr ⟨"AskedNames", List.mem_of_getElem? (i := 441) (by decide +kernel)⟩⟩, by decide +kernel⟩
theorem fl10_207 : FLc Rc10 207 6 10 0 := ⟨⟨Rc6, Tc6, 11, ck6, by decide, Or.inr ⟨"AskedNames", List.mem_of_getElem? (i := 517) (by decide +kernel)⟩⟩, by decide +kernel⟩
theorem fl10_210 : FLc Rc10 210 6 7 0 := ⟨⟨Rc6, Tc6, 11, ck6, by decide, Or.inr ⟨"AskedNames", List.mem_of_getElem? (i := 511) (by decide +kernel)⟩⟩, by decide +kernel⟩
theorem fl10_213 : FLc Rc10 213 6 0 0 := ⟨⟨Rc6, Tc6, 11, ck6, by decide, Or.inr ⟨"AskedNames", List.mem_of_getElem? (i := 497) (by decide +kernel)⟩⟩, by decide +kernel⟩
theorem fl10_216 : FLc Rc10 216 2 1 0 := ⟨⟨Rc2, Tc2, 17, ck2, by decide, Or.inr ⟨"AskedNames", List.mem_of_getElem? (i := 190) (by decide +kernel)⟩⟩, by decide +kernel⟩
theorem fl10_219 : FLc Rc10 219 6 4 1 := ⟨⟨Rc6, Tc6, 11, ck6, by decide, Or.inr ⟨"AskedNames", List.mem_of_getElem? (i := 505) (by decide +kernel)⟩⟩, by decide +kernel⟩
theorem fl10_223 : FLc Rc10 223 9 0 0 := ⟨⟨Rc9, Tc9, 8, ck9, by decide, Or.inr ⟨"AskedNames", List.mem_of_getElem? (i := 574) (by decide +kernel)⟩⟩, by decide +kernel⟩
theorem fp10_223 : FPc Rc10 223 9 0 0 (.int) := ⟨fl10_223.1, fun C T N h => by cases h; exact ⟨rfl, by decide +kernel⟩, fl10_223.2⟩
theorem fl10_226 : FLc Rc10 226 9 2 0 := ⟨⟨Rc9, Tc9, 8, ck9, by decide, Or.inr ⟨"AskedNames", List.mem_of_getElem? (i := 579) (by decide +kernel)⟩⟩, by decide +kernel⟩
theorem fp10_226 : FPc Rc10 226 9 2 0 (.int) := ⟨fl10_226.1, fun C T N h => by cases h; exact ⟨rfl, by decide +kernel⟩, fl10_226.2⟩
theorem fl10_229 : FLc Rc10 229 6 5 1 := ⟨⟨Rc6, Tc6, 11, ck6, by decide, Or.inr ⟨"AskedNames", List.mem_of_getElem? (i := 507) (by decide +kernel)⟩⟩, by decide +kernel⟩
theorem ml10_232 : MLk 0 Rc10 232 y10_drop prog_2_method_24_code 4 none 1 := ⟨in_g 1043 (by decide +kernel) (by decide +kernel), in_g 147 (by decide +kernel) (by decide +kernel), Or.inl (in_g 1040 (by decide +kernel) (by decide +kernel)), ⟨by decide +kernel, by decide +kernel, by decide +kernel⟩, by decide, ⟨in_g 1042 (by decide +kernel) (by decide +kernel), in_g 30 (by decide +kernel) (by decide +kernel)⟩⟩
theorem ml10_235 : MLk 0 Rc10 235 y7_copy prog_6_method_2_code 2 none 1 := ⟨in_g 991 (by decide +kernel) (by decide +kernel), in_g 148 (by decide +kernel) (by decide +kernel), Or.inl (in_g 988 (by decide +kernel) (by decide +kernel)), ⟨by decide +kernel, by decide +kernel, by decide +kernel⟩, by decide, ⟨in_g 989 (by decide +kernel) (by decide +kernel), in_g 990 (by decide +kernel) (by decide +kernel)⟩⟩
theorem ml10_239 : MLk 0 Rc10 239 y10_find prog_2_method_31_code 6 (some (.int)) 3 := ⟨in_g 959 (by decide +kernel) (by decide +kernel), in_g 147 (by decide +kernel) (by decide +kernel), Or.inl (in_g 956 (by decide +kernel) (by decide +kernel)), ⟨by decide +kernel, by decide +kernel, by decide +kernel⟩, by decide, ⟨in_g 958 (by decide +kernel) (by decide +kernel), in_g 16 (by decide +kernel) (by decide +kernel)⟩⟩
theorem ml10_243 : MLk 0 Rc10 243 y8_find prog_10_method_2_code 3 (some (.int)) 1 := ⟨in_g 963 (by decide +kernel) (by decide +kernel), in_g 150 (by decide +kernel) (by decide +kernel), Or.inl (in_g 960 (by decide +kernel) (by decide +kernel)), ⟨by decide +kernel, by decide +kernel, by decide +kernel⟩, by decide, ⟨in_g 961 (by decide +kernel) (by decide +kernel), in_g 962 (by decide +kernel) (by decide +kernel)⟩⟩
theorem fl10_245 : FLc Rc10 245 8 2 5 := ⟨⟨Rc8, Tc8, 4, ck8, by decide, Or.inr ⟨"AskedNames", List.mem_of_getElem? (i := 555) (by decide +kernel)⟩⟩, by decide +kernel⟩
theorem ml10_248 : MLk 0 Rc10 248 y2_serving prog_7_method_14_code 6 (some (.int)) 2 := ⟨in_g 967 (by decide +kernel) (by decide +kernel), in_g 143 (by decide +kernel) (by decide +kernel), Or.inl (in_g 964 (by decide +kernel) (by decide +kernel)), ⟨by decide +kernel, by decide +kernel, by decide +kernel⟩, by decide, ⟨in_g 965 (by decide +kernel) (by decide +kernel), in_g 966 (by decide +kernel) (by decide +kernel)⟩⟩
theorem ml10_251 : MLk 0 Rc10 251 y10_sayNack prog_2_method_30_code 5 none 4 := ⟨in_g 971 (by decide +kernel) (by decide +kernel), in_g 147 (by decide +kernel) (by decide +kernel), Or.inl (in_g 968 (by decide +kernel) (by decide +kernel)), ⟨by decide +kernel, by decide +kernel, by decide +kernel⟩, by decide, ⟨in_g 970 (by decide +kernel) (by decide +kernel), in_g 17 (by decide +kernel) (by decide +kernel)⟩⟩
theorem ml10_254 : MLk 0 Rc10 254 y10_answer prog_2_method_25_code 4 none 3 := ⟨in_g 975 (by decide +kernel) (by decide +kernel), in_g 147 (by decide +kernel) (by decide +kernel), Or.inl (in_g 972 (by decide +kernel) (by decide +kernel)), ⟨by decide +kernel, by decide +kernel, by decide +kernel⟩, by decide, ⟨in_g 974 (by decide +kernel) (by decide +kernel), in_g 18 (by decide +kernel) (by decide +kernel)⟩⟩
theorem ml10_258 : MLk 0 Rc10 258 y10_sayStored prog_2_method_28_code 4 none 3 := ⟨in_g 995 (by decide +kernel) (by decide +kernel), in_g 147 (by decide +kernel) (by decide +kernel), Or.inl (in_g 992 (by decide +kernel) (by decide +kernel)), ⟨by decide +kernel, by decide +kernel, by decide +kernel⟩, by decide, ⟨in_g 994 (by decide +kernel) (by decide +kernel), in_g 22 (by decide +kernel) (by decide +kernel)⟩⟩
theorem ml10_262 : MLk 0 Rc10 262 y8_use prog_10_method_3_code 5 none 1 := ⟨in_g 999 (by decide +kernel) (by decide +kernel), in_g 150 (by decide +kernel) (by decide +kernel), Or.inl (in_g 996 (by decide +kernel) (by decide +kernel)), ⟨by decide +kernel, by decide +kernel, by decide +kernel⟩, by decide, ⟨in_g 997 (by decide +kernel) (by decide +kernel), in_g 998 (by decide +kernel) (by decide +kernel)⟩⟩
theorem fl10_265 : FLc Rc10 265 2 16 15 := ⟨⟨Rc2, Tc2, 17, ck2, by decide, Or.inr ⟨"AskedNames", List.mem_of_getElem? (i := 227) (by decide +kernel)⟩⟩, by decide +kernel⟩
theorem ml10_268 : MLk 0 Rc10 268 y10_sayServed prog_2_method_29_code 4 none 3 := ⟨in_g 1011 (by decide +kernel) (by decide +kernel), in_g 147 (by decide +kernel) (by decide +kernel), Or.inl (in_g 1008 (by decide +kernel) (by decide +kernel)), ⟨by decide +kernel, by decide +kernel, by decide +kernel⟩, by decide, ⟨in_g 1010 (by decide +kernel) (by decide +kernel), in_g 25 (by decide +kernel) (by decide +kernel)⟩⟩
theorem ml10_271 : MLk 0 Rc10 271 y6_join prog_3_method_2_code 3 none 2 := ⟨in_g 1015 (by decide +kernel) (by decide +kernel), in_g 149 (by decide +kernel) (by decide +kernel), Or.inl (in_g 1012 (by decide +kernel) (by decide +kernel)), ⟨by decide +kernel, by decide +kernel, by decide +kernel⟩, by decide, ⟨in_g 1013 (by decide +kernel) (by decide +kernel), in_g 1014 (by decide +kernel) (by decide +kernel)⟩⟩
theorem fp10_213 : FPc Rc10 213 6 0 0 (.int) := ⟨fl10_213.1, fun C T N h => by cases h; exact ⟨rfl, by decide +kernel⟩, fl10_213.2⟩
theorem fl10_274 : FLc Rc10 274 6 1 0 := ⟨⟨Rc6, Tc6, 11, ck6, by decide, Or.inr ⟨"AskedNames", List.mem_of_getElem? (i := 499) (by decide +kernel)⟩⟩, by decide +kernel⟩
theorem fp10_274 : FPc Rc10 274 6 1 0 (.int) := ⟨fl10_274.1, fun C T N h => by cases h; exact ⟨rfl, by decide +kernel⟩, fl10_274.2⟩
theorem fl10_275 : FLc Rc10 275 6 2 0 := ⟨⟨Rc6, Tc6, 11, ck6, by decide, Or.inr ⟨"AskedNames", List.mem_of_getElem? (i := 501) (by decide +kernel)⟩⟩, by decide +kernel⟩
theorem fp10_275 : FPc Rc10 275 6 2 0 (.int) := ⟨fl10_275.1, fun C T N h => by cases h; exact ⟨rfl, by decide +kernel⟩, fl10_275.2⟩
theorem fl10_276 : FLc Rc10 276 6 3 0 := ⟨⟨Rc6, Tc6, 11, ck6, by decide, Or.inr ⟨"AskedNames", List.mem_of_getElem? (i := 503) (by decide +kernel)⟩⟩, by decide +kernel⟩
theorem fp10_276 : FPc Rc10 276 6 3 0 (.int) := ⟨fl10_276.1, fun C T N h => by cases h; exact ⟨rfl, by decide +kernel⟩, fl10_276.2⟩
theorem fp10_219 : FPc Rc10 219 6 4 1 (.long) := ⟨fl10_219.1, fun C T N h => by cases h; exact ⟨rfl, by decide +kernel⟩, fl10_219.2⟩
theorem fp10_229 : FPc Rc10 229 6 5 1 (.long) := ⟨fl10_229.1, fun C T N h => by cases h; exact ⟨rfl, by decide +kernel⟩, fl10_229.2⟩
theorem fl10_279 : FLc Rc10 279 6 6 0 := ⟨⟨Rc6, Tc6, 11, ck6, by decide, Or.inr ⟨"AskedNames", List.mem_of_getElem? (i := 509) (by decide +kernel)⟩⟩, by decide +kernel⟩
theorem fp10_279 : FPc Rc10 279 6 6 0 (.int) := ⟨fl10_279.1, fun C T N h => by cases h; exact ⟨rfl, by decide +kernel⟩, fl10_279.2⟩
theorem fp10_210 : FPc Rc10 210 6 7 0 (.int) := ⟨fl10_210.1, fun C T N h => by cases h; exact ⟨rfl, by decide +kernel⟩, fl10_210.2⟩
theorem fl10_282 : FLc Rc10 282 6 8 0 := ⟨⟨Rc6, Tc6, 11, ck6, by decide, Or.inr ⟨"AskedNames", List.mem_of_getElem? (i := 513) (by decide +kernel)⟩⟩, by decide +kernel⟩
theorem fp10_282 : FPc Rc10 282 6 8 0 (.int) := ⟨fl10_282.1, fun C T N h => by cases h; exact ⟨rfl, by decide +kernel⟩, fl10_282.2⟩
theorem fp10_207 : FPc Rc10 207 6 10 0 (.int) := ⟨fl10_207.1, fun C T N h => by cases h; exact ⟨rfl, by decide +kernel⟩, fl10_207.2⟩
theorem ml10_285 : MLk 0 Rc10 285 y10_goOn prog_2_method_16_code 3 (some (.boolean)) 1 := ⟨in_g 1023 (by decide +kernel) (by decide +kernel), in_g 147 (by decide +kernel) (by decide +kernel), Or.inl (in_g 1020 (by decide +kernel) (by decide +kernel)), ⟨by decide +kernel, by decide +kernel, by decide +kernel⟩, by decide, ⟨in_g 1022 (by decide +kernel) (by decide +kernel), in_g 27 (by decide +kernel) (by decide +kernel)⟩⟩
theorem ml10_289 : MLk 0 Rc10 289 y10_bestWay prog_2_method_17_code 12 (some (.int)) 3 := ⟨in_g 1027 (by decide +kernel) (by decide +kernel), in_g 147 (by decide +kernel) (by decide +kernel), Or.inl (in_g 1024 (by decide +kernel) (by decide +kernel)), ⟨by decide +kernel, by decide +kernel, by decide +kernel⟩, by decide, ⟨in_g 1025 (by decide +kernel) (by decide +kernel), in_g 1026 (by decide +kernel) (by decide +kernel)⟩⟩
theorem fl10_292 : FLc Rc10 292 6 9 0 := ⟨⟨Rc6, Tc6, 11, ck6, by decide, Or.inr ⟨"AskedNames", List.mem_of_getElem? (i := 515) (by decide +kernel)⟩⟩, by decide +kernel⟩
theorem fp10_292 : FPc Rc10 292 6 9 0 (.int) := ⟨fl10_292.1, fun C T N h => by cases h; exact ⟨rfl, by decide +kernel⟩, fl10_292.2⟩
theorem fp10_184 : FPc Rc10 184 7 0 0 (.int) := ⟨fl10_184.1, fun C T N h => by cases h; exact ⟨rfl, by decide +kernel⟩, fl10_184.2⟩
theorem fp10_198 : FPc Rc10 198 7 4 0 (.int) := ⟨fl10_198.1, fun C T N h => by cases h; exact ⟨rfl, by decide +kernel⟩, fl10_198.2⟩
theorem fp10_201 : FPc Rc10 201 7 5 0 (.int) := ⟨fl10_201.1, fun C T N h => by cases h; exact ⟨rfl, by decide +kernel⟩, fl10_201.2⟩
theorem fp10_204 : FPc Rc10 204 7 6 0 (.int) := ⟨fl10_204.1, fun C T N h => by cases h; exact ⟨rfl, by decide +kernel⟩, fl10_204.2⟩
theorem ml10_295 : MLk 0 Rc10 295 y10_send prog_2_method_27_code 5 none 2 := ⟨in_g 983 (by decide +kernel) (by decide +kernel), in_g 147 (by decide +kernel) (by decide +kernel), Or.inl (in_g 980 (by decide +kernel) (by decide +kernel)), ⟨by decide +kernel, by decide +kernel, by decide +kernel⟩, by decide, ⟨in_g 982 (by decide +kernel) (by decide +kernel), in_g 20 (by decide +kernel) (by decide +kernel)⟩⟩
theorem ml10_298 : MLk 0 Rc10 298 y2_routed prog_7_method_12_code 6 (some (.int)) 2 := ⟨in_g 1031 (by decide +kernel) (by decide +kernel), in_g 143 (by decide +kernel) (by decide +kernel), Or.inl (in_g 1028 (by decide +kernel) (by decide +kernel)), ⟨by decide +kernel, by decide +kernel, by decide +kernel⟩, by decide, ⟨in_g 1029 (by decide +kernel) (by decide +kernel), in_g 1030 (by decide +kernel) (by decide +kernel)⟩⟩
theorem fl10_301 : FLc Rc10 301 2 3 0 := ⟨⟨Rc2, Tc2, 17, ck2, by decide, Or.inr ⟨"AskedNames", List.mem_of_getElem? (i := 197) (by decide +kernel)⟩⟩, by decide +kernel⟩
theorem fl10_304 : FLc Rc10 304 2 12 11 := ⟨⟨Rc2, Tc2, 17, ck2, by decide, Or.inr ⟨"AskedNames", List.mem_of_getElem? (i := 220) (by decide +kernel)⟩⟩, by decide +kernel⟩
theorem fl10_307 : FLc Rc10 307 2 10 9 := ⟨⟨Rc2, Tc2, 17, ck2, by decide, Or.inr ⟨"AskedNames", List.mem_of_getElem? (i := 216) (by decide +kernel)⟩⟩, by decide +kernel⟩
theorem fl10_310 : FLc Rc10 310 2 11 10 := ⟨⟨Rc2, Tc2, 17, ck2, by decide, Or.inr ⟨"AskedNames", List.mem_of_getElem? (i := 218) (by decide +kernel)⟩⟩, by decide +kernel⟩
theorem fl10_313 : FLc Rc10 313 2 9 8 := ⟨⟨Rc2, Tc2, 17, ck2, by decide, Or.inr ⟨"AskedNames", List.mem_of_getElem? (i := 214) (by decide +kernel)⟩⟩, by decide +kernel⟩
theorem ml10_316 : MLk 0 Rc10 316 y10_isUp prog_2_method_18_code 2 (some (.boolean)) 1 := ⟨in_g 987 (by decide +kernel) (by decide +kernel), in_g 147 (by decide +kernel) (by decide +kernel), Or.inl (in_g 984 (by decide +kernel) (by decide +kernel)), ⟨by decide +kernel, by decide +kernel, by decide +kernel⟩, by decide, ⟨in_g 986 (by decide +kernel) (by decide +kernel), in_g 21 (by decide +kernel) (by decide +kernel)⟩⟩
theorem fl10_319 : FLc Rc10 319 2 13 12 := ⟨⟨Rc2, Tc2, 17, ck2, by decide, Or.inr ⟨"AskedNames", List.mem_of_getElem? (i := 222) (by decide +kernel)⟩⟩, by decide +kernel⟩
theorem fl10_322 : FLc Rc10 322 7 7 0 := ⟨⟨Rc7, Tc7, 14, ck7, by decide, Or.inr ⟨"AskedNames", List.mem_of_getElem? (i := 444) (by decide +kernel)⟩⟩, by decide +kernel⟩
theorem ml10_324 : MLk 0 Rc10 324 y10_firstServed prog_2_method_20_code 4 (some (.int)) 2 := ⟨in_g 1055 (by decide +kernel) (by decide +kernel), in_g 147 (by decide +kernel) (by decide +kernel), Or.inl (in_g 1052 (by decide +kernel) (by decide +kernel)), ⟨by decide +kernel, by decide +kernel, by decide +kernel⟩, by decide, ⟨in_g 1054 (by decide +kernel) (by decide +kernel), in_g 33 (by decide +kernel) (by decide +kernel)⟩⟩
theorem fl10_328 : FLc Rc10 328 2 5 4 := ⟨⟨Rc2, Tc2, 17, ck2, by decide, Or.inr ⟨"AskedNames", List.mem_of_getElem? (i := 205) (by decide +kernel)⟩⟩, by decide +kernel⟩
theorem ml10_331 : MLk 0 Rc10 331 y8_keep prog_10_method_4_code 4 none 2 := ⟨in_g 1063 (by decide +kernel) (by decide +kernel), in_g 150 (by decide +kernel) (by decide +kernel), Or.inl (in_g 1060 (by decide +kernel) (by decide +kernel)), ⟨by decide +kernel, by decide +kernel, by decide +kernel⟩, by decide, ⟨in_g 1061 (by decide +kernel) (by decide +kernel), in_g 1062 (by decide +kernel) (by decide +kernel)⟩⟩
theorem ml10_335 : MLk 0 Rc10 335 y10_isServed prog_2_method_21_code 4 (some (.boolean)) 3 := ⟨in_g 1059 (by decide +kernel) (by decide +kernel), in_g 147 (by decide +kernel) (by decide +kernel), Or.inl (in_g 1056 (by decide +kernel) (by decide +kernel)), ⟨by decide +kernel, by decide +kernel, by decide +kernel⟩, by decide, ⟨in_g 1058 (by decide +kernel) (by decide +kernel), in_g 34 (by decide +kernel) (by decide +kernel)⟩⟩
theorem ml10_339 : MLk 0 Rc10 339 y10_close prog_2_method_23_code 4 none 1 := ⟨in_g 1068 (by decide +kernel) (by decide +kernel), in_g 147 (by decide +kernel) (by decide +kernel), Or.inl (in_g 1065 (by decide +kernel) (by decide +kernel)), ⟨by decide +kernel, by decide +kernel, by decide +kernel⟩, by decide, ⟨in_g 1067 (by decide +kernel) (by decide +kernel), in_g 35 (by decide +kernel) (by decide +kernel)⟩⟩
theorem fl10_342 : FLc Rc10 342 7 11 0 := ⟨⟨Rc7, Tc7, 14, ck7, by decide, Or.inr ⟨"AskedNames", List.mem_of_getElem? (i := 453) (by decide +kernel)⟩⟩, by decide +kernel⟩
theorem fp10_342 : FPc Rc10 342 7 11 0 (.int) := ⟨fl10_342.1, fun C T N h => by cases h; exact ⟨rfl, by decide +kernel⟩, fl10_342.2⟩
theorem ml10_345 : MLk 0 Rc10 345 y10_settle prog_2_method_26_code 3 none 1 := ⟨in_g 979 (by decide +kernel) (by decide +kernel), in_g 147 (by decide +kernel) (by decide +kernel), Or.inl (in_g 976 (by decide +kernel) (by decide +kernel)), ⟨by decide +kernel, by decide +kernel, by decide +kernel⟩, by decide, ⟨in_g 978 (by decide +kernel) (by decide +kernel), in_g 19 (by decide +kernel) (by decide +kernel)⟩⟩
theorem fl10_348 : FLc Rc10 348 7 9 0 := ⟨⟨Rc7, Tc7, 14, ck7, by decide, Or.inr ⟨"AskedNames", List.mem_of_getElem? (i := 449) (by decide +kernel)⟩⟩, by decide +kernel⟩
theorem fl10_351 : FLc Rc10 351 9 3 0 := ⟨⟨Rc9, Tc9, 8, ck9, by decide, Or.inr ⟨"AskedNames", List.mem_of_getElem? (i := 582) (by decide +kernel)⟩⟩, by decide +kernel⟩
theorem fp10_351 : FPc Rc10 351 9 3 0 (.int) := ⟨fl10_351.1, fun C T N h => by cases h; exact ⟨rfl, by decide +kernel⟩, fl10_351.2⟩
theorem fl10_352 : FLc Rc10 352 7 10 0 := ⟨⟨Rc7, Tc7, 14, ck7, by decide, Or.inr ⟨"AskedNames", List.mem_of_getElem? (i := 451) (by decide +kernel)⟩⟩, by decide +kernel⟩
theorem fl10_355 : FLc Rc10 355 9 4 0 := ⟨⟨Rc9, Tc9, 8, ck9, by decide, Or.inr ⟨"AskedNames", List.mem_of_getElem? (i := 584) (by decide +kernel)⟩⟩, by decide +kernel⟩
theorem fp10_355 : FPc Rc10 355 9 4 0 (.int) := ⟨fl10_355.1, fun C T N h => by cases h; exact ⟨rfl, by decide +kernel⟩, fl10_355.2⟩
theorem fl10_356 : FLc Rc10 356 9 5 0 := ⟨⟨Rc9, Tc9, 8, ck9, by decide, Or.inr ⟨"AskedNames", List.mem_of_getElem? (i := 586) (by decide +kernel)⟩⟩, by decide +kernel⟩
theorem fp10_356 : FPc Rc10 356 9 5 0 (.int) := ⟨fl10_356.1, fun C T N h => by cases h; exact ⟨rfl, by decide +kernel⟩, fl10_356.2⟩
theorem fl10_357 : FLc Rc10 357 7 12 0 := ⟨⟨Rc7, Tc7, 14, ck7, by decide, Or.inr ⟨"AskedNames", List.mem_of_getElem? (i := 455) (by decide +kernel)⟩⟩, by decide +kernel⟩
theorem fl10_360 : FLc Rc10 360 9 6 0 := ⟨⟨Rc9, Tc9, 8, ck9, by decide, Or.inr ⟨"AskedNames", List.mem_of_getElem? (i := 588) (by decide +kernel)⟩⟩, by decide +kernel⟩
theorem fp10_360 : FPc Rc10 360 9 6 0 (.int) := ⟨fl10_360.1, fun C T N h => by cases h; exact ⟨rfl, by decide +kernel⟩, fl10_360.2⟩
theorem fl10_361 : FLc Rc10 361 7 13 0 := ⟨⟨Rc7, Tc7, 14, ck7, by decide, Or.inr ⟨"AskedNames", List.mem_of_getElem? (i := 457) (by decide +kernel)⟩⟩, by decide +kernel⟩
theorem fl10_364 : FLc Rc10 364 9 7 0 := ⟨⟨Rc9, Tc9, 8, ck9, by decide, Or.inr ⟨"AskedNames", List.mem_of_getElem? (i := 590) (by decide +kernel)⟩⟩, by decide +kernel⟩
theorem fp10_364 : FPc Rc10 364 9 7 0 (.int) := ⟨fl10_364.1, fun C T N h => by cases h; exact ⟨rfl, by decide +kernel⟩, fl10_364.2⟩
theorem fp10_195 : FPc Rc10 195 7 1 0 (.int) := ⟨fl10_195.1, fun C T N h => by cases h; exact ⟨rfl, by decide +kernel⟩, fl10_195.2⟩
theorem fp10_192 : FPc Rc10 192 7 2 0 (.int) := ⟨fl10_192.1, fun C T N h => by cases h; exact ⟨rfl, by decide +kernel⟩, fl10_192.2⟩
theorem fl10_365 : FLc Rc10 365 2 8 7 := ⟨⟨Rc2, Tc2, 17, ck2, by decide, Or.inr ⟨"AskedNames", List.mem_of_getElem? (i := 212) (by decide +kernel)⟩⟩, by decide +kernel⟩
theorem fp10_178 : FPc Rc10 178 7 3 0 (.int) := ⟨fl10_178.1, fun C T N h => by cases h; exact ⟨rfl, by decide +kernel⟩, fl10_178.2⟩
theorem fl10_368 : FLc Rc10 368 8 1 4 := ⟨⟨Rc8, Tc8, 4, ck8, by decide, Or.inr ⟨"AskedNames", List.mem_of_getElem? (i := 552) (by decide +kernel)⟩⟩, by decide +kernel⟩
theorem fp10_322 : FPc Rc10 322 7 7 0 (.int) := ⟨fl10_322.1, fun C T N h => by cases h; exact ⟨rfl, by decide +kernel⟩, fl10_322.2⟩
theorem fl10_370 : FLc Rc10 370 8 3 6 := ⟨⟨Rc8, Tc8, 4, ck8, by decide, Or.inr ⟨"AskedNames", List.mem_of_getElem? (i := 558) (by decide +kernel)⟩⟩, by decide +kernel⟩
theorem fl10_373 : FLc Rc10 373 7 8 0 := ⟨⟨Rc7, Tc7, 14, ck7, by decide, Or.inr ⟨"AskedNames", List.mem_of_getElem? (i := 447) (by decide +kernel)⟩⟩, by decide +kernel⟩
theorem fp10_373 : FPc Rc10 373 7 8 0 (.int) := ⟨fl10_373.1, fun C T N h => by cases h; exact ⟨rfl, by decide +kernel⟩, fl10_373.2⟩
theorem fp10_348 : FPc Rc10 348 7 9 0 (.int) := ⟨fl10_348.1, fun C T N h => by cases h; exact ⟨rfl, by decide +kernel⟩, fl10_348.2⟩
theorem fp10_352 : FPc Rc10 352 7 10 0 (.int) := ⟨fl10_352.1, fun C T N h => by cases h; exact ⟨rfl, by decide +kernel⟩, fl10_352.2⟩
theorem fp10_357 : FPc Rc10 357 7 12 0 (.int) := ⟨fl10_357.1, fun C T N h => by cases h; exact ⟨rfl, by decide +kernel⟩, fl10_357.2⟩
theorem fp10_361 : FPc Rc10 361 7 13 0 (.int) := ⟨fl10_361.1, fun C T N h => by cases h; exact ⟨rfl, by decide +kernel⟩, fl10_361.2⟩
theorem ml10_375 : MLk 1 Rc10 375 yJInteger_bitCount prog_14_method_49_code 1 (some (.int)) 1 := ⟨in_g 1091 (by decide +kernel) (by decide +kernel), in_g 160 (by decide +kernel) (by decide +kernel), Or.inl (in_g 1089 (by decide +kernel) (by decide +kernel)), ⟨by decide +kernel, by decide +kernel, by decide +kernel⟩, by decide, in_g 1090 (by decide +kernel) (by decide +kernel)⟩
theorem ml10_380 : MLk 0 Rc10 380 y10_entriesAt prog_2_method_33_code 4 (some (.int)) 1 := ⟨in_g 1098 (by decide +kernel) (by decide +kernel), in_g 147 (by decide +kernel) (by decide +kernel), Or.inl (in_g 1095 (by decide +kernel) (by decide +kernel)), ⟨by decide +kernel, by decide +kernel, by decide +kernel⟩, by decide, ⟨in_g 1097 (by decide +kernel) (by decide +kernel), in_g 37 (by decide +kernel) (by decide +kernel)⟩⟩
theorem ml10_383 : MLk 1 Rc10 383 yJLong_bitCount prog_15_method_50_code 2 (some (.int)) 1 := ⟨in_g 1101 (by decide +kernel) (by decide +kernel), in_g 161 (by decide +kernel) (by decide +kernel), Or.inl (in_g 1099 (by decide +kernel) (by decide +kernel)), ⟨by decide +kernel, by decide +kernel, by decide +kernel⟩, by decide, in_g 1100 (by decide +kernel) (by decide +kernel)⟩
theorem fl6_9 : FLc Rc6 9 6 0 0 := ⟨⟨Rc6, Tc6, 11, ck6, by decide, Or.inl (in_g 496 (by decide +kernel) (by decide +kernel))⟩, by decide +kernel⟩
theorem fl6_9r : FLc Rc6 9 18 0 0 := ⟨⟨Rc6, Tc6, 11, ck18, by decide, Or.inl (in_g 496 (by decide +kernel) (by decide +kernel))⟩, by decide +kernel⟩
theorem fp6_9 : FPc Rc6 9 6 0 0 (.int) := ⟨fl6_9.1, fun C T N h => by cases h; exact ⟨rfl, by decide +kernel⟩, fl6_9.2⟩
theorem fl6_15 : FLc Rc6 15 6 1 0 := ⟨⟨Rc6, Tc6, 11, ck6, by decide, Or.inl (in_g 498 (by decide +kernel) (by decide +kernel))⟩, by decide +kernel⟩
theorem fl6_15r : FLc Rc6 15 18 1 0 := ⟨⟨Rc6, Tc6, 11, ck18, by decide, Or.inl (in_g 498 (by decide +kernel) (by decide +kernel))⟩, by decide +kernel⟩
theorem fp6_15 : FPc Rc6 15 6 1 0 (.int) := ⟨fl6_15.1, fun C T N h => by cases h; exact ⟨rfl, by decide +kernel⟩, fl6_15.2⟩
theorem fl6_18 : FLc Rc6 18 6 2 0 := ⟨⟨Rc6, Tc6, 11, ck6, by decide, Or.inl (in_g 500 (by decide +kernel) (by decide +kernel))⟩, by decide +kernel⟩
theorem fl6_18r : FLc Rc6 18 18 2 0 := ⟨⟨Rc6, Tc6, 11, ck18, by decide, Or.inl (in_g 500 (by decide +kernel) (by decide +kernel))⟩, by decide +kernel⟩
theorem fp6_18 : FPc Rc6 18 6 2 0 (.int) := ⟨fl6_18.1, fun C T N h => by cases h; exact ⟨rfl, by decide +kernel⟩, fl6_18.2⟩
theorem fl6_21 : FLc Rc6 21 6 3 0 := ⟨⟨Rc6, Tc6, 11, ck6, by decide, Or.inl (in_g 502 (by decide +kernel) (by decide +kernel))⟩, by decide +kernel⟩
theorem fl6_21r : FLc Rc6 21 18 3 0 := ⟨⟨Rc6, Tc6, 11, ck18, by decide, Or.inl (in_g 502 (by decide +kernel) (by decide +kernel))⟩, by decide +kernel⟩
theorem fp6_21 : FPc Rc6 21 6 3 0 (.int) := ⟨fl6_21.1, fun C T N h => by cases h; exact ⟨rfl, by decide +kernel⟩, fl6_21.2⟩
theorem fl6_24 : FLc Rc6 24 6 4 1 := ⟨⟨Rc6, Tc6, 11, ck6, by decide, Or.inl (in_g 504 (by decide +kernel) (by decide +kernel))⟩, by decide +kernel⟩
theorem fl6_24r : FLc Rc6 24 18 4 1 := ⟨⟨Rc6, Tc6, 11, ck18, by decide, Or.inl (in_g 504 (by decide +kernel) (by decide +kernel))⟩, by decide +kernel⟩
theorem fp6_24 : FPc Rc6 24 6 4 1 (.long) := ⟨fl6_24.1, fun C T N h => by cases h; exact ⟨rfl, by decide +kernel⟩, fl6_24.2⟩
theorem fl6_28 : FLc Rc6 28 6 5 1 := ⟨⟨Rc6, Tc6, 11, ck6, by decide, Or.inl (in_g 506 (by decide +kernel) (by decide +kernel))⟩, by decide +kernel⟩
theorem fl6_28r : FLc Rc6 28 18 5 1 := ⟨⟨Rc6, Tc6, 11, ck18, by decide, Or.inl (in_g 506 (by decide +kernel) (by decide +kernel))⟩, by decide +kernel⟩
theorem fp6_28 : FPc Rc6 28 6 5 1 (.long) := ⟨fl6_28.1, fun C T N h => by cases h; exact ⟨rfl, by decide +kernel⟩, fl6_28.2⟩
theorem fl6_31 : FLc Rc6 31 6 6 0 := ⟨⟨Rc6, Tc6, 11, ck6, by decide, Or.inl (in_g 508 (by decide +kernel) (by decide +kernel))⟩, by decide +kernel⟩
theorem fl6_31r : FLc Rc6 31 18 6 0 := ⟨⟨Rc6, Tc6, 11, ck18, by decide, Or.inl (in_g 508 (by decide +kernel) (by decide +kernel))⟩, by decide +kernel⟩
theorem fp6_31 : FPc Rc6 31 6 6 0 (.int) := ⟨fl6_31.1, fun C T N h => by cases h; exact ⟨rfl, by decide +kernel⟩, fl6_31.2⟩
theorem fl6_34 : FLc Rc6 34 6 7 0 := ⟨⟨Rc6, Tc6, 11, ck6, by decide, Or.inl (in_g 510 (by decide +kernel) (by decide +kernel))⟩, by decide +kernel⟩
theorem fl6_34r : FLc Rc6 34 18 7 0 := ⟨⟨Rc6, Tc6, 11, ck18, by decide, Or.inl (in_g 510 (by decide +kernel) (by decide +kernel))⟩, by decide +kernel⟩
theorem fp6_34 : FPc Rc6 34 6 7 0 (.int) := ⟨fl6_34.1, fun C T N h => by cases h; exact ⟨rfl, by decide +kernel⟩, fl6_34.2⟩
theorem fl6_37 : FLc Rc6 37 6 8 0 := ⟨⟨Rc6, Tc6, 11, ck6, by decide, Or.inl (in_g 512 (by decide +kernel) (by decide +kernel))⟩, by decide +kernel⟩
theorem fl6_37r : FLc Rc6 37 18 8 0 := ⟨⟨Rc6, Tc6, 11, ck18, by decide, Or.inl (in_g 512 (by decide +kernel) (by decide +kernel))⟩, by decide +kernel⟩
theorem fp6_37 : FPc Rc6 37 6 8 0 (.int) := ⟨fl6_37.1, fun C T N h => by cases h; exact ⟨rfl, by decide +kernel⟩, fl6_37.2⟩
theorem fl6_40 : FLc Rc6 40 6 9 0 := ⟨⟨Rc6, Tc6, 11, ck6, by decide, Or.inl (in_g 514 (by decide +kernel) (by decide +kernel))⟩, by decide +kernel⟩
theorem fl6_40r : FLc Rc6 40 18 9 0 := ⟨⟨Rc6, Tc6, 11, ck18, by decide, Or.inl (in_g 514 (by decide +kernel) (by decide +kernel))⟩, by decide +kernel⟩
theorem fp6_40 : FPc Rc6 40 6 9 0 (.int) := ⟨fl6_40.1, fun C T N h => by cases h; exact ⟨rfl, by decide +kernel⟩, fl6_40.2⟩
theorem fl6_43 : FLc Rc6 43 6 10 0 := ⟨⟨Rc6, Tc6, 11, ck6, by decide, Or.inl (in_g 516 (by decide +kernel) (by decide +kernel))⟩, by decide +kernel⟩
theorem fl6_43r : FLc Rc6 43 18 10 0 := ⟨⟨Rc6, Tc6, 11, ck18, by decide, Or.inl (in_g 516 (by decide +kernel) (by decide +kernel))⟩, by decide +kernel⟩
theorem fp6_43 : FPc Rc6 43 6 10 0 (.int) := ⟨fl6_43.1, fun C T N h => by cases h; exact ⟨rfl, by decide +kernel⟩, fl6_43.2⟩
theorem ml6_46 : MLk 1 Rc6 46 yJLong_bitCount prog_15_method_50_code 2 (some (.int)) 1 := ⟨in_g 1101 (by decide +kernel) (by decide +kernel), in_g 161 (by decide +kernel) (by decide +kernel), Or.inl (in_g 1122 (by decide +kernel) (by decide +kernel)), ⟨by decide +kernel, by decide +kernel, by decide +kernel⟩, by decide, in_g 1100 (by decide +kernel) (by decide +kernel)⟩
theorem fl9_9 : FLc Rc9 9 9 0 0 := ⟨⟨Rc9, Tc9, 8, ck9, by decide, Or.inl (in_g 573 (by decide +kernel) (by decide +kernel))⟩, by decide +kernel⟩
theorem fl9_9r : FLc Rc9 9 21 0 0 := ⟨⟨Rc9, Tc9, 8, ck21, by decide, Or.inl (in_g 573 (by decide +kernel) (by decide +kernel))⟩, by decide +kernel⟩
theorem fp9_9 : FPc Rc9 9 9 0 0 (.int) := ⟨fl9_9.1, fun C T N h => by cases h; exact ⟨rfl, by decide +kernel⟩, fl9_9.2⟩
theorem fl9_15 : FLc Rc9 15 9 1 0 := ⟨⟨Rc9, Tc9, 8, ck9, by decide, Or.inl (in_g 576 (by decide +kernel) (by decide +kernel))⟩, by decide +kernel⟩
theorem fl9_15r : FLc Rc9 15 21 1 0 := ⟨⟨Rc9, Tc9, 8, ck21, by decide, Or.inl (in_g 576 (by decide +kernel) (by decide +kernel))⟩, by decide +kernel⟩
theorem fp9_15 : FPc Rc9 15 9 1 0 (.int) := ⟨fl9_15.1, fun C T N h => by cases h; exact ⟨rfl, by decide +kernel⟩, fl9_15.2⟩
theorem fl9_18 : FLc Rc9 18 9 2 0 := ⟨⟨Rc9, Tc9, 8, ck9, by decide, Or.inl (in_g 578 (by decide +kernel) (by decide +kernel))⟩, by decide +kernel⟩
theorem fl9_18r : FLc Rc9 18 21 2 0 := ⟨⟨Rc9, Tc9, 8, ck21, by decide, Or.inl (in_g 578 (by decide +kernel) (by decide +kernel))⟩, by decide +kernel⟩
theorem fp9_18 : FPc Rc9 18 9 2 0 (.int) := ⟨fl9_18.1, fun C T N h => by cases h; exact ⟨rfl, by decide +kernel⟩, fl9_18.2⟩
theorem fl9_21 : FLc Rc9 21 9 3 0 := ⟨⟨Rc9, Tc9, 8, ck9, by decide, Or.inl (in_g 581 (by decide +kernel) (by decide +kernel))⟩, by decide +kernel⟩
theorem fl9_21r : FLc Rc9 21 21 3 0 := ⟨⟨Rc9, Tc9, 8, ck21, by decide, Or.inl (in_g 581 (by decide +kernel) (by decide +kernel))⟩, by decide +kernel⟩
theorem fp9_21 : FPc Rc9 21 9 3 0 (.int) := ⟨fl9_21.1, fun C T N h => by cases h; exact ⟨rfl, by decide +kernel⟩, fl9_21.2⟩
theorem fl9_24 : FLc Rc9 24 9 4 0 := ⟨⟨Rc9, Tc9, 8, ck9, by decide, Or.inl (in_g 583 (by decide +kernel) (by decide +kernel))⟩, by decide +kernel⟩
theorem fl9_24r : FLc Rc9 24 21 4 0 := ⟨⟨Rc9, Tc9, 8, ck21, by decide, Or.inl (in_g 583 (by decide +kernel) (by decide +kernel))⟩, by decide +kernel⟩
theorem fp9_24 : FPc Rc9 24 9 4 0 (.int) := ⟨fl9_24.1, fun C T N h => by cases h; exact ⟨rfl, by decide +kernel⟩, fl9_24.2⟩
theorem fl9_27 : FLc Rc9 27 9 5 0 := ⟨⟨Rc9, Tc9, 8, ck9, by decide, Or.inl (in_g 585 (by decide +kernel) (by decide +kernel))⟩, by decide +kernel⟩
theorem fl9_27r : FLc Rc9 27 21 5 0 := ⟨⟨Rc9, Tc9, 8, ck21, by decide, Or.inl (in_g 585 (by decide +kernel) (by decide +kernel))⟩, by decide +kernel⟩
theorem fp9_27 : FPc Rc9 27 9 5 0 (.int) := ⟨fl9_27.1, fun C T N h => by cases h; exact ⟨rfl, by decide +kernel⟩, fl9_27.2⟩
theorem fl9_30 : FLc Rc9 30 9 6 0 := ⟨⟨Rc9, Tc9, 8, ck9, by decide, Or.inl (in_g 587 (by decide +kernel) (by decide +kernel))⟩, by decide +kernel⟩
theorem fl9_30r : FLc Rc9 30 21 6 0 := ⟨⟨Rc9, Tc9, 8, ck21, by decide, Or.inl (in_g 587 (by decide +kernel) (by decide +kernel))⟩, by decide +kernel⟩
theorem fp9_30 : FPc Rc9 30 9 6 0 (.int) := ⟨fl9_30.1, fun C T N h => by cases h; exact ⟨rfl, by decide +kernel⟩, fl9_30.2⟩
theorem fl9_33 : FLc Rc9 33 9 7 0 := ⟨⟨Rc9, Tc9, 8, ck9, by decide, Or.inl (in_g 589 (by decide +kernel) (by decide +kernel))⟩, by decide +kernel⟩
theorem fl9_33r : FLc Rc9 33 21 7 0 := ⟨⟨Rc9, Tc9, 8, ck21, by decide, Or.inl (in_g 589 (by decide +kernel) (by decide +kernel))⟩, by decide +kernel⟩
theorem fp9_33 : FPc Rc9 33 9 7 0 (.int) := ⟨fl9_33.1, fun C T N h => by cases h; exact ⟨rfl, by decide +kernel⟩, fl9_33.2⟩
theorem fl4_9 : FLc Rc4 9 4 0 0 := ⟨⟨Rc4, Tc4, 3, ck4, by decide, Or.inl (in_g 301 (by decide +kernel) (by decide +kernel))⟩, by decide +kernel⟩
theorem fl4_9r : FLc Rc4 9 16 0 0 := ⟨⟨Rc4, Tc4, 3, ck16, by decide, Or.inl (in_g 301 (by decide +kernel) (by decide +kernel))⟩, by decide +kernel⟩
theorem fp4_9 : FPc Rc4 9 4 0 0 (.int) := ⟨fl4_9.1, fun C T N h => by cases h; exact ⟨rfl, by decide +kernel⟩, fl4_9.2⟩
theorem fl4_15 : FLc Rc4 15 4 1 4 := ⟨⟨Rc4, Tc4, 3, ck4, by decide, Or.inl (in_g 304 (by decide +kernel) (by decide +kernel))⟩, by decide +kernel⟩
theorem fl4_15r : FLc Rc4 15 16 1 2 := ⟨⟨Rc4, Tc4, 3, ck16, by decide, Or.inl (in_g 304 (by decide +kernel) (by decide +kernel))⟩, by decide +kernel⟩
theorem fl4_19 : FLc Rc4 19 4 2 5 := ⟨⟨Rc4, Tc4, 3, ck4, by decide, Or.inl (in_g 306 (by decide +kernel) (by decide +kernel))⟩, by decide +kernel⟩
theorem fl4_19r : FLc Rc4 19 16 2 2 := ⟨⟨Rc4, Tc4, 3, ck16, by decide, Or.inl (in_g 306 (by decide +kernel) (by decide +kernel))⟩, by decide +kernel⟩
theorem fl7_9 : FLc Rc7 9 7 0 0 := ⟨⟨Rc7, Tc7, 14, ck7, by decide, Or.inl (in_g 427 (by decide +kernel) (by decide +kernel))⟩, by decide +kernel⟩
theorem fl7_9r : FLc Rc7 9 19 0 0 := ⟨⟨Rc7, Tc7, 14, ck19, by decide, Or.inl (in_g 427 (by decide +kernel) (by decide +kernel))⟩, by decide +kernel⟩
theorem fp7_9 : FPc Rc7 9 7 0 0 (.int) := ⟨fl7_9.1, fun C T N h => by cases h; exact ⟨rfl, by decide +kernel⟩, fl7_9.2⟩
theorem fl7_13 : FLc Rc7 13 7 1 0 := ⟨⟨Rc7, Tc7, 14, ck7, by decide, Or.inl (in_g 429 (by decide +kernel) (by decide +kernel))⟩, by decide +kernel⟩
theorem fl7_13r : FLc Rc7 13 19 1 0 := ⟨⟨Rc7, Tc7, 14, ck19, by decide, Or.inl (in_g 429 (by decide +kernel) (by decide +kernel))⟩, by decide +kernel⟩
theorem fp7_13 : FPc Rc7 13 7 1 0 (.int) := ⟨fl7_13.1, fun C T N h => by cases h; exact ⟨rfl, by decide +kernel⟩, fl7_13.2⟩
theorem fl7_16 : FLc Rc7 16 7 2 0 := ⟨⟨Rc7, Tc7, 14, ck7, by decide, Or.inl (in_g 431 (by decide +kernel) (by decide +kernel))⟩, by decide +kernel⟩
theorem fl7_16r : FLc Rc7 16 19 2 0 := ⟨⟨Rc7, Tc7, 14, ck19, by decide, Or.inl (in_g 431 (by decide +kernel) (by decide +kernel))⟩, by decide +kernel⟩
theorem fp7_16 : FPc Rc7 16 7 2 0 (.int) := ⟨fl7_16.1, fun C T N h => by cases h; exact ⟨rfl, by decide +kernel⟩, fl7_16.2⟩
theorem fl7_19 : FLc Rc7 19 7 3 0 := ⟨⟨Rc7, Tc7, 14, ck7, by decide, Or.inl (in_g 433 (by decide +kernel) (by decide +kernel))⟩, by decide +kernel⟩
theorem fl7_19r : FLc Rc7 19 19 3 0 := ⟨⟨Rc7, Tc7, 14, ck19, by decide, Or.inl (in_g 433 (by decide +kernel) (by decide +kernel))⟩, by decide +kernel⟩
theorem fp7_19 : FPc Rc7 19 7 3 0 (.int) := ⟨fl7_19.1, fun C T N h => by cases h; exact ⟨rfl, by decide +kernel⟩, fl7_19.2⟩
theorem fl7_22 : FLc Rc7 22 7 4 0 := ⟨⟨Rc7, Tc7, 14, ck7, by decide, Or.inl (in_g 435 (by decide +kernel) (by decide +kernel))⟩, by decide +kernel⟩
theorem fl7_22r : FLc Rc7 22 19 4 0 := ⟨⟨Rc7, Tc7, 14, ck19, by decide, Or.inl (in_g 435 (by decide +kernel) (by decide +kernel))⟩, by decide +kernel⟩
theorem fp7_22 : FPc Rc7 22 7 4 0 (.int) := ⟨fl7_22.1, fun C T N h => by cases h; exact ⟨rfl, by decide +kernel⟩, fl7_22.2⟩
theorem fl7_25 : FLc Rc7 25 7 5 0 := ⟨⟨Rc7, Tc7, 14, ck7, by decide, Or.inl (in_g 438 (by decide +kernel) (by decide +kernel))⟩, by decide +kernel⟩
theorem fl7_25r : FLc Rc7 25 19 5 0 := ⟨⟨Rc7, Tc7, 14, ck19, by decide, Or.inl (in_g 438 (by decide +kernel) (by decide +kernel))⟩, by decide +kernel⟩
theorem fp7_25 : FPc Rc7 25 7 5 0 (.int) := ⟨fl7_25.1, fun C T N h => by cases h; exact ⟨rfl, by decide +kernel⟩, fl7_25.2⟩
theorem fl7_28 : FLc Rc7 28 7 6 0 := ⟨⟨Rc7, Tc7, 14, ck7, by decide, Or.inl (in_g 440 (by decide +kernel) (by decide +kernel))⟩, by decide +kernel⟩
theorem fl7_28r : FLc Rc7 28 19 6 0 := ⟨⟨Rc7, Tc7, 14, ck19, by decide, Or.inl (in_g 440 (by decide +kernel) (by decide +kernel))⟩, by decide +kernel⟩
theorem fp7_28 : FPc Rc7 28 7 6 0 (.int) := ⟨fl7_28.1, fun C T N h => by cases h; exact ⟨rfl, by decide +kernel⟩, fl7_28.2⟩
theorem fl7_31 : FLc Rc7 31 7 7 0 := ⟨⟨Rc7, Tc7, 14, ck7, by decide, Or.inl (in_g 442 (by decide +kernel) (by decide +kernel))⟩, by decide +kernel⟩
theorem fl7_31r : FLc Rc7 31 19 7 0 := ⟨⟨Rc7, Tc7, 14, ck19, by decide, Or.inl (in_g 442 (by decide +kernel) (by decide +kernel))⟩, by decide +kernel⟩
theorem fp7_31 : FPc Rc7 31 7 7 0 (.int) := ⟨fl7_31.1, fun C T N h => by cases h; exact ⟨rfl, by decide +kernel⟩, fl7_31.2⟩
theorem fl7_34 : FLc Rc7 34 7 8 0 := ⟨⟨Rc7, Tc7, 14, ck7, by decide, Or.inl (in_g 445 (by decide +kernel) (by decide +kernel))⟩, by decide +kernel⟩
theorem fl7_34r : FLc Rc7 34 19 8 0 := ⟨⟨Rc7, Tc7, 14, ck19, by decide, Or.inl (in_g 445 (by decide +kernel) (by decide +kernel))⟩, by decide +kernel⟩
theorem fp7_34 : FPc Rc7 34 7 8 0 (.int) := ⟨fl7_34.1, fun C T N h => by cases h; exact ⟨rfl, by decide +kernel⟩, fl7_34.2⟩
theorem fl7_37 : FLc Rc7 37 7 9 0 := ⟨⟨Rc7, Tc7, 14, ck7, by decide, Or.inl (in_g 448 (by decide +kernel) (by decide +kernel))⟩, by decide +kernel⟩
theorem fl7_37r : FLc Rc7 37 19 9 0 := ⟨⟨Rc7, Tc7, 14, ck19, by decide, Or.inl (in_g 448 (by decide +kernel) (by decide +kernel))⟩, by decide +kernel⟩
theorem fp7_37 : FPc Rc7 37 7 9 0 (.int) := ⟨fl7_37.1, fun C T N h => by cases h; exact ⟨rfl, by decide +kernel⟩, fl7_37.2⟩
theorem fl7_40 : FLc Rc7 40 7 10 0 := ⟨⟨Rc7, Tc7, 14, ck7, by decide, Or.inl (in_g 450 (by decide +kernel) (by decide +kernel))⟩, by decide +kernel⟩
theorem fl7_40r : FLc Rc7 40 19 10 0 := ⟨⟨Rc7, Tc7, 14, ck19, by decide, Or.inl (in_g 450 (by decide +kernel) (by decide +kernel))⟩, by decide +kernel⟩
theorem fp7_40 : FPc Rc7 40 7 10 0 (.int) := ⟨fl7_40.1, fun C T N h => by cases h; exact ⟨rfl, by decide +kernel⟩, fl7_40.2⟩
theorem fl7_43 : FLc Rc7 43 7 11 0 := ⟨⟨Rc7, Tc7, 14, ck7, by decide, Or.inl (in_g 452 (by decide +kernel) (by decide +kernel))⟩, by decide +kernel⟩
theorem fl7_43r : FLc Rc7 43 19 11 0 := ⟨⟨Rc7, Tc7, 14, ck19, by decide, Or.inl (in_g 452 (by decide +kernel) (by decide +kernel))⟩, by decide +kernel⟩
theorem fp7_43 : FPc Rc7 43 7 11 0 (.int) := ⟨fl7_43.1, fun C T N h => by cases h; exact ⟨rfl, by decide +kernel⟩, fl7_43.2⟩
theorem fl7_46 : FLc Rc7 46 7 12 0 := ⟨⟨Rc7, Tc7, 14, ck7, by decide, Or.inl (in_g 454 (by decide +kernel) (by decide +kernel))⟩, by decide +kernel⟩
theorem fl7_46r : FLc Rc7 46 19 12 0 := ⟨⟨Rc7, Tc7, 14, ck19, by decide, Or.inl (in_g 454 (by decide +kernel) (by decide +kernel))⟩, by decide +kernel⟩
theorem fp7_46 : FPc Rc7 46 7 12 0 (.int) := ⟨fl7_46.1, fun C T N h => by cases h; exact ⟨rfl, by decide +kernel⟩, fl7_46.2⟩
theorem fl7_49 : FLc Rc7 49 7 13 0 := ⟨⟨Rc7, Tc7, 14, ck7, by decide, Or.inl (in_g 456 (by decide +kernel) (by decide +kernel))⟩, by decide +kernel⟩
theorem fl7_49r : FLc Rc7 49 19 13 0 := ⟨⟨Rc7, Tc7, 14, ck19, by decide, Or.inl (in_g 456 (by decide +kernel) (by decide +kernel))⟩, by decide +kernel⟩
theorem fp7_49 : FPc Rc7 49 7 13 0 (.int) := ⟨fl7_49.1, fun C T N h => by cases h; exact ⟨rfl, by decide +kernel⟩, fl7_49.2⟩
theorem fl2_9 : FLc Rc2 9 2 0 0 := ⟨⟨Rc2, Tc2, 17, ck2, by decide, Or.inl (in_g 183 (by decide +kernel) (by decide +kernel))⟩, by decide +kernel⟩
theorem fl2_9r : FLc Rc2 9 14 0 0 := ⟨⟨Rc2, Tc2, 17, ck14, by decide, Or.inl (in_g 183 (by decide +kernel) (by decide +kernel))⟩, by decide +kernel⟩
theorem fp2_9 : FPc Rc2 9 2 0 0 (.int) := ⟨fl2_9.1, fun C T N h => by cases h; exact ⟨rfl, by decide +kernel⟩, fl2_9.2⟩
theorem fl2_15 : FLc Rc2 15 2 1 0 := ⟨⟨Rc2, Tc2, 17, ck2, by decide, Or.inl (in_g 187 (by decide +kernel) (by decide +kernel))⟩, by decide +kernel⟩
theorem fl2_15r : FLc Rc2 15 14 1 0 := ⟨⟨Rc2, Tc2, 17, ck14, by decide, Or.inl (in_g 187 (by decide +kernel) (by decide +kernel))⟩, by decide +kernel⟩
theorem fp2_15 : FPc Rc2 15 2 1 0 (.int) := ⟨fl2_15.1, fun C T N h => by cases h; exact ⟨rfl, by decide +kernel⟩, fl2_15.2⟩
theorem fl2_18 : FLc Rc2 18 2 2 0 := ⟨⟨Rc2, Tc2, 17, ck2, by decide, Or.inl (in_g 191 (by decide +kernel) (by decide +kernel))⟩, by decide +kernel⟩
theorem fl2_18r : FLc Rc2 18 14 2 0 := ⟨⟨Rc2, Tc2, 17, ck14, by decide, Or.inl (in_g 191 (by decide +kernel) (by decide +kernel))⟩, by decide +kernel⟩
theorem fp2_18 : FPc Rc2 18 2 2 0 (.int) := ⟨fl2_18.1, fun C T N h => by cases h; exact ⟨rfl, by decide +kernel⟩, fl2_18.2⟩
theorem fl2_21 : FLc Rc2 21 2 3 0 := ⟨⟨Rc2, Tc2, 17, ck2, by decide, Or.inl (in_g 194 (by decide +kernel) (by decide +kernel))⟩, by decide +kernel⟩
theorem fl2_21r : FLc Rc2 21 14 3 0 := ⟨⟨Rc2, Tc2, 17, ck14, by decide, Or.inl (in_g 194 (by decide +kernel) (by decide +kernel))⟩, by decide +kernel⟩
theorem fp2_21 : FPc Rc2 21 2 3 0 (.int) := ⟨fl2_21.1, fun C T N h => by cases h; exact ⟨rfl, by decide +kernel⟩, fl2_21.2⟩
theorem fl2_24 : FLc Rc2 24 2 4 0 := ⟨⟨Rc2, Tc2, 17, ck2, by decide, Or.inl (in_g 198 (by decide +kernel) (by decide +kernel))⟩, by decide +kernel⟩
theorem fl2_24r : FLc Rc2 24 14 4 0 := ⟨⟨Rc2, Tc2, 17, ck14, by decide, Or.inl (in_g 198 (by decide +kernel) (by decide +kernel))⟩, by decide +kernel⟩
theorem fp2_24 : FPc Rc2 24 2 4 0 (.int) := ⟨fl2_24.1, fun C T N h => by cases h; exact ⟨rfl, by decide +kernel⟩, fl2_24.2⟩
theorem fl2_27 : FLc Rc2 27 2 5 4 := ⟨⟨Rc2, Tc2, 17, ck2, by decide, Or.inl (in_g 202 (by decide +kernel) (by decide +kernel))⟩, by decide +kernel⟩
theorem fl2_27r : FLc Rc2 27 14 5 2 := ⟨⟨Rc2, Tc2, 17, ck14, by decide, Or.inl (in_g 202 (by decide +kernel) (by decide +kernel))⟩, by decide +kernel⟩
theorem fl2_31 : FLc Rc2 31 2 6 5 := ⟨⟨Rc2, Tc2, 17, ck2, by decide, Or.inl (in_g 206 (by decide +kernel) (by decide +kernel))⟩, by decide +kernel⟩
theorem fl2_31r : FLc Rc2 31 14 6 2 := ⟨⟨Rc2, Tc2, 17, ck14, by decide, Or.inl (in_g 206 (by decide +kernel) (by decide +kernel))⟩, by decide +kernel⟩
theorem fl2_34 : FLc Rc2 34 2 7 6 := ⟨⟨Rc2, Tc2, 17, ck2, by decide, Or.inl (in_g 208 (by decide +kernel) (by decide +kernel))⟩, by decide +kernel⟩
theorem fl2_34r : FLc Rc2 34 14 7 2 := ⟨⟨Rc2, Tc2, 17, ck14, by decide, Or.inl (in_g 208 (by decide +kernel) (by decide +kernel))⟩, by decide +kernel⟩
theorem fl2_37 : FLc Rc2 37 2 8 7 := ⟨⟨Rc2, Tc2, 17, ck2, by decide, Or.inl (in_g 210 (by decide +kernel) (by decide +kernel))⟩, by decide +kernel⟩
theorem fl2_37r : FLc Rc2 37 14 8 2 := ⟨⟨Rc2, Tc2, 17, ck14, by decide, Or.inl (in_g 210 (by decide +kernel) (by decide +kernel))⟩, by decide +kernel⟩
theorem fl2_40 : FLc Rc2 40 2 9 8 := ⟨⟨Rc2, Tc2, 17, ck2, by decide, Or.inl (in_g 213 (by decide +kernel) (by decide +kernel))⟩, by decide +kernel⟩
theorem fl2_40r : FLc Rc2 40 14 9 2 := ⟨⟨Rc2, Tc2, 17, ck14, by decide, Or.inl (in_g 213 (by decide +kernel) (by decide +kernel))⟩, by decide +kernel⟩
theorem fl2_43 : FLc Rc2 43 2 10 9 := ⟨⟨Rc2, Tc2, 17, ck2, by decide, Or.inl (in_g 215 (by decide +kernel) (by decide +kernel))⟩, by decide +kernel⟩
theorem fl2_43r : FLc Rc2 43 14 10 2 := ⟨⟨Rc2, Tc2, 17, ck14, by decide, Or.inl (in_g 215 (by decide +kernel) (by decide +kernel))⟩, by decide +kernel⟩
theorem fl2_46 : FLc Rc2 46 2 11 10 := ⟨⟨Rc2, Tc2, 17, ck2, by decide, Or.inl (in_g 217 (by decide +kernel) (by decide +kernel))⟩, by decide +kernel⟩
theorem fl2_46r : FLc Rc2 46 14 11 2 := ⟨⟨Rc2, Tc2, 17, ck14, by decide, Or.inl (in_g 217 (by decide +kernel) (by decide +kernel))⟩, by decide +kernel⟩
theorem fl2_49 : FLc Rc2 49 2 12 11 := ⟨⟨Rc2, Tc2, 17, ck2, by decide, Or.inl (in_g 219 (by decide +kernel) (by decide +kernel))⟩, by decide +kernel⟩
theorem fl2_49r : FLc Rc2 49 14 12 2 := ⟨⟨Rc2, Tc2, 17, ck14, by decide, Or.inl (in_g 219 (by decide +kernel) (by decide +kernel))⟩, by decide +kernel⟩
theorem fl2_52 : FLc Rc2 52 2 13 12 := ⟨⟨Rc2, Tc2, 17, ck2, by decide, Or.inl (in_g 221 (by decide +kernel) (by decide +kernel))⟩, by decide +kernel⟩
theorem fl2_52r : FLc Rc2 52 14 13 2 := ⟨⟨Rc2, Tc2, 17, ck14, by decide, Or.inl (in_g 221 (by decide +kernel) (by decide +kernel))⟩, by decide +kernel⟩
theorem fl2_55 : FLc Rc2 55 2 14 13 := ⟨⟨Rc2, Tc2, 17, ck2, by decide, Or.inl (in_g 223 (by decide +kernel) (by decide +kernel))⟩, by decide +kernel⟩
theorem fl2_55r : FLc Rc2 55 14 14 2 := ⟨⟨Rc2, Tc2, 17, ck14, by decide, Or.inl (in_g 223 (by decide +kernel) (by decide +kernel))⟩, by decide +kernel⟩
theorem fl2_58 : FLc Rc2 58 2 15 14 := ⟨⟨Rc2, Tc2, 17, ck2, by decide, Or.inl (in_g 224 (by decide +kernel) (by decide +kernel))⟩, by decide +kernel⟩
theorem fl2_58r : FLc Rc2 58 14 15 2 := ⟨⟨Rc2, Tc2, 17, ck14, by decide, Or.inl (in_g 224 (by decide +kernel) (by decide +kernel))⟩, by decide +kernel⟩
theorem fl2_61 : FLc Rc2 61 2 16 15 := ⟨⟨Rc2, Tc2, 17, ck2, by decide, Or.inl (in_g 226 (by decide +kernel) (by decide +kernel))⟩, by decide +kernel⟩
theorem fl2_61r : FLc Rc2 61 14 16 2 := ⟨⟨Rc2, Tc2, 17, ck14, by decide, Or.inl (in_g 226 (by decide +kernel) (by decide +kernel))⟩, by decide +kernel⟩
theorem ml2_64 : MLk 1 Rc2 64 yJArrays_fill_IIV prog_21_method_103_code 4 none 2 := ⟨in_g 711 (by decide +kernel) (by decide +kernel), in_g 153 (by decide +kernel) (by decide +kernel), Or.inl (in_g 709 (by decide +kernel) (by decide +kernel)), ⟨by decide +kernel, by decide +kernel, by decide +kernel⟩, by decide, in_g 710 (by decide +kernel) (by decide +kernel)⟩
theorem ml2_76 : MLk 0 Rc2 76 y2_hasNode prog_7_method_7_code 2 (some (.boolean)) 1 := ⟨in_g 914 (by decide +kernel) (by decide +kernel), in_g 143 (by decide +kernel) (by decide +kernel), Or.inl (in_g 911 (by decide +kernel) (by decide +kernel)), ⟨by decide +kernel, by decide +kernel, by decide +kernel⟩, by decide, ⟨in_g 912 (by decide +kernel) (by decide +kernel), in_g 913 (by decide +kernel) (by decide +kernel)⟩⟩
theorem ml2_80 : MLk 0 Rc2 80 y2_linkBetween prog_7_method_8_code 3 (some (.int)) 2 := ⟨in_g 1076 (by decide +kernel) (by decide +kernel), in_g 143 (by decide +kernel) (by decide +kernel), Or.inl (in_g 1177 (by decide +kernel) (by decide +kernel)), ⟨by decide +kernel, by decide +kernel, by decide +kernel⟩, by decide, ⟨in_g 1074 (by decide +kernel) (by decide +kernel), in_g 1075 (by decide +kernel) (by decide +kernel)⟩⟩
theorem ml2_84 : MLk 0 Rc2 84 y2_rowBefore prog_7_method_17_code 4 (some (.boolean)) 2 := ⟨in_g 1157 (by decide +kernel) (by decide +kernel), in_g 143 (by decide +kernel) (by decide +kernel), Or.inl (in_g 1154 (by decide +kernel) (by decide +kernel)), ⟨by decide +kernel, by decide +kernel, by decide +kernel⟩, by decide, ⟨in_g 1156 (by decide +kernel) (by decide +kernel), in_g 38 (by decide +kernel) (by decide +kernel)⟩⟩
theorem ml2_88 : MLk 1 Rc2 88 y0_begins prog_1_method_37_code 4 (some (.boolean)) 2 := ⟨in_g 1160 (by decide +kernel) (by decide +kernel), in_g 141 (by decide +kernel) (by decide +kernel), Or.inr ⟨"AskedNames", List.mem_of_getElem? (i := 1158) (by decide +kernel)⟩, ⟨by decide +kernel, by decide +kernel, by decide +kernel⟩, by decide, in_g 1159 (by decide +kernel) (by decide +kernel)⟩
theorem fl5_12 : FLc Rc5 12 5 0 4 := ⟨⟨Rc5, Tc5, 14, ck5, by decide, Or.inl (in_g 361 (by decide +kernel) (by decide +kernel))⟩, by decide +kernel⟩
theorem fl5_12r : FLc Rc5 12 17 0 2 := ⟨⟨Rc5, Tc5, 14, ck17, by decide, Or.inl (in_g 361 (by decide +kernel) (by decide +kernel))⟩, by decide +kernel⟩
theorem fl5_21 : FLc Rc5 21 5 1 17 := ⟨⟨Rc5, Tc5, 14, ck5, by decide, Or.inl (in_g 363 (by decide +kernel) (by decide +kernel))⟩, by decide +kernel⟩
theorem fl5_21r : FLc Rc5 21 17 1 2 := ⟨⟨Rc5, Tc5, 14, ck17, by decide, Or.inl (in_g 363 (by decide +kernel) (by decide +kernel))⟩, by decide +kernel⟩
theorem fl5_28 : FLc Rc5 28 5 2 21 := ⟨⟨Rc5, Tc5, 14, ck5, by decide, Or.inl (in_g 365 (by decide +kernel) (by decide +kernel))⟩, by decide +kernel⟩
theorem fl5_28r : FLc Rc5 28 17 2 2 := ⟨⟨Rc5, Tc5, 14, ck17, by decide, Or.inl (in_g 365 (by decide +kernel) (by decide +kernel))⟩, by decide +kernel⟩
theorem fl5_32 : FLc Rc5 32 5 3 24 := ⟨⟨Rc5, Tc5, 14, ck5, by decide, Or.inl (in_g 367 (by decide +kernel) (by decide +kernel))⟩, by decide +kernel⟩
theorem fl5_32r : FLc Rc5 32 17 3 2 := ⟨⟨Rc5, Tc5, 14, ck17, by decide, Or.inl (in_g 367 (by decide +kernel) (by decide +kernel))⟩, by decide +kernel⟩
theorem fl5_36 : FLc Rc5 36 5 4 2 := ⟨⟨Rc5, Tc5, 14, ck5, by decide, Or.inl (in_g 368 (by decide +kernel) (by decide +kernel))⟩, by decide +kernel⟩
theorem fl5_36r : FLc Rc5 36 17 4 2 := ⟨⟨Rc5, Tc5, 14, ck17, by decide, Or.inl (in_g 368 (by decide +kernel) (by decide +kernel))⟩, by decide +kernel⟩
theorem fp5_36 : FPc Rc5 36 5 4 2 (.array (.byte)) := ⟨fl5_36.1, fun C T N h => by cases h; exact ⟨rfl, by decide +kernel⟩, fl5_36.2⟩
theorem fl5_40 : FLc Rc5 40 5 5 0 := ⟨⟨Rc5, Tc5, 14, ck5, by decide, Or.inl (in_g 369 (by decide +kernel) (by decide +kernel))⟩, by decide +kernel⟩
theorem fl5_40r : FLc Rc5 40 17 5 0 := ⟨⟨Rc5, Tc5, 14, ck17, by decide, Or.inl (in_g 369 (by decide +kernel) (by decide +kernel))⟩, by decide +kernel⟩
theorem fp5_40 : FPc Rc5 40 5 5 0 (.int) := ⟨fl5_40.1, fun C T N h => by cases h; exact ⟨rfl, by decide +kernel⟩, fl5_40.2⟩
theorem fl5_44 : FLc Rc5 44 5 6 0 := ⟨⟨Rc5, Tc5, 14, ck5, by decide, Or.inl (in_g 370 (by decide +kernel) (by decide +kernel))⟩, by decide +kernel⟩
theorem fl5_44r : FLc Rc5 44 17 6 0 := ⟨⟨Rc5, Tc5, 14, ck17, by decide, Or.inl (in_g 370 (by decide +kernel) (by decide +kernel))⟩, by decide +kernel⟩
theorem fp5_44 : FPc Rc5 44 5 6 0 (.int) := ⟨fl5_44.1, fun C T N h => by cases h; exact ⟨rfl, by decide +kernel⟩, fl5_44.2⟩
theorem fl5_47 : FLc Rc5 47 5 7 0 := ⟨⟨Rc5, Tc5, 14, ck5, by decide, Or.inl (in_g 371 (by decide +kernel) (by decide +kernel))⟩, by decide +kernel⟩
theorem fl5_47r : FLc Rc5 47 17 7 0 := ⟨⟨Rc5, Tc5, 14, ck17, by decide, Or.inl (in_g 371 (by decide +kernel) (by decide +kernel))⟩, by decide +kernel⟩
theorem fp5_47 : FPc Rc5 47 5 7 0 (.int) := ⟨fl5_47.1, fun C T N h => by cases h; exact ⟨rfl, by decide +kernel⟩, fl5_47.2⟩
theorem fl5_50 : FLc Rc5 50 5 8 0 := ⟨⟨Rc5, Tc5, 14, ck5, by decide, Or.inl (in_g 372 (by decide +kernel) (by decide +kernel))⟩, by decide +kernel⟩
theorem fl5_50r : FLc Rc5 50 17 8 0 := ⟨⟨Rc5, Tc5, 14, ck17, by decide, Or.inl (in_g 372 (by decide +kernel) (by decide +kernel))⟩, by decide +kernel⟩
theorem fp5_50 : FPc Rc5 50 5 8 0 (.int) := ⟨fl5_50.1, fun C T N h => by cases h; exact ⟨rfl, by decide +kernel⟩, fl5_50.2⟩
theorem fl5_53 : FLc Rc5 53 5 9 0 := ⟨⟨Rc5, Tc5, 14, ck5, by decide, Or.inl (in_g 373 (by decide +kernel) (by decide +kernel))⟩, by decide +kernel⟩
theorem fl5_53r : FLc Rc5 53 17 9 0 := ⟨⟨Rc5, Tc5, 14, ck17, by decide, Or.inl (in_g 373 (by decide +kernel) (by decide +kernel))⟩, by decide +kernel⟩
theorem fp5_53 : FPc Rc5 53 5 9 0 (.int) := ⟨fl5_53.1, fun C T N h => by cases h; exact ⟨rfl, by decide +kernel⟩, fl5_53.2⟩
theorem fl5_56 : FLc Rc5 56 5 10 0 := ⟨⟨Rc5, Tc5, 14, ck5, by decide, Or.inl (in_g 374 (by decide +kernel) (by decide +kernel))⟩, by decide +kernel⟩
theorem fl5_56r : FLc Rc5 56 17 10 0 := ⟨⟨Rc5, Tc5, 14, ck17, by decide, Or.inl (in_g 374 (by decide +kernel) (by decide +kernel))⟩, by decide +kernel⟩
theorem fp5_56 : FPc Rc5 56 5 10 0 (.int) := ⟨fl5_56.1, fun C T N h => by cases h; exact ⟨rfl, by decide +kernel⟩, fl5_56.2⟩
theorem fl5_59 : FLc Rc5 59 5 11 0 := ⟨⟨Rc5, Tc5, 14, ck5, by decide, Or.inl (in_g 375 (by decide +kernel) (by decide +kernel))⟩, by decide +kernel⟩
theorem fl5_59r : FLc Rc5 59 17 11 0 := ⟨⟨Rc5, Tc5, 14, ck17, by decide, Or.inl (in_g 375 (by decide +kernel) (by decide +kernel))⟩, by decide +kernel⟩
theorem fp5_59 : FPc Rc5 59 5 11 0 (.int) := ⟨fl5_59.1, fun C T N h => by cases h; exact ⟨rfl, by decide +kernel⟩, fl5_59.2⟩
theorem fl5_62 : FLc Rc5 62 5 12 0 := ⟨⟨Rc5, Tc5, 14, ck5, by decide, Or.inl (in_g 376 (by decide +kernel) (by decide +kernel))⟩, by decide +kernel⟩
theorem fl5_62r : FLc Rc5 62 17 12 0 := ⟨⟨Rc5, Tc5, 14, ck17, by decide, Or.inl (in_g 376 (by decide +kernel) (by decide +kernel))⟩, by decide +kernel⟩
theorem fp5_62 : FPc Rc5 62 5 12 0 (.int) := ⟨fl5_62.1, fun C T N h => by cases h; exact ⟨rfl, by decide +kernel⟩, fl5_62.2⟩
theorem fl5_65 : FLc Rc5 65 5 13 0 := ⟨⟨Rc5, Tc5, 14, ck5, by decide, Or.inl (in_g 378 (by decide +kernel) (by decide +kernel))⟩, by decide +kernel⟩
theorem fl5_65r : FLc Rc5 65 17 13 0 := ⟨⟨Rc5, Tc5, 14, ck17, by decide, Or.inl (in_g 378 (by decide +kernel) (by decide +kernel))⟩, by decide +kernel⟩
theorem fp5_65 : FPc Rc5 65 5 13 0 (.int) := ⟨fl5_65.1, fun C T N h => by cases h; exact ⟨rfl, by decide +kernel⟩, fl5_65.2⟩
theorem ml5_68 : MLk 0 Rc5 68 y2_clear prog_7_method_2_code 1 none 0 := ⟨in_g 708 (by decide +kernel) (by decide +kernel), in_g 143 (by decide +kernel) (by decide +kernel), Or.inl (in_g 705 (by decide +kernel) (by decide +kernel)), ⟨by decide +kernel, by decide +kernel, by decide +kernel⟩, by decide, ⟨in_g 706 (by decide +kernel) (by decide +kernel), in_g 707 (by decide +kernel) (by decide +kernel)⟩⟩
theorem fl5_71 : FLc Rc5 71 3 0 0 := ⟨⟨Rc3, Tc3, 4, ck3, by decide, Or.inr ⟨"AskedNames", List.mem_of_getElem? (i := 273) (by decide +kernel)⟩⟩, by decide +kernel⟩
theorem fp5_71 : FPc Rc5 71 3 0 0 (.int) := ⟨fl5_71.1, fun C T N h => by cases h; exact ⟨rfl, by decide +kernel⟩, fl5_71.2⟩
theorem fl5_74 : FLc Rc5 74 4 0 0 := ⟨⟨Rc4, Tc4, 3, ck4, by decide, Or.inr ⟨"AskedNames", List.mem_of_getElem? (i := 302) (by decide +kernel)⟩⟩, by decide +kernel⟩
theorem fp5_74 : FPc Rc5 74 4 0 0 (.int) := ⟨fl5_74.1, fun C T N h => by cases h; exact ⟨rfl, by decide +kernel⟩, fl5_74.2⟩
theorem ml5_77 : MLk 0 Rc5 77 y5_step prog_8_method_13_code 1 none 0 := ⟨in_g 715 (by decide +kernel) (by decide +kernel), in_g 146 (by decide +kernel) (by decide +kernel), Or.inl (in_g 712 (by decide +kernel) (by decide +kernel)), ⟨by decide +kernel, by decide +kernel, by decide +kernel⟩, by decide, ⟨in_g 714 (by decide +kernel) (by decide +kernel), in_g 0 (by decide +kernel) (by decide +kernel)⟩⟩
theorem ml5_80 : MLk 0 Rc5 80 y5_readLine prog_8_method_3_code 5 none 0 := ⟨in_g 733 (by decide +kernel) (by decide +kernel), in_g 146 (by decide +kernel) (by decide +kernel), Or.inl (in_g 730 (by decide +kernel) (by decide +kernel)), ⟨by decide +kernel, by decide +kernel, by decide +kernel⟩, by decide, ⟨in_g 732 (by decide +kernel) (by decide +kernel), in_g 3 (by decide +kernel) (by decide +kernel)⟩⟩
theorem fl5_83 : FLc Rc5 83 2 0 0 := ⟨⟨Rc2, Tc2, 17, ck2, by decide, Or.inr ⟨"AskedNames", List.mem_of_getElem? (i := 184) (by decide +kernel)⟩⟩, by decide +kernel⟩
theorem ml5_86 : MLk 0 Rc5 86 y5_mark prog_8_method_4_code 3 none 2 := ⟨in_g 819 (by decide +kernel) (by decide +kernel), in_g 146 (by decide +kernel) (by decide +kernel), Or.inl (in_g 816 (by decide +kernel) (by decide +kernel)), ⟨by decide +kernel, by decide +kernel, by decide +kernel⟩, by decide, ⟨in_g 818 (by decide +kernel) (by decide +kernel), in_g 8 (by decide +kernel) (by decide +kernel)⟩⟩
theorem ml5_90 : MLk 0 Rc5 90 y5_verbHere prog_8_method_9_code 2 (some (.int)) 0 := ⟨in_g 737 (by decide +kernel) (by decide +kernel), in_g 146 (by decide +kernel) (by decide +kernel), Or.inl (in_g 734 (by decide +kernel) (by decide +kernel)), ⟨by decide +kernel, by decide +kernel, by decide +kernel⟩, by decide, ⟨in_g 736 (by decide +kernel) (by decide +kernel), in_g 4 (by decide +kernel) (by decide +kernel)⟩⟩
theorem ml5_94 : MLk 0 Rc5 94 y5_refuse prog_8_method_5_code 1 none 0 := ⟨in_g 811 (by decide +kernel) (by decide +kernel), in_g 146 (by decide +kernel) (by decide +kernel), Or.inl (in_g 808 (by decide +kernel) (by decide +kernel)), ⟨by decide +kernel, by decide +kernel, by decide +kernel⟩, by decide, ⟨in_g 810 (by decide +kernel) (by decide +kernel), in_g 6 (by decide +kernel) (by decide +kernel)⟩⟩
theorem ml5_97 : MLk 0 Rc5 97 y5_isOneTooMany prog_8_method_6_code 2 (some (.boolean)) 1 := ⟨in_g 815 (by decide +kernel) (by decide +kernel), in_g 146 (by decide +kernel) (by decide +kernel), Or.inl (in_g 812 (by decide +kernel) (by decide +kernel)), ⟨by decide +kernel, by decide +kernel, by decide +kernel⟩, by decide, ⟨in_g 814 (by decide +kernel) (by decide +kernel), in_g 7 (by decide +kernel) (by decide +kernel)⟩⟩
theorem ml5_101 : MLk 1 Rc5 101 y5_shapeOf prog_8_method_12_code 1 (some (.object "java/lang/String")) 1 := ⟨in_g 822 (by decide +kernel) (by decide +kernel), in_g 146 (by decide +kernel) (by decide +kernel), Or.inl (in_g 820 (by decide +kernel) (by decide +kernel)), ⟨by decide +kernel, by decide +kernel, by decide +kernel⟩, by decide, in_g 821 (by decide +kernel) (by decide +kernel)⟩
theorem ml5_105 : MLk 0 Rc5 105 yJString_length prog_17_method_54_code 1 (some (.int)) 0 := ⟨in_g 763 (by decide +kernel) (by decide +kernel), in_g 154 (by decide +kernel) (by decide +kernel), Or.inl (in_g 760 (by decide +kernel) (by decide +kernel)), ⟨by decide +kernel, by decide +kernel, by decide +kernel⟩, by decide, ⟨in_g 761 (by decide +kernel) (by decide +kernel), in_g 762 (by decide +kernel) (by decide +kernel)⟩⟩
theorem ml5_109 : MLk 0 Rc5 109 yJString_charAt prog_17_method_56_code 2 (some (.char)) 1 := ⟨in_g 773 (by decide +kernel) (by decide +kernel), in_g 154 (by decide +kernel) (by decide +kernel), Or.inl (in_g 770 (by decide +kernel) (by decide +kernel)), ⟨by decide +kernel, by decide +kernel, by decide +kernel⟩, by decide, ⟨in_g 771 (by decide +kernel) (by decide +kernel), in_g 772 (by decide +kernel) (by decide +kernel)⟩⟩
theorem ml5_113 : MLk 0 Rc5 113 y5_canBe prog_8_method_7_code 2 (some (.boolean)) 1 := ⟨in_g 837 (by decide +kernel) (by decide +kernel), in_g 146 (by decide +kernel) (by decide +kernel), Or.inl (in_g 834 (by decide +kernel) (by decide +kernel)), ⟨by decide +kernel, by decide +kernel, by decide +kernel⟩, by decide, ⟨in_g 836 (by decide +kernel) (by decide +kernel), in_g 9 (by decide +kernel) (by decide +kernel)⟩⟩
theorem ml5_117 : MLk 0 Rc5 117 y5_tell prog_8_method_8_code 3 none 1 := ⟨in_g 844 (by decide +kernel) (by decide +kernel), in_g 146 (by decide +kernel) (by decide +kernel), Or.inl (in_g 841 (by decide +kernel) (by decide +kernel)), ⟨by decide +kernel, by decide +kernel, by decide +kernel⟩, by decide, ⟨in_g 843 (by decide +kernel) (by decide +kernel), in_g 10 (by decide +kernel) (by decide +kernel)⟩⟩
theorem fl5_121 : FLc Rc5 121 2 3 0 := ⟨⟨Rc2, Tc2, 17, ck2, by decide, Or.inr ⟨"AskedNames", List.mem_of_getElem? (i := 195) (by decide +kernel)⟩⟩, by decide +kernel⟩
theorem fl5_124 : FLc Rc5 124 2 4 0 := ⟨⟨Rc2, Tc2, 17, ck2, by decide, Or.inr ⟨"AskedNames", List.mem_of_getElem? (i := 200) (by decide +kernel)⟩⟩, by decide +kernel⟩
theorem ml5_127 : MLk 1 Rc5 127 yJMath_max prog_16_method_65_code 2 (some (.int)) 2 := ⟨in_g 840 (by decide +kernel) (by decide +kernel), in_g 158 (by decide +kernel) (by decide +kernel), Or.inl (in_g 838 (by decide +kernel) (by decide +kernel)), ⟨by decide +kernel, by decide +kernel, by decide +kernel⟩, by decide, in_g 839 (by decide +kernel) (by decide +kernel)⟩
theorem fp5_83 : FPc Rc5 83 2 0 0 (.int) := ⟨fl5_83.1, fun C T N h => by cases h; exact ⟨rfl, by decide +kernel⟩, fl5_83.2⟩
theorem fl5_133 : FLc Rc5 133 2 1 0 := ⟨⟨Rc2, Tc2, 17, ck2, by decide, Or.inr ⟨"AskedNames", List.mem_of_getElem? (i := 189) (by decide +kernel)⟩⟩, by decide +kernel⟩
theorem fp5_133 : FPc Rc5 133 2 1 0 (.int) := ⟨fl5_133.1, fun C T N h => by cases h; exact ⟨rfl, by decide +kernel⟩, fl5_133.2⟩
theorem fl5_136 : FLc Rc5 136 2 5 4 := ⟨⟨Rc2, Tc2, 17, ck2, by decide, Or.inr ⟨"AskedNames", List.mem_of_getElem? (i := 204) (by decide +kernel)⟩⟩, by decide +kernel⟩
theorem ml5_139 : MLk 0 Rc5 139 y2_addLink prog_7_method_4_code 5 none 3 := ⟨in_g 848 (by decide +kernel) (by decide +kernel), in_g 143 (by decide +kernel) (by decide +kernel), Or.inl (in_g 845 (by decide +kernel) (by decide +kernel)), ⟨by decide +kernel, by decide +kernel, by decide +kernel⟩, by decide, ⟨in_g 846 (by decide +kernel) (by decide +kernel), in_g 847 (by decide +kernel) (by decide +kernel)⟩⟩
theorem ml5_143 : MLk 0 Rc5 143 y2_addRoute prog_7_method_5_code 5 none 4 := ⟨in_g 852 (by decide +kernel) (by decide +kernel), in_g 143 (by decide +kernel) (by decide +kernel), Or.inl (in_g 849 (by decide +kernel) (by decide +kernel)), ⟨by decide +kernel, by decide +kernel, by decide +kernel⟩, by decide, ⟨in_g 850 (by decide +kernel) (by decide +kernel), in_g 851 (by decide +kernel) (by decide +kernel)⟩⟩
theorem ml5_147 : MLk 0 Rc5 147 y2_addServe prog_7_method_6_code 4 none 3 := ⟨in_g 856 (by decide +kernel) (by decide +kernel), in_g 143 (by decide +kernel) (by decide +kernel), Or.inl (in_g 853 (by decide +kernel) (by decide +kernel)), ⟨by decide +kernel, by decide +kernel, by decide +kernel⟩, by decide, ⟨in_g 854 (by decide +kernel) (by decide +kernel), in_g 855 (by decide +kernel) (by decide +kernel)⟩⟩
theorem ml5_150 : MLk 0 Rc5 150 y3_add prog_9_method_3_code 4 none 3 := ⟨in_g 860 (by decide +kernel) (by decide +kernel), in_g 144 (by decide +kernel) (by decide +kernel), Or.inl (in_g 857 (by decide +kernel) (by decide +kernel)), ⟨by decide +kernel, by decide +kernel, by decide +kernel⟩, by decide, ⟨in_g 858 (by decide +kernel) (by decide +kernel), in_g 859 (by decide +kernel) (by decide +kernel)⟩⟩
theorem ml5_153 : MLk 0 Rc5 153 y4_add prog_5_method_3_code 3 none 2 := ⟨in_g 864 (by decide +kernel) (by decide +kernel), in_g 145 (by decide +kernel) (by decide +kernel), Or.inl (in_g 861 (by decide +kernel) (by decide +kernel)), ⟨by decide +kernel, by decide +kernel, by decide +kernel⟩, by decide, ⟨in_g 862 (by decide +kernel) (by decide +kernel), in_g 863 (by decide +kernel) (by decide +kernel)⟩⟩
theorem ml5_158 : MLk 1 Rc5 158 y5_wordOf prog_8_method_11_code 1 (some (.object "java/lang/String")) 1 := ⟨in_g 742 (by decide +kernel) (by decide +kernel), in_g 146 (by decide +kernel) (by decide +kernel), Or.inl (in_g 740 (by decide +kernel) (by decide +kernel)), ⟨by decide +kernel, by decide +kernel, by decide +kernel⟩, by decide, in_g 741 (by decide +kernel) (by decide +kernel)⟩
theorem ml5_161 : MLk 0 Rc5 161 y5_isHere prog_8_method_10_code 3 (some (.boolean)) 1 := ⟨in_g 759 (by decide +kernel) (by decide +kernel), in_g 146 (by decide +kernel) (by decide +kernel), Or.inl (in_g 756 (by decide +kernel) (by decide +kernel)), ⟨by decide +kernel, by decide +kernel, by decide +kernel⟩, by decide, ⟨in_g 758 (by decide +kernel) (by decide +kernel), in_g 5 (by decide +kernel) (by decide +kernel)⟩⟩
theorem ml5_210 : MLk 1 Rc5 210 y5_isLetter prog_8_method_16_code 1 (some (.boolean)) 1 := ⟨in_g 718 (by decide +kernel) (by decide +kernel), in_g 146 (by decide +kernel) (by decide +kernel), Or.inl (in_g 716 (by decide +kernel) (by decide +kernel)), ⟨by decide +kernel, by decide +kernel, by decide +kernel⟩, by decide, in_g 717 (by decide +kernel) (by decide +kernel)⟩
theorem ml5_213 : MLk 0 Rc5 213 y5_takeWord prog_8_method_14_code 1 none 0 := ⟨in_g 722 (by decide +kernel) (by decide +kernel), in_g 146 (by decide +kernel) (by decide +kernel), Or.inl (in_g 719 (by decide +kernel) (by decide +kernel)), ⟨by decide +kernel, by decide +kernel, by decide +kernel⟩, by decide, ⟨in_g 721 (by decide +kernel) (by decide +kernel), in_g 1 (by decide +kernel) (by decide +kernel)⟩⟩
theorem ml5_216 : MLk 1 Rc5 216 y5_isDigit prog_8_method_17_code 1 (some (.boolean)) 1 := ⟨in_g 725 (by decide +kernel) (by decide +kernel), in_g 146 (by decide +kernel) (by decide +kernel), Or.inl (in_g 723 (by decide +kernel) (by decide +kernel)), ⟨by decide +kernel, by decide +kernel, by decide +kernel⟩, by decide, in_g 724 (by decide +kernel) (by decide +kernel)⟩
theorem ml5_219 : MLk 0 Rc5 219 y5_takeNumber prog_8_method_15_code 1 none 0 := ⟨in_g 729 (by decide +kernel) (by decide +kernel), in_g 146 (by decide +kernel) (by decide +kernel), Or.inl (in_g 726 (by decide +kernel) (by decide +kernel)), ⟨by decide +kernel, by decide +kernel, by decide +kernel⟩, by decide, ⟨in_g 728 (by decide +kernel) (by decide +kernel), in_g 2 (by decide +kernel) (by decide +kernel)⟩⟩
theorem fl3_9 : FLc Rc3 9 3 0 0 := ⟨⟨Rc3, Tc3, 4, ck3, by decide, Or.inl (in_g 272 (by decide +kernel) (by decide +kernel))⟩, by decide +kernel⟩
theorem fl3_9r : FLc Rc3 9 15 0 0 := ⟨⟨Rc3, Tc3, 4, ck15, by decide, Or.inl (in_g 272 (by decide +kernel) (by decide +kernel))⟩, by decide +kernel⟩
theorem fp3_9 : FPc Rc3 9 3 0 0 (.int) := ⟨fl3_9.1, fun C T N h => by cases h; exact ⟨rfl, by decide +kernel⟩, fl3_9.2⟩
theorem fl3_15 : FLc Rc3 15 3 1 4 := ⟨⟨Rc3, Tc3, 4, ck3, by decide, Or.inl (in_g 276 (by decide +kernel) (by decide +kernel))⟩, by decide +kernel⟩
theorem fl3_15r : FLc Rc3 15 15 1 2 := ⟨⟨Rc3, Tc3, 4, ck15, by decide, Or.inl (in_g 276 (by decide +kernel) (by decide +kernel))⟩, by decide +kernel⟩
theorem fl3_19 : FLc Rc3 19 3 2 5 := ⟨⟨Rc3, Tc3, 4, ck3, by decide, Or.inl (in_g 279 (by decide +kernel) (by decide +kernel))⟩, by decide +kernel⟩
theorem fl3_19r : FLc Rc3 19 15 2 2 := ⟨⟨Rc3, Tc3, 4, ck15, by decide, Or.inl (in_g 279 (by decide +kernel) (by decide +kernel))⟩, by decide +kernel⟩
theorem fl3_22 : FLc Rc3 22 3 3 6 := ⟨⟨Rc3, Tc3, 4, ck3, by decide, Or.inl (in_g 282 (by decide +kernel) (by decide +kernel))⟩, by decide +kernel⟩
theorem fl3_22r : FLc Rc3 22 15 3 2 := ⟨⟨Rc3, Tc3, 4, ck15, by decide, Or.inl (in_g 282 (by decide +kernel) (by decide +kernel))⟩, by decide +kernel⟩
theorem fl8_9 : FLc Rc8 9 8 0 0 := ⟨⟨Rc8, Tc8, 4, ck8, by decide, Or.inl (in_g 547 (by decide +kernel) (by decide +kernel))⟩, by decide +kernel⟩
theorem fl8_9r : FLc Rc8 9 20 0 0 := ⟨⟨Rc8, Tc8, 4, ck20, by decide, Or.inl (in_g 547 (by decide +kernel) (by decide +kernel))⟩, by decide +kernel⟩
theorem fp8_9 : FPc Rc8 9 8 0 0 (.int) := ⟨fl8_9.1, fun C T N h => by cases h; exact ⟨rfl, by decide +kernel⟩, fl8_9.2⟩
theorem fl8_15 : FLc Rc8 15 8 1 4 := ⟨⟨Rc8, Tc8, 4, ck8, by decide, Or.inl (in_g 550 (by decide +kernel) (by decide +kernel))⟩, by decide +kernel⟩
theorem fl8_15r : FLc Rc8 15 20 1 2 := ⟨⟨Rc8, Tc8, 4, ck20, by decide, Or.inl (in_g 550 (by decide +kernel) (by decide +kernel))⟩, by decide +kernel⟩
theorem fl8_19 : FLc Rc8 19 8 2 5 := ⟨⟨Rc8, Tc8, 4, ck8, by decide, Or.inl (in_g 553 (by decide +kernel) (by decide +kernel))⟩, by decide +kernel⟩
theorem fl8_19r : FLc Rc8 19 20 2 2 := ⟨⟨Rc8, Tc8, 4, ck20, by decide, Or.inl (in_g 553 (by decide +kernel) (by decide +kernel))⟩, by decide +kernel⟩
theorem fl8_22 : FLc Rc8 22 8 3 6 := ⟨⟨Rc8, Tc8, 4, ck8, by decide, Or.inl (in_g 556 (by decide +kernel) (by decide +kernel))⟩, by decide +kernel⟩
theorem fl8_22r : FLc Rc8 22 20 3 2 := ⟨⟨Rc8, Tc8, 4, ck20, by decide, Or.inl (in_g 556 (by decide +kernel) (by decide +kernel))⟩, by decide +kernel⟩
theorem ml8_25 : MLk 0 Rc8 25 y8_remove prog_10_method_5_code 3 none 1 := ⟨in_g 1003 (by decide +kernel) (by decide +kernel), in_g 150 (by decide +kernel) (by decide +kernel), Or.inl (in_g 1000 (by decide +kernel) (by decide +kernel)), ⟨by decide +kernel, by decide +kernel, by decide +kernel⟩, by decide, ⟨in_g 1002 (by decide +kernel) (by decide +kernel), in_g 23 (by decide +kernel) (by decide +kernel)⟩⟩
theorem ml8_29 : MLk 0 Rc8 29 y8_add prog_10_method_6_code 4 none 3 := ⟨in_g 1007 (by decide +kernel) (by decide +kernel), in_g 150 (by decide +kernel) (by decide +kernel), Or.inl (in_g 1004 (by decide +kernel) (by decide +kernel)), ⟨by decide +kernel, by decide +kernel, by decide +kernel⟩, by decide, ⟨in_g 1006 (by decide +kernel) (by decide +kernel), in_g 24 (by decide +kernel) (by decide +kernel)⟩⟩
theorem fl8_33 : FLc Rc8 33 7 4 0 := ⟨⟨Rc7, Tc7, 14, ck7, by decide, Or.inr ⟨"AskedNames", List.mem_of_getElem? (i := 436) (by decide +kernel)⟩⟩, by decide +kernel⟩
theorem ml8_37 : MLk 0 Rc8 37 y8_find prog_10_method_2_code 3 (some (.int)) 1 := ⟨in_g 963 (by decide +kernel) (by decide +kernel), in_g 150 (by decide +kernel) (by decide +kernel), Or.inl (in_g 1064 (by decide +kernel) (by decide +kernel)), ⟨by decide +kernel, by decide +kernel, by decide +kernel⟩, by decide, ⟨in_g 961 (by decide +kernel) (by decide +kernel), in_g 962 (by decide +kernel) (by decide +kernel)⟩⟩
theorem fl8_41 : FLc Rc8 41 7 7 0 := ⟨⟨Rc7, Tc7, 14, ck7, by decide, Or.inr ⟨"AskedNames", List.mem_of_getElem? (i := 443) (by decide +kernel)⟩⟩, by decide +kernel⟩
theorem fl8_43 : FLc Rc8 43 7 8 0 := ⟨⟨Rc7, Tc7, 14, ck7, by decide, Or.inr ⟨"AskedNames", List.mem_of_getElem? (i := 446) (by decide +kernel)⟩⟩, by decide +kernel⟩
theorem fl1_9 : FLc Rc1 9 1 0 4 := ⟨⟨Rc1, Tc1, 8, ck1, by decide, Or.inl (in_g 315 (by decide +kernel) (by decide +kernel))⟩, by decide +kernel⟩
theorem fl1_9r : FLc Rc1 9 13 0 2 := ⟨⟨Rc1, Tc1, 8, ck13, by decide, Or.inl (in_g 315 (by decide +kernel) (by decide +kernel))⟩, by decide +kernel⟩
theorem fl1_15 : FLc Rc1 15 1 1 0 := ⟨⟨Rc1, Tc1, 8, ck1, by decide, Or.inl (in_g 317 (by decide +kernel) (by decide +kernel))⟩, by decide +kernel⟩
theorem fl1_15r : FLc Rc1 15 13 1 0 := ⟨⟨Rc1, Tc1, 8, ck13, by decide, Or.inl (in_g 317 (by decide +kernel) (by decide +kernel))⟩, by decide +kernel⟩
theorem fp1_15 : FPc Rc1 15 1 1 0 (.int) := ⟨fl1_15.1, fun C T N h => by cases h; exact ⟨rfl, by decide +kernel⟩, fl1_15.2⟩
theorem fl1_19 : FLc Rc1 19 1 2 0 := ⟨⟨Rc1, Tc1, 8, ck1, by decide, Or.inl (in_g 319 (by decide +kernel) (by decide +kernel))⟩, by decide +kernel⟩
theorem fl1_19r : FLc Rc1 19 13 2 0 := ⟨⟨Rc1, Tc1, 8, ck13, by decide, Or.inl (in_g 319 (by decide +kernel) (by decide +kernel))⟩, by decide +kernel⟩
theorem fp1_19 : FPc Rc1 19 1 2 0 (.int) := ⟨fl1_19.1, fun C T N h => by cases h; exact ⟨rfl, by decide +kernel⟩, fl1_19.2⟩
theorem fl1_22 : FLc Rc1 22 1 3 0 := ⟨⟨Rc1, Tc1, 8, ck1, by decide, Or.inl (in_g 321 (by decide +kernel) (by decide +kernel))⟩, by decide +kernel⟩
theorem fl1_22r : FLc Rc1 22 13 3 0 := ⟨⟨Rc1, Tc1, 8, ck13, by decide, Or.inl (in_g 321 (by decide +kernel) (by decide +kernel))⟩, by decide +kernel⟩
theorem fp1_22 : FPc Rc1 22 1 3 0 (.int) := ⟨fl1_22.1, fun C T N h => by cases h; exact ⟨rfl, by decide +kernel⟩, fl1_22.2⟩
theorem fl1_25 : FLc Rc1 25 1 4 5 := ⟨⟨Rc1, Tc1, 8, ck1, by decide, Or.inl (in_g 323 (by decide +kernel) (by decide +kernel))⟩, by decide +kernel⟩
theorem fl1_25r : FLc Rc1 25 13 4 2 := ⟨⟨Rc1, Tc1, 8, ck13, by decide, Or.inl (in_g 323 (by decide +kernel) (by decide +kernel))⟩, by decide +kernel⟩
theorem fl1_32 : FLc Rc1 32 1 5 6 := ⟨⟨Rc1, Tc1, 8, ck1, by decide, Or.inl (in_g 325 (by decide +kernel) (by decide +kernel))⟩, by decide +kernel⟩
theorem fl1_32r : FLc Rc1 32 13 5 2 := ⟨⟨Rc1, Tc1, 8, ck13, by decide, Or.inl (in_g 325 (by decide +kernel) (by decide +kernel))⟩, by decide +kernel⟩
theorem fl1_39 : FLc Rc1 39 1 6 33 := ⟨⟨Rc1, Tc1, 8, ck1, by decide, Or.inl (in_g 327 (by decide +kernel) (by decide +kernel))⟩, by decide +kernel⟩
theorem fl1_39r : FLc Rc1 39 13 6 2 := ⟨⟨Rc1, Tc1, 8, ck13, by decide, Or.inl (in_g 327 (by decide +kernel) (by decide +kernel))⟩, by decide +kernel⟩
theorem fl1_46 : FLc Rc1 46 1 7 42 := ⟨⟨Rc1, Tc1, 8, ck1, by decide, Or.inl (in_g 329 (by decide +kernel) (by decide +kernel))⟩, by decide +kernel⟩
theorem fl1_46r : FLc Rc1 46 13 7 2 := ⟨⟨Rc1, Tc1, 8, ck13, by decide, Or.inl (in_g 329 (by decide +kernel) (by decide +kernel))⟩, by decide +kernel⟩
theorem fl1_50 : FLc Rc1 50 5 0 4 := ⟨⟨Rc5, Tc5, 14, ck5, by decide, Or.inr ⟨"AskedNames", List.mem_of_getElem? (i := 362) (by decide +kernel)⟩⟩, by decide +kernel⟩
theorem ml1_56 : MLk 0 Rc1 56 y2_copy prog_7_method_3_code 2 none 1 := ⟨in_g 872 (by decide +kernel) (by decide +kernel), in_g 143 (by decide +kernel) (by decide +kernel), Or.inl (in_g 869 (by decide +kernel) (by decide +kernel)), ⟨by decide +kernel, by decide +kernel, by decide +kernel⟩, by decide, ⟨in_g 870 (by decide +kernel) (by decide +kernel), in_g 871 (by decide +kernel) (by decide +kernel)⟩⟩
theorem fl1_60 : FLc Rc1 60 5 1 17 := ⟨⟨Rc5, Tc5, 14, ck5, by decide, Or.inr ⟨"AskedNames", List.mem_of_getElem? (i := 364) (by decide +kernel)⟩⟩, by decide +kernel⟩
theorem ml1_64 : MLk 0 Rc1 64 y3_copy prog_9_method_2_code 2 none 1 := ⟨in_g 879 (by decide +kernel) (by decide +kernel), in_g 144 (by decide +kernel) (by decide +kernel), Or.inl (in_g 876 (by decide +kernel) (by decide +kernel)), ⟨by decide +kernel, by decide +kernel, by decide +kernel⟩, by decide, ⟨in_g 877 (by decide +kernel) (by decide +kernel), in_g 878 (by decide +kernel) (by decide +kernel)⟩⟩
theorem fl1_67 : FLc Rc1 67 5 2 21 := ⟨⟨Rc5, Tc5, 14, ck5, by decide, Or.inr ⟨"AskedNames", List.mem_of_getElem? (i := 366) (by decide +kernel)⟩⟩, by decide +kernel⟩
theorem ml1_71 : MLk 0 Rc1 71 y4_copy prog_5_method_2_code 2 none 1 := ⟨in_g 884 (by decide +kernel) (by decide +kernel), in_g 145 (by decide +kernel) (by decide +kernel), Or.inl (in_g 881 (by decide +kernel) (by decide +kernel)), ⟨by decide +kernel, by decide +kernel, by decide +kernel⟩, by decide, ⟨in_g 882 (by decide +kernel) (by decide +kernel), in_g 883 (by decide +kernel) (by decide +kernel)⟩⟩
theorem ml1_74 : MLk 1 Rc1 74 yJMath_max prog_16_method_65_code 2 (some (.int)) 2 := ⟨in_g 840 (by decide +kernel) (by decide +kernel), in_g 158 (by decide +kernel) (by decide +kernel), Or.inl (in_g 886 (by decide +kernel) (by decide +kernel)), ⟨by decide +kernel, by decide +kernel, by decide +kernel⟩, by decide, in_g 839 (by decide +kernel) (by decide +kernel)⟩
theorem mlL_13 : MLk 0 "AskedNamesLaw" 13 y0_feed prog_1_method_2_code 6 (some (.int)) 5 := ⟨in_g 688 (by decide +kernel) (by decide +kernel), in_g 141 (by decide +kernel) (by decide +kernel), Or.inl (in_g 685 (by decide +kernel) (by decide +kernel)), ⟨by decide +kernel, by decide +kernel, by decide +kernel⟩, by decide, ⟨in_g 686 (by decide +kernel) (by decide +kernel), in_g 687 (by decide +kernel) (by decide +kernel)⟩⟩
theorem mlL_17 : MLk 0 "AskedNamesLaw" 17 y11_feed prog_13_method_11_code 6 (some (.int)) 5 := ⟨in_g 1564 (by decide +kernel) (by decide +kernel), in_g 152 (by decide +kernel) (by decide +kernel), Or.inl (in_g 1561 (by decide +kernel) (by decide +kernel)), ⟨by decide +kernel, by decide +kernel, by decide +kernel⟩, by decide, ⟨in_g 1562 (by decide +kernel) (by decide +kernel), in_g 1563 (by decide +kernel) (by decide +kernel)⟩⟩
theorem mlL_18 : MLk 0 "AskedNamesLaw" 18 y0_end prog_1_method_3_code 2 (some (.int)) 1 := ⟨in_g 696 (by decide +kernel) (by decide +kernel), in_g 141 (by decide +kernel) (by decide +kernel), Or.inl (in_g 693 (by decide +kernel) (by decide +kernel)), ⟨by decide +kernel, by decide +kernel, by decide +kernel⟩, by decide, ⟨in_g 694 (by decide +kernel) (by decide +kernel), in_g 695 (by decide +kernel) (by decide +kernel)⟩⟩
theorem mlL_22 : MLk 0 "AskedNamesLaw" 22 y11_end prog_13_method_13_code 2 (some (.int)) 1 := ⟨in_g 1572 (by decide +kernel) (by decide +kernel), in_g 152 (by decide +kernel) (by decide +kernel), Or.inl (in_g 1569 (by decide +kernel) (by decide +kernel)), ⟨by decide +kernel, by decide +kernel, by decide +kernel⟩, by decide, ⟨in_g 1570 (by decide +kernel) (by decide +kernel), in_g 1571 (by decide +kernel) (by decide +kernel)⟩⟩
theorem mlL_23 : MLk 0 "AskedNamesLaw" 23 y0_text prog_1_method_4_code 8 (some (.int)) 2 := ⟨in_g 700 (by decide +kernel) (by decide +kernel), in_g 141 (by decide +kernel) (by decide +kernel), Or.inl (in_g 697 (by decide +kernel) (by decide +kernel)), ⟨by decide +kernel, by decide +kernel, by decide +kernel⟩, by decide, ⟨in_g 698 (by decide +kernel) (by decide +kernel), in_g 699 (by decide +kernel) (by decide +kernel)⟩⟩
theorem mlL_27 : MLk 0 "AskedNamesLaw" 27 y11_text prog_13_method_34_code 4 (some (.int)) 2 := ⟨in_g 1579 (by decide +kernel) (by decide +kernel), in_g 152 (by decide +kernel) (by decide +kernel), Or.inl (in_g 1576 (by decide +kernel) (by decide +kernel)), ⟨by decide +kernel, by decide +kernel, by decide +kernel⟩, by decide, ⟨in_g 1577 (by decide +kernel) (by decide +kernel), in_g 1578 (by decide +kernel) (by decide +kernel)⟩⟩
theorem mlL_28 : MLk 0 "AskedNamesLaw" 28 y0_fault prog_1_method_5_code 2 (some (.int)) 1 := ⟨in_g 890 (by decide +kernel) (by decide +kernel), in_g 141 (by decide +kernel) (by decide +kernel), Or.inl (in_g 887 (by decide +kernel) (by decide +kernel)), ⟨by decide +kernel, by decide +kernel, by decide +kernel⟩, by decide, ⟨in_g 888 (by decide +kernel) (by decide +kernel), in_g 889 (by decide +kernel) (by decide +kernel)⟩⟩
theorem mlL_31 : MLk 0 "AskedNamesLaw" 31 y11_fault prog_13_method_35_code 2 (some (.int)) 1 := ⟨in_g 1686 (by decide +kernel) (by decide +kernel), in_g 152 (by decide +kernel) (by decide +kernel), Or.inl (in_g 1683 (by decide +kernel) (by decide +kernel)), ⟨by decide +kernel, by decide +kernel, by decide +kernel⟩, by decide, ⟨in_g 1684 (by decide +kernel) (by decide +kernel), in_g 1685 (by decide +kernel) (by decide +kernel)⟩⟩
theorem mlL_32 : MLk 0 "AskedNamesLaw" 32 y0_net prog_1_method_6_code 4 (some (.int)) 2 := ⟨in_g 894 (by decide +kernel) (by decide +kernel), in_g 141 (by decide +kernel) (by decide +kernel), Or.inl (in_g 891 (by decide +kernel) (by decide +kernel)), ⟨by decide +kernel, by decide +kernel, by decide +kernel⟩, by decide, ⟨in_g 892 (by decide +kernel) (by decide +kernel), in_g 893 (by decide +kernel) (by decide +kernel)⟩⟩
theorem mlL_35 : MLk 0 "AskedNamesLaw" 35 y11_net prog_13_method_54_code 5 (some (.int)) 2 := ⟨in_g 1690 (by decide +kernel) (by decide +kernel), in_g 152 (by decide +kernel) (by decide +kernel), Or.inl (in_g 1687 (by decide +kernel) (by decide +kernel)), ⟨by decide +kernel, by decide +kernel, by decide +kernel⟩, by decide, ⟨in_g 1688 (by decide +kernel) (by decide +kernel), in_g 1689 (by decide +kernel) (by decide +kernel)⟩⟩
theorem mlL_36 : MLk 0 "AskedNamesLaw" 36 y0_deed prog_1_method_7_code 5 (some (.int)) 3 := ⟨in_g 918 (by decide +kernel) (by decide +kernel), in_g 141 (by decide +kernel) (by decide +kernel), Or.inl (in_g 915 (by decide +kernel) (by decide +kernel)), ⟨by decide +kernel, by decide +kernel, by decide +kernel⟩, by decide, ⟨in_g 916 (by decide +kernel) (by decide +kernel), in_g 917 (by decide +kernel) (by decide +kernel)⟩⟩
theorem mlL_40 : MLk 0 "AskedNamesLaw" 40 y11_deed prog_13_method_90_code 4 (some (.int)) 3 := ⟨in_g 1738 (by decide +kernel) (by decide +kernel), in_g 152 (by decide +kernel) (by decide +kernel), Or.inl (in_g 1735 (by decide +kernel) (by decide +kernel)), ⟨by decide +kernel, by decide +kernel, by decide +kernel⟩, by decide, ⟨in_g 1736 (by decide +kernel) (by decide +kernel), in_g 1737 (by decide +kernel) (by decide +kernel)⟩⟩
theorem mlL_41 : MLk 0 "AskedNamesLaw" 41 y0_stop prog_1_method_8_code 5 (some (.int)) 2 := ⟨in_g 926 (by decide +kernel) (by decide +kernel), in_g 141 (by decide +kernel) (by decide +kernel), Or.inl (in_g 923 (by decide +kernel) (by decide +kernel)), ⟨by decide +kernel, by decide +kernel, by decide +kernel⟩, by decide, ⟨in_g 924 (by decide +kernel) (by decide +kernel), in_g 925 (by decide +kernel) (by decide +kernel)⟩⟩
theorem mlL_44 : MLk 0 "AskedNamesLaw" 44 y11_stop prog_13_method_94_code 3 (some (.int)) 2 := ⟨in_g 1754 (by decide +kernel) (by decide +kernel), in_g 152 (by decide +kernel) (by decide +kernel), Or.inl (in_g 1751 (by decide +kernel) (by decide +kernel)), ⟨by decide +kernel, by decide +kernel, by decide +kernel⟩, by decide, ⟨in_g 1752 (by decide +kernel) (by decide +kernel), in_g 1753 (by decide +kernel) (by decide +kernel)⟩⟩
theorem mlL_45 : MLk 0 "AskedNamesLaw" 45 y0_state prog_1_method_9_code 8 (some (.int)) 4 := ⟨in_g 1084 (by decide +kernel) (by decide +kernel), in_g 141 (by decide +kernel) (by decide +kernel), Or.inl (in_g 1081 (by decide +kernel) (by decide +kernel)), ⟨by decide +kernel, by decide +kernel, by decide +kernel⟩, by decide, ⟨in_g 1082 (by decide +kernel) (by decide +kernel), in_g 1083 (by decide +kernel) (by decide +kernel)⟩⟩
theorem mlL_49 : MLk 0 "AskedNamesLaw" 49 y11_state prog_13_method_98_code 5 (some (.int)) 4 := ⟨in_g 1923 (by decide +kernel) (by decide +kernel), in_g 152 (by decide +kernel) (by decide +kernel), Or.inl (in_g 1920 (by decide +kernel) (by decide +kernel)), ⟨by decide +kernel, by decide +kernel, by decide +kernel⟩, by decide, ⟨in_g 1921 (by decide +kernel) (by decide +kernel), in_g 1922 (by decide +kernel) (by decide +kernel)⟩⟩
theorem mlL_50 : MLk 0 "AskedNamesLaw" 50 y0_stored prog_1_method_10_code 11 (some (.int)) 6 := ⟨in_g 1108 (by decide +kernel) (by decide +kernel), in_g 141 (by decide +kernel) (by decide +kernel), Or.inl (in_g 1105 (by decide +kernel) (by decide +kernel)), ⟨by decide +kernel, by decide +kernel, by decide +kernel⟩, by decide, ⟨in_g 1106 (by decide +kernel) (by decide +kernel), in_g 1107 (by decide +kernel) (by decide +kernel)⟩⟩
theorem mlL_54 : MLk 0 "AskedNamesLaw" 54 y11_stored prog_13_method_99_code 8 (some (.int)) 6 := ⟨in_g 1941 (by decide +kernel) (by decide +kernel), in_g 152 (by decide +kernel) (by decide +kernel), Or.inl (in_g 1938 (by decide +kernel) (by decide +kernel)), ⟨by decide +kernel, by decide +kernel, by decide +kernel⟩, by decide, ⟨in_g 1939 (by decide +kernel) (by decide +kernel), in_g 1940 (by decide +kernel) (by decide +kernel)⟩⟩
theorem mlL_55 : MLk 0 "AskedNamesLaw" 55 y0_entry prog_1_method_11_code 11 (some (.int)) 6 := ⟨in_g 1113 (by decide +kernel) (by decide +kernel), in_g 141 (by decide +kernel) (by decide +kernel), Or.inl (in_g 1110 (by decide +kernel) (by decide +kernel)), ⟨by decide +kernel, by decide +kernel, by decide +kernel⟩, by decide, ⟨in_g 1111 (by decide +kernel) (by decide +kernel), in_g 1112 (by decide +kernel) (by decide +kernel)⟩⟩
theorem mlL_58 : MLk 0 "AskedNamesLaw" 58 y11_entry prog_13_method_100_code 8 (some (.int)) 6 := ⟨in_g 1945 (by decide +kernel) (by decide +kernel), in_g 152 (by decide +kernel) (by decide +kernel), Or.inl (in_g 1942 (by decide +kernel) (by decide +kernel)), ⟨by decide +kernel, by decide +kernel, by decide +kernel⟩, by decide, ⟨in_g 1943 (by decide +kernel) (by decide +kernel), in_g 1944 (by decide +kernel) (by decide +kernel)⟩⟩
theorem mlL_59 : MLk 0 "AskedNamesLaw" 59 y0_why prog_1_method_12_code 8 (some (.int)) 4 := ⟨in_g 1126 (by decide +kernel) (by decide +kernel), in_g 141 (by decide +kernel) (by decide +kernel), Or.inl (in_g 1123 (by decide +kernel) (by decide +kernel)), ⟨by decide +kernel, by decide +kernel, by decide +kernel⟩, by decide, ⟨in_g 1124 (by decide +kernel) (by decide +kernel), in_g 1125 (by decide +kernel) (by decide +kernel)⟩⟩
theorem mlL_62 : MLk 0 "AskedNamesLaw" 62 y11_why prog_13_method_102_code 5 (some (.int)) 4 := ⟨in_g 1949 (by decide +kernel) (by decide +kernel), in_g 152 (by decide +kernel) (by decide +kernel), Or.inl (in_g 1946 (by decide +kernel) (by decide +kernel)), ⟨by decide +kernel, by decide +kernel, by decide +kernel⟩, by decide, ⟨in_g 1947 (by decide +kernel) (by decide +kernel), in_g 1948 (by decide +kernel) (by decide +kernel)⟩⟩
theorem mlL_63 : MLk 0 "AskedNamesLaw" 63 y0_alone prog_1_method_13_code 7 (some (.int)) 5 := ⟨in_g 1138 (by decide +kernel) (by decide +kernel), in_g 141 (by decide +kernel) (by decide +kernel), Or.inl (in_g 1135 (by decide +kernel) (by decide +kernel)), ⟨by decide +kernel, by decide +kernel, by decide +kernel⟩, by decide, ⟨in_g 1136 (by decide +kernel) (by decide +kernel), in_g 1137 (by decide +kernel) (by decide +kernel)⟩⟩
theorem mlL_66 : MLk 0 "AskedNamesLaw" 66 y11_alone prog_13_method_103_code 6 (some (.int)) 5 := ⟨in_g 1957 (by decide +kernel) (by decide +kernel), in_g 152 (by decide +kernel) (by decide +kernel), Or.inl (in_g 1954 (by decide +kernel) (by decide +kernel)), ⟨by decide +kernel, by decide +kernel, by decide +kernel⟩, by decide, ⟨in_g 1955 (by decide +kernel) (by decide +kernel), in_g 1956 (by decide +kernel) (by decide +kernel)⟩⟩
theorem mlL_67 : MLk 0 "AskedNamesLaw" 67 y0_table prog_1_method_14_code 5 (some (.int)) 3 := ⟨in_g 1149 (by decide +kernel) (by decide +kernel), in_g 141 (by decide +kernel) (by decide +kernel), Or.inl (in_g 1146 (by decide +kernel) (by decide +kernel)), ⟨by decide +kernel, by decide +kernel, by decide +kernel⟩, by decide, ⟨in_g 1147 (by decide +kernel) (by decide +kernel), in_g 1148 (by decide +kernel) (by decide +kernel)⟩⟩
theorem mlL_70 : MLk 0 "AskedNamesLaw" 70 y11_table prog_13_method_105_code 6 (some (.int)) 3 := ⟨in_g 1964 (by decide +kernel) (by decide +kernel), in_g 152 (by decide +kernel) (by decide +kernel), Or.inl (in_g 1961 (by decide +kernel) (by decide +kernel)), ⟨by decide +kernel, by decide +kernel, by decide +kernel⟩, by decide, ⟨in_g 1962 (by decide +kernel) (by decide +kernel), in_g 1963 (by decide +kernel) (by decide +kernel)⟩⟩
theorem mlL_71 : MLk 0 "AskedNamesLaw" 71 y0_ways prog_1_method_15_code 7 (some (.int)) 4 := ⟨in_g 1168 (by decide +kernel) (by decide +kernel), in_g 141 (by decide +kernel) (by decide +kernel), Or.inl (in_g 1165 (by decide +kernel) (by decide +kernel)), ⟨by decide +kernel, by decide +kernel, by decide +kernel⟩, by decide, ⟨in_g 1166 (by decide +kernel) (by decide +kernel), in_g 1167 (by decide +kernel) (by decide +kernel)⟩⟩
theorem mlL_75 : MLk 0 "AskedNamesLaw" 75 y11_ways prog_13_method_106_code 9 (some (.int)) 4 := ⟨in_g 1972 (by decide +kernel) (by decide +kernel), in_g 152 (by decide +kernel) (by decide +kernel), Or.inl (in_g 1969 (by decide +kernel) (by decide +kernel)), ⟨by decide +kernel, by decide +kernel, by decide +kernel⟩, by decide, ⟨in_g 1970 (by decide +kernel) (by decide +kernel), in_g 1971 (by decide +kernel) (by decide +kernel)⟩⟩
theorem mlL_76 : MLk 0 "AskedNamesLaw" 76 y0_trail prog_1_method_16_code 13 (some (.int)) 4 := ⟨in_g 1181 (by decide +kernel) (by decide +kernel), in_g 141 (by decide +kernel) (by decide +kernel), Or.inl (in_g 1178 (by decide +kernel) (by decide +kernel)), ⟨by decide +kernel, by decide +kernel, by decide +kernel⟩, by decide, ⟨in_g 1179 (by decide +kernel) (by decide +kernel), in_g 1180 (by decide +kernel) (by decide +kernel)⟩⟩
theorem mlL_79 : MLk 0 "AskedNamesLaw" 79 y11_trail prog_13_method_108_code 6 (some (.int)) 4 := ⟨in_g 1976 (by decide +kernel) (by decide +kernel), in_g 152 (by decide +kernel) (by decide +kernel), Or.inl (in_g 1973 (by decide +kernel) (by decide +kernel)), ⟨by decide +kernel, by decide +kernel, by decide +kernel⟩, by decide, ⟨in_g 1974 (by decide +kernel) (by decide +kernel), in_g 1975 (by decide +kernel) (by decide +kernel)⟩⟩
theorem mlL_80 : MLk 0 "AskedNamesLaw" 80 y0_far prog_1_method_17_code 7 (some (.int)) 3 := ⟨in_g 1188 (by decide +kernel) (by decide +kernel), in_g 141 (by decide +kernel) (by decide +kernel), Or.inl (in_g 1185 (by decide +kernel) (by decide +kernel)), ⟨by decide +kernel, by decide +kernel, by decide +kernel⟩, by decide, ⟨in_g 1186 (by decide +kernel) (by decide +kernel), in_g 1187 (by decide +kernel) (by decide +kernel)⟩⟩
theorem mlL_83 : MLk 0 "AskedNamesLaw" 83 y11_far prog_13_method_109_code 7 (some (.int)) 3 := ⟨in_g 1984 (by decide +kernel) (by decide +kernel), in_g 152 (by decide +kernel) (by decide +kernel), Or.inl (in_g 1981 (by decide +kernel) (by decide +kernel)), ⟨by decide +kernel, by decide +kernel, by decide +kernel⟩, by decide, ⟨in_g 1982 (by decide +kernel) (by decide +kernel), in_g 1983 (by decide +kernel) (by decide +kernel)⟩⟩
theorem mlL_84 : MLk 0 "AskedNamesLaw" 84 y0_fact prog_1_method_18_code 5 (some (.int)) 3 := ⟨in_g 1197 (by decide +kernel) (by decide +kernel), in_g 141 (by decide +kernel) (by decide +kernel), Or.inl (in_g 1194 (by decide +kernel) (by decide +kernel)), ⟨by decide +kernel, by decide +kernel, by decide +kernel⟩, by decide, ⟨in_g 1195 (by decide +kernel) (by decide +kernel), in_g 1196 (by decide +kernel) (by decide +kernel)⟩⟩
theorem mlL_87 : MLk 0 "AskedNamesLaw" 87 y11_fact prog_13_method_113_code 4 (some (.int)) 3 := ⟨in_g 1988 (by decide +kernel) (by decide +kernel), in_g 152 (by decide +kernel) (by decide +kernel), Or.inl (in_g 1985 (by decide +kernel) (by decide +kernel)), ⟨by decide +kernel, by decide +kernel, by decide +kernel⟩, by decide, ⟨in_g 1986 (by decide +kernel) (by decide +kernel), in_g 1987 (by decide +kernel) (by decide +kernel)⟩⟩
theorem mlL_88 : MLk 0 "AskedNamesLaw" 88 y0_fits prog_1_method_19_code 11 (some (.int)) 4 := ⟨in_g 1205 (by decide +kernel) (by decide +kernel), in_g 141 (by decide +kernel) (by decide +kernel), Or.inl (in_g 1202 (by decide +kernel) (by decide +kernel)), ⟨by decide +kernel, by decide +kernel, by decide +kernel⟩, by decide, ⟨in_g 1203 (by decide +kernel) (by decide +kernel), in_g 1204 (by decide +kernel) (by decide +kernel)⟩⟩
theorem mlL_91 : MLk 0 "AskedNamesLaw" 91 y11_fits prog_13_method_117_code 6 (some (.int)) 4 := ⟨in_g 2004 (by decide +kernel) (by decide +kernel), in_g 152 (by decide +kernel) (by decide +kernel), Or.inl (in_g 2001 (by decide +kernel) (by decide +kernel)), ⟨by decide +kernel, by decide +kernel, by decide +kernel⟩, by decide, ⟨in_g 2002 (by decide +kernel) (by decide +kernel), in_g 2003 (by decide +kernel) (by decide +kernel)⟩⟩
theorem mlL_92 : MLk 0 "AskedNamesLaw" 92 y0_drawn prog_1_method_20_code 6 (some (.int)) 4 := ⟨in_g 1226 (by decide +kernel) (by decide +kernel), in_g 141 (by decide +kernel) (by decide +kernel), Or.inl (in_g 1223 (by decide +kernel) (by decide +kernel)), ⟨by decide +kernel, by decide +kernel, by decide +kernel⟩, by decide, ⟨in_g 1224 (by decide +kernel) (by decide +kernel), in_g 1225 (by decide +kernel) (by decide +kernel)⟩⟩
theorem mlL_95 : MLk 0 "AskedNamesLaw" 95 y11_drawn prog_13_method_120_code 6 (some (.int)) 4 := ⟨in_g 2020 (by decide +kernel) (by decide +kernel), in_g 152 (by decide +kernel) (by decide +kernel), Or.inl (in_g 2017 (by decide +kernel) (by decide +kernel)), ⟨by decide +kernel, by decide +kernel, by decide +kernel⟩, by decide, ⟨in_g 2018 (by decide +kernel) (by decide +kernel), in_g 2019 (by decide +kernel) (by decide +kernel)⟩⟩
theorem mlL_96 : MLk 0 "AskedNamesLaw" 96 y0_after prog_1_method_21_code 7 (some (.int)) 3 := ⟨in_g 1247 (by decide +kernel) (by decide +kernel), in_g 141 (by decide +kernel) (by decide +kernel), Or.inl (in_g 1244 (by decide +kernel) (by decide +kernel)), ⟨by decide +kernel, by decide +kernel, by decide +kernel⟩, by decide, ⟨in_g 1245 (by decide +kernel) (by decide +kernel), in_g 1246 (by decide +kernel) (by decide +kernel)⟩⟩
theorem mlL_99 : MLk 0 "AskedNamesLaw" 99 y11_after prog_13_method_123_code 4 (some (.int)) 3 := ⟨in_g 2033 (by decide +kernel) (by decide +kernel), in_g 152 (by decide +kernel) (by decide +kernel), Or.inl (in_g 2030 (by decide +kernel) (by decide +kernel)), ⟨by decide +kernel, by decide +kernel, by decide +kernel⟩, by decide, ⟨in_g 2031 (by decide +kernel) (by decide +kernel), in_g 2032 (by decide +kernel) (by decide +kernel)⟩⟩
theorem mlL_100 : MLk 0 "AskedNamesLaw" 100 y0_edges prog_1_method_22_code 4 (some (.int)) 2 := ⟨in_g 1255 (by decide +kernel) (by decide +kernel), in_g 141 (by decide +kernel) (by decide +kernel), Or.inl (in_g 1252 (by decide +kernel) (by decide +kernel)), ⟨by decide +kernel, by decide +kernel, by decide +kernel⟩, by decide, ⟨in_g 1253 (by decide +kernel) (by decide +kernel), in_g 1254 (by decide +kernel) (by decide +kernel)⟩⟩
theorem mlL_103 : MLk 0 "AskedNamesLaw" 103 y11_edges prog_13_method_127_code 6 (some (.int)) 2 := ⟨in_g 2044 (by decide +kernel) (by decide +kernel), in_g 152 (by decide +kernel) (by decide +kernel), Or.inl (in_g 2041 (by decide +kernel) (by decide +kernel)), ⟨by decide +kernel, by decide +kernel, by decide +kernel⟩, by decide, ⟨in_g 2042 (by decide +kernel) (by decide +kernel), in_g 2043 (by decide +kernel) (by decide +kernel)⟩⟩
theorem mlL_104 : MLk 0 "AskedNamesLaw" 104 y0_count prog_1_method_23_code 2 (some (.int)) 1 := ⟨in_g 1279 (by decide +kernel) (by decide +kernel), in_g 141 (by decide +kernel) (by decide +kernel), Or.inl (in_g 1276 (by decide +kernel) (by decide +kernel)), ⟨by decide +kernel, by decide +kernel, by decide +kernel⟩, by decide, ⟨in_g 1277 (by decide +kernel) (by decide +kernel), in_g 1278 (by decide +kernel) (by decide +kernel)⟩⟩
theorem mlL_107 : MLk 0 "AskedNamesLaw" 107 y11_count prog_13_method_128_code 2 (some (.int)) 1 := ⟨in_g 2060 (by decide +kernel) (by decide +kernel), in_g 152 (by decide +kernel) (by decide +kernel), Or.inl (in_g 2057 (by decide +kernel) (by decide +kernel)), ⟨by decide +kernel, by decide +kernel, by decide +kernel⟩, by decide, ⟨in_g 2058 (by decide +kernel) (by decide +kernel), in_g 2059 (by decide +kernel) (by decide +kernel)⟩⟩
theorem mlL_108 : MLk 0 "AskedNamesLaw" 108 y0_image prog_1_method_24_code 2 (some (.boolean)) 1 := ⟨in_g 1283 (by decide +kernel) (by decide +kernel), in_g 141 (by decide +kernel) (by decide +kernel), Or.inl (in_g 1280 (by decide +kernel) (by decide +kernel)), ⟨by decide +kernel, by decide +kernel, by decide +kernel⟩, by decide, ⟨in_g 1281 (by decide +kernel) (by decide +kernel), in_g 1282 (by decide +kernel) (by decide +kernel)⟩⟩
theorem mlL_112 : MLk 0 "AskedNamesLaw" 112 y11_image prog_13_method_129_code 2 (some (.boolean)) 1 := ⟨in_g 2064 (by decide +kernel) (by decide +kernel), in_g 152 (by decide +kernel) (by decide +kernel), Or.inl (in_g 2061 (by decide +kernel) (by decide +kernel)), ⟨by decide +kernel, by decide +kernel, by decide +kernel⟩, by decide, ⟨in_g 2062 (by decide +kernel) (by decide +kernel), in_g 2063 (by decide +kernel) (by decide +kernel)⟩⟩
theorem mlL_113 : MLk 0 "AskedNamesLaw" 113 y0_again prog_1_method_25_code 2 (some (.boolean)) 1 := ⟨in_g 1292 (by decide +kernel) (by decide +kernel), in_g 141 (by decide +kernel) (by decide +kernel), Or.inl (in_g 1289 (by decide +kernel) (by decide +kernel)), ⟨by decide +kernel, by decide +kernel, by decide +kernel⟩, by decide, ⟨in_g 1290 (by decide +kernel) (by decide +kernel), in_g 1291 (by decide +kernel) (by decide +kernel)⟩⟩
theorem mlL_116 : MLk 0 "AskedNamesLaw" 116 y11_again prog_13_method_130_code 2 (some (.boolean)) 1 := ⟨in_g 2075 (by decide +kernel) (by decide +kernel), in_g 152 (by decide +kernel) (by decide +kernel), Or.inl (in_g 2072 (by decide +kernel) (by decide +kernel)), ⟨by decide +kernel, by decide +kernel, by decide +kernel⟩, by decide, ⟨in_g 2073 (by decide +kernel) (by decide +kernel), in_g 2074 (by decide +kernel) (by decide +kernel)⟩⟩
theorem mlJString_492 : MLk 0 "java/lang/String" 492 yJString_isLatin1 prog_17_method_154_code 1 (some (.boolean)) 0 := ⟨in_g 777 (by decide +kernel) (by decide +kernel), in_g 154 (by decide +kernel) (by decide +kernel), Or.inl (in_g 774 (by decide +kernel) (by decide +kernel)), ⟨by decide +kernel, by decide +kernel, by decide +kernel⟩, by decide, ⟨in_g 775 (by decide +kernel) (by decide +kernel), in_g 776 (by decide +kernel) (by decide +kernel)⟩⟩
theorem mlJString_495 : MLk 1 "java/lang/String" 495 yJStringLatin1_charAt prog_18_method_2_code 2 (some (.char)) 2 := ⟨in_g 780 (by decide +kernel) (by decide +kernel), in_g 155 (by decide +kernel) (by decide +kernel), Or.inl (in_g 778 (by decide +kernel) (by decide +kernel)), ⟨by decide +kernel, by decide +kernel, by decide +kernel⟩, by decide, in_g 779 (by decide +kernel) (by decide +kernel)⟩
theorem mlJString_498 : MLk 1 "java/lang/String" 498 yJStringUTF16_charAt prog_19_method_83_code 2 (some (.char)) 2 := ⟨in_g 791 (by decide +kernel) (by decide +kernel), in_g 157 (by decide +kernel) (by decide +kernel), Or.inl (in_g 789 (by decide +kernel) (by decide +kernel)), ⟨by decide +kernel, by decide +kernel, by decide +kernel⟩, by decide, in_g 790 (by decide +kernel) (by decide +kernel)⟩
theorem mlJString_1059 : MLk 1 "java/lang/String" 1059 yJPreconditions_checkIndex prog_22_method_11_code 3 (some (.int)) 3 := ⟨in_g 788 (by decide +kernel) (by decide +kernel), in_g 156 (by decide +kernel) (by decide +kernel), Or.inl (in_g 786 (by decide +kernel) (by decide +kernel)), ⟨by decide +kernel, by decide +kernel, by decide +kernel⟩, by decide, in_g 787 (by decide +kernel) (by decide +kernel)⟩
theorem mlJString_335 : MLk 0 "java/lang/String" 335 yJString_coder prog_17_method_152_code 1 (some (.byte)) 0 := ⟨in_g 767 (by decide +kernel) (by decide +kernel), in_g 154 (by decide +kernel) (by decide +kernel), Or.inl (in_g 764 (by decide +kernel) (by decide +kernel)), ⟨by decide +kernel, by decide +kernel, by decide +kernel⟩, by decide, ⟨in_g 765 (by decide +kernel) (by decide +kernel), in_g 766 (by decide +kernel) (by decide +kernel)⟩⟩
theorem mlJStringLatin1_9 : MLk 1 "java/lang/StringLatin1" 9 yJString_checkIndex prog_17_method_155_code 2 none 2 := ⟨in_g 783 (by decide +kernel) (by decide +kernel), in_g 154 (by decide +kernel) (by decide +kernel), Or.inl (in_g 781 (by decide +kernel) (by decide +kernel)), ⟨by decide +kernel, by decide +kernel, by decide +kernel⟩, by decide, in_g 782 (by decide +kernel) (by decide +kernel)⟩
theorem mlJStringUTF16_67 : MLk 1 "java/lang/StringUTF16" 67 yJStringUTF16_checkIndex prog_19_method_91_code 2 none 2 := ⟨in_g 794 (by decide +kernel) (by decide +kernel), in_g 157 (by decide +kernel) (by decide +kernel), Or.inl (in_g 792 (by decide +kernel) (by decide +kernel)), ⟨by decide +kernel, by decide +kernel, by decide +kernel⟩, by decide, in_g 793 (by decide +kernel) (by decide +kernel)⟩
theorem mlJStringUTF16_71 : MLk 1 "java/lang/StringUTF16" 71 yJStringUTF16_getChar prog_19_method_5_code 2 (some (.char)) 2 := ⟨in_g 801 (by decide +kernel) (by decide +kernel), in_g 157 (by decide +kernel) (by decide +kernel), Or.inl (in_g 799 (by decide +kernel) (by decide +kernel)), ⟨by decide +kernel, by decide +kernel, by decide +kernel⟩, by decide, in_g 800 (by decide +kernel) (by decide +kernel)⟩
theorem mlJStringUTF16_48 : MLk 1 "java/lang/StringUTF16" 48 yJStringUTF16_length prog_19_method_6_code 1 (some (.int)) 1 := ⟨in_g 797 (by decide +kernel) (by decide +kernel), in_g 157 (by decide +kernel) (by decide +kernel), Or.inl (in_g 795 (by decide +kernel) (by decide +kernel)), ⟨by decide +kernel, by decide +kernel, by decide +kernel⟩, by decide, in_g 796 (by decide +kernel) (by decide +kernel)⟩
theorem mlJStringUTF16_414 : MLk 1 "java/lang/StringUTF16" 414 yJString_checkIndex prog_17_method_155_code 2 none 2 := ⟨in_g 783 (by decide +kernel) (by decide +kernel), in_g 154 (by decide +kernel) (by decide +kernel), Or.inl (in_g 798 (by decide +kernel) (by decide +kernel)), ⟨by decide +kernel, by decide +kernel, by decide +kernel⟩, by decide, in_g 782 (by decide +kernel) (by decide +kernel)⟩
