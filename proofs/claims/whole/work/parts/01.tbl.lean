/-! own comparers of words: the derived DecidableEq of Cond is slow in the kernel -/
def kb_y (x y : MethodName) : Bool := x.cls == y.cls && (x.name == y.name && x.desc == y.desc)
theorem kb_y_eq {x y : MethodName} (h : kb_y x y = true) : x = y := by
  obtain ⟨a, b, c⟩ := x
  obtain ⟨d, e, f⟩ := y
  simp only [kb_y, Bool.and_eq_true, beq_iff_eq] at h
  obtain ⟨rfl, rfl, rfl⟩ := h
  rfl
def kb_l : List UInt8 → List UInt8 → Bool
  | [], [] => true
  | a :: x, b :: y => Nat.beq a.toNat b.toNat && kb_l x y
  | _, _ => false
theorem kb_l_eq : ∀ {x y : List UInt8}, kb_l x y = true → x = y
  | [], [], _ => rfl
  | a :: x, b :: y, h => by
    simp only [kb_l, Bool.and_eq_true] at h
    rw [UInt8.toNat_inj.mp (Nat.eq_of_beq_eq_true h.1), kb_l_eq h.2]
  | [], _ :: _, h => by simp [kb_l] at h
  | _ :: _, [], h => by simp [kb_l] at h
def kb_b (x y : ByteArray) : Bool := kb_l x.data.toList y.data.toList
theorem kb_b_eq {x y : ByteArray} (h : kb_b x y = true) : x = y := by
  obtain ⟨⟨a⟩⟩ := x
  obtain ⟨⟨b⟩⟩ := y
  have h2 : a = b := kb_l_eq h
  rw [h2]
def kb_t (x y : FieldType) : Bool := match x, y with
  | .int, .int => true
  | .long, .long => true
  | .byte, .byte => true
  | .boolean, .boolean => true
  | .char, .char => true
  | .object a, .object b => a == b
  | .array .int, .array .int => true
  | .array (.object a), .array (.object b) => a == b
  | _, _ => false
theorem kb_t_eq {x y : FieldType} (h : kb_t x y = true) : x = y := by
  unfold kb_t at h
  split at h <;> first | rfl | (simp only [beq_iff_eq] at h; rw [h]) | cases h
def kb_o (x y : Option FieldType) : Bool := match x, y with
  | none, none => true
  | some a, some b => kb_t a b
  | _, _ => false
theorem kb_o_eq {x y : Option FieldType} (h : kb_o x y = true) : x = y := by
  unfold kb_o at h
  split at h <;> first | rfl | (rw [kb_t_eq h]) | cases h
def kb (a b : Jvm.Cond) : Bool := match a, b with
  | .methodLink c i x, .methodLink d j y => Nat.beq i j && (c == d && kb_y x y)
  | .code x p n r, .code y q m s => kb_y x y && (Nat.beq n m && (kb_o r s && kb_b p q))
  | .instanceMethod x, .instanceMethod y => kb_y x y
  | .selects c x y, .selects d z w => c == d && (kb_y x z && kb_y y w)
  | .privateMethod x, .privateMethod y => kb_y x y
  | .fieldLink c i r n d, .fieldLink c2 i2 r2 n2 d2 => Nat.beq i i2 && (c == c2 && (r == r2 && (n == n2 && d == d2)))
  | .laysFinal a b c d, .laysFinal e f g h => a == e && (b == f && (c == g && d == h))
  | .lays a b c d, .lays e f g h => a == e && (b == f && (c == g && d == h))
  | .fieldLinkNest c i r n d h, .fieldLinkNest c2 i2 r2 n2 d2 h2 => Nat.beq i i2 && (c == c2 && (r == r2 && (n == n2 && (d == d2 && h == h2))))
  | .static x, .static y => kb_y x y
  | .constantLong c i v, .constantLong d j w => Nat.beq i j && (c == d && v == w)
  | .initialized c, .initialized d => c == d
  | .classLink c i n, .classLink d j m => Nat.beq i j && (c == d && n == m)
  | .instantiable c n, .instantiable d m => Nat.beq n m && c == d
  | .superclass c n, .superclass d m => c == d && n == m
  | .constant c i v, .constant d j w => Nat.beq i j && (c == d && v == w)
  | .methodLinkNest c i x h, .methodLinkNest d j y k => Nat.beq i j && (c == d && (kb_y x y && h == k))
  | .arrayClass t, .arrayClass u => kb_t t u
  | .stringRef c i t, .stringRef d j u => Nat.beq i j && (c == d && t == u)
  | .arrayOver t, .arrayOver u => kb_t t u
  | .native x, .native y => kb_y x y
  | .laysStatic a b c, .laysStatic d e f => a == d && (b == e && c == f)
  | _, _ => false
theorem kb_eq {a b : Jvm.Cond} (h : kb a b = true) : a = b := by
  unfold kb at h
  split at h <;> try simp only [Bool.and_eq_true, beq_iff_eq] at h
  · obtain ⟨h1, rfl, h2⟩ := h; rw [Nat.eq_of_beq_eq_true h1, kb_y_eq h2]
  · obtain ⟨h1, h2, h3, h4⟩ := h; rw [kb_y_eq h1, Nat.eq_of_beq_eq_true h2, kb_o_eq h3, kb_b_eq h4]
  · rw [kb_y_eq h]
  · obtain ⟨rfl, h1, h2⟩ := h; rw [kb_y_eq h1, kb_y_eq h2]
  · rw [kb_y_eq h]
  · obtain ⟨h1, rfl, rfl, rfl, rfl⟩ := h; rw [Nat.eq_of_beq_eq_true h1]
  · obtain ⟨rfl, rfl, rfl, rfl⟩ := h; rfl
  · obtain ⟨rfl, rfl, rfl, rfl⟩ := h; rfl
  · obtain ⟨h1, rfl, rfl, rfl, rfl, rfl⟩ := h; rw [Nat.eq_of_beq_eq_true h1]
  · rw [kb_y_eq h]
  · obtain ⟨h1, rfl, rfl⟩ := h; rw [Nat.eq_of_beq_eq_true h1]
  · rw [h]
  · obtain ⟨h1, rfl, rfl⟩ := h; rw [Nat.eq_of_beq_eq_true h1]
  · obtain ⟨h1, rfl⟩ := h; rw [Nat.eq_of_beq_eq_true h1]
  · obtain ⟨rfl, rfl⟩ := h; rfl
  · obtain ⟨h1, rfl, rfl⟩ := h; rw [Nat.eq_of_beq_eq_true h1]
  · obtain ⟨h1, rfl, h2, rfl⟩ := h; rw [Nat.eq_of_beq_eq_true h1, kb_y_eq h2]
  · rw [kb_t_eq h]
  · obtain ⟨h1, rfl, rfl⟩ := h; rw [Nat.eq_of_beq_eq_true h1]
  · rw [kb_t_eq h]
  · rw [kb_y_eq h]
  · obtain ⟨rfl, rfl, rfl⟩ := h; rfl
  · cases h
/-- a word at a place of a list, by evaluation -/
def kb_at (L : List Jvm.Cond) (i : Nat) (w : Jvm.Cond) : Bool := match L[i]? with
  | some v => kb v w
  | none => false
theorem kb_mem {L : List Jvm.Cond} {i : Nat} {w : Jvm.Cond} (h : kb_at L i w = true) : w ∈ L := by
  unfold kb_at at h
  split at h
  · rename_i v hv
    rw [← kb_eq h]
    exact List.mem_of_getElem? hv
  · cases h
/-- a private method of a class that the tables say can be made, by its rows of tables_1 -/
def lw_okq (q : MethodName × Nat) : Prop := (q.1.cls ≠ "java/lang/invoke/MethodHandle" ∧ q.1.cls ≠ "java/lang/invoke/VarHandle") ∧ Cond.instantiable q.1.cls q.2 ∈ tables_1 ∧ Cond.privateMethod q.1 ∈ tables_1 ∧ Cond.instanceMethod q.1 ∈ tables_1
def lw_okb (q : (MethodName × Nat) × Nat × Nat × Nat) : Bool := (!(q.1.1.cls == "java/lang/invoke/MethodHandle") && !(q.1.1.cls == "java/lang/invoke/VarHandle")) && (kb_at tables_1 q.2.1 (.instantiable q.1.1.cls q.1.2) && (kb_at tables_1 q.2.2.1 (.privateMethod q.1.1) && kb_at tables_1 q.2.2.2 (.instanceMethod q.1.1)))
theorem lw_okb_ok {q : (MethodName × Nat) × Nat × Nat × Nat} (h : lw_okb q = true) : lw_okq q.1 := by
  simp only [lw_okb, Bool.and_eq_true, Bool.not_eq_true', beq_eq_false_iff_ne] at h
  exact ⟨h.1, kb_mem h.2.1, kb_mem h.2.2.1, kb_mem h.2.2.2⟩
def lw_pv_0 : List ((MethodName × Nat) × Nat × Nat × Nat) := [((⟨"OneWayPast$Reader", "advance", "()V"⟩, 11), 139, 455, 456), ((⟨"OneWayPast$Reader", "fail", "(I)V"⟩, 11), 139, 462, 463), ((⟨"OneWayPast$Reader", "wordFrom", "(II)I"⟩, 11), 139, 469, 470), ((⟨"OneWayPast$Reader", "expect", "(I)V"⟩, 11), 139, 580, 581), ((⟨"OneWayPast$Reader", "number", "(III)I"⟩, 11), 139, 584, 585), ((⟨"OneWayPast$Reader", "line", "()V"⟩, 11), 139, 588, 589), ((⟨"OneWayPast$Reader", "streetLine", "()V"⟩, 11), 139, 592, 593), ((⟨"OneWayPast$Reader", "isPart", "()Z"⟩, 11), 139, 604, 605), ((⟨"OneWayPast$Reader", "part", "()V"⟩, 11), 139, 608, 609), ((⟨"OneWayPast$Reader", "goerLine", "()V"⟩, 11), 139, 617, 618), ((⟨"OneWayPast$Reader", "shiftsLine", "()V"⟩, 11), 139, 625, 626), ((⟨"OneWayPast$Reader", "sum", "(I)V"⟩, 11), 139, 629, 630), ((⟨"OneWayPast$Reader", "term", "(I)V"⟩, 11), 139, 633, 634), ((⟨"OneWayPast$Reader", "atom", "(I)V"⟩, 11), 139, 637, 638), ((⟨"OneWayPast$Reader", "goesDeeper", "(I)Z"⟩, 11), 139, 645, 646), ((⟨"OneWayPast$Reader", "choice", "(I)V"⟩, 11), 139, 649, 650), ((⟨"OneWayPast$Reader", "truth", "(I)V"⟩, 11), 139, 653, 654), ((⟨"OneWayPast$Reader", "both", "(I)V"⟩, 11), 139, 657, 658), ((⟨"OneWayPast$Reader", "unit", "(I)V"⟩, 11), 139, 661, 662), ((⟨"OneWayPast$Reader", "comparison", "(I)V"⟩, 11), 139, 665, 666), ((⟨"OneWayPast$Reader", "isNameOfNumber", "()Z"⟩, 11), 139, 669, 670), ((⟨"OneWayPast$Reader", "mayLine", "()V"⟩, 11), 139, 673, 674), ((⟨"OneWayPast", "becomes", "(LOneWayPast$Town;)V"⟩, 16), 24, 677, 678), ((⟨"OneWayPast", "streetsOpenTo", "(I)I"⟩, 16), 24, 729, 730), ((⟨"OneWayPast$Roads", "sideOf", "(III)I"⟩, 4), 186, 749, 750), ((⟨"OneWayPast$Roads", "yearAfter", "(IIIII)I"⟩, 4), 186, 753, 754)]
theorem lw_pv_0_ok : lw_pv_0.all lw_okb = true := by decide +kernel
def lw_pv_1 : List ((MethodName × Nat) × Nat × Nat × Nat) := [((⟨"OneWayPast$Reckoner", "meaning", "(I)I"⟩, 7), 192, 765, 766), ((⟨"OneWayPast", "kept", "(I)I"⟩, 16), 24, 799, 800), ((⟨"OneWayPast$History", "keptAt", "(I)LOneWayPast$Standing;"⟩, 3), 336, 807, 808), ((⟨"OneWayPast", "trayAt", "(I)LOneWayPast$Tray;"⟩, 16), 24, 856, 857), ((⟨"OneWayPast$Deeds", "told", "(JLOneWayPast$Standing;)I"⟩, 4), 235, 876, 877), ((⟨"OneWayPast", "yearsTogether", "(LOneWayPast$Standing;)I"⟩, 16), 24, 886, 887), ((⟨"OneWayPast", "cornersOfGoers", "(LOneWayPast$Standing;)I"⟩, 16), 24, 890, 891), ((⟨"OneWayPast$Deeds", "drawnDeed", "(LOneWayPast$Standing;)I"⟩, 4), 235, 906, 907), ((⟨"OneWayPast$Deeds", "draw", "(I)I"⟩, 4), 235, 910, 911), ((⟨"OneWayPast", "refusesComing", "(III)I"⟩, 16), 24, 919, 920), ((⟨"OneWayPast", "comesTo", "(IIILOneWayPast$Standing;)I"⟩, 16), 24, 925, 926), ((⟨"OneWayPast$Walk", "begin", "(LOneWayPast$Standing;)V"⟩, 10), 255, 933, 934), ((⟨"OneWayPast$Walk", "streetsFrom", "(I)I"⟩, 10), 255, 948, 949), ((⟨"OneWayPast$Walk", "comeTo", "(III)V"⟩, 10), 255, 953, 954), ((⟨"OneWayPast$Tally", "oneMore", "(ILOneWayPast$Standing;Z)V"⟩, 4), 294, 988, 989), ((⟨"OneWayPast", "areTwo", "(II)Z"⟩, 16), 24, 1020, 1021), ((⟨"OneWayPast", "meetingSpot", "(II)I"⟩, 16), 24, 1024, 1025), ((⟨"OneWayPast", "goingsTogether", "(I)I"⟩, 16), 24, 1028, 1029), ((⟨"OneWayPast", "isBylaw", "(II)Z"⟩, 16), 24, 1052, 1053), ((⟨"OneWayPast$Walk", "open", "(I)V"⟩, 10), 255, 1064, 1065), ((⟨"OneWayPast", "otherSigns", "(I)I"⟩, 16), 24, 1076, 1077), ((⟨"OneWayPast", "shutsOff", "(III)Z"⟩, 16), 24, 1090, 1091), ((⟨"OneWayPast", "refusesTook", "(LOneWayPast$Tray;II)I"⟩, 16), 24, 1106, 1107), ((⟨"OneWayPast", "yearBehindRow", "(LOneWayPast$Tray;IILOneWayPast$Standing;)I"⟩, 16), 24, 1111, 1112), ((⟨"OneWayPast", "bollardsTold", "(LOneWayPast$Tray;II)I"⟩, 16), 24, 1119, 1120), ((⟨"OneWayPast", "mostAlike", "(III)I"⟩, 16), 24, 1127, 1128)]
theorem lw_pv_1_ok : lw_pv_1.all lw_okb = true := by decide +kernel
def lw_pv_2 : List ((MethodName × Nat) × Nat × Nat × Nat) := [((⟨"OneWayPast$Game", "wins", "(II)Z"⟩, 4), 315, 1147, 1148), ((⟨"OneWayPast$Game", "winsBy", "(III)Z"⟩, 4), 315, 1151, 1152), ((⟨"OneWayPast$Game", "winsWhateverIsShut", "(II)Z"⟩, 4), 315, 1156, 1157), ((⟨"OneWayPast$Tray", "cut", "(J)J"⟩, 3), 358, 1214, 1215), ((⟨"OneWayPast", "imageAt", "(I)LOneWayPast$Town;"⟩, 16), 24, 1226, 1227), ((⟨"OneWayPastModel", "next", "()V"⟩, 33), 1238, 1359, 1360), ((⟨"OneWayPastModel", "see", "(I)I"⟩, 33), 1238, 1363, 1364), ((⟨"OneWayPastModel", "keyAt", "()I"⟩, 33), 1238, 1370, 1371), ((⟨"OneWayPastModel", "eats", "(I)Z"⟩, 33), 1238, 1381, 1382), ((⟨"OneWayPastModel", "is", "(I)Z"⟩, 33), 1238, 1385, 1386), ((⟨"OneWayPastModel", "fails", "(I)V"⟩, 33), 1238, 1389, 1390), ((⟨"OneWayPastModel", "takes", "(II)I"⟩, 33), 1238, 1393, 1394), ((⟨"OneWayPastModel", "ends", "()V"⟩, 33), 1238, 1397, 1398), ((⟨"OneWayPastModel", "readLine", "()V"⟩, 33), 1238, 1401, 1402), ((⟨"OneWayPastModel", "readStreet", "()V"⟩, 33), 1238, 1405, 1406), ((⟨"OneWayPastModel", "readPart", "(I)Z"⟩, 33), 1238, 1409, 1410), ((⟨"OneWayPastModel", "readGoer", "()V"⟩, 33), 1238, 1413, 1414), ((⟨"OneWayPastModel", "readLaw", "(I)V"⟩, 33), 1238, 1417, 1418), ((⟨"OneWayPastModel", "readSum", "(I)V"⟩, 33), 1238, 1421, 1422), ((⟨"OneWayPastModel", "readTerm", "(I)V"⟩, 33), 1238, 1425, 1426), ((⟨"OneWayPastModel", "readAtom", "(I)V"⟩, 33), 1238, 1429, 1430), ((⟨"OneWayPastModel", "codes", "(I)V"⟩, 33), 1238, 1433, 1434), ((⟨"OneWayPastModel", "wordOf", "(I)I"⟩, 33), 1238, 1437, 1438), ((⟨"OneWayPastModel", "goesIn", "(I)Z"⟩, 33), 1238, 1441, 1442), ((⟨"OneWayPastModel", "readIf", "(I)V"⟩, 33), 1238, 1445, 1446), ((⟨"OneWayPastModel", "readTruth", "(I)V"⟩, 33), 1238, 1449, 1450)]
theorem lw_pv_2_ok : lw_pv_2.all lw_okb = true := by decide +kernel
def lw_pv_3 : List ((MethodName × Nat) × Nat × Nat × Nat) := [((⟨"OneWayPastModel", "readBoth", "(I)V"⟩, 33), 1238, 1453, 1454), ((⟨"OneWayPastModel", "readUnit", "(I)V"⟩, 33), 1238, 1457, 1458), ((⟨"OneWayPastModel", "isStreet", "(J)Z"⟩, 33), 1238, 1469, 1470), ((⟨"OneWayPastModel", "isGoer", "(J)Z"⟩, 33), 1238, 1477, 1478), ((⟨"OneWayPastModel", "whyGo", "(JJ)I"⟩, 33), 1238, 1482, 1483), ((⟨"OneWayPastModel", "standOf", "(I)I"⟩, 33), 1238, 1486, 1487), ((⟨"OneWayPastModel", "whyBy", "(IIII)I"⟩, 33), 1238, 1490, 1491), ((⟨"OneWayPastModel", "reckons", "(IIIII)I"⟩, 33), 1238, 1497, 1498), ((⟨"OneWayPastModel", "yearBy", "(IIII)I"⟩, 33), 1238, 1506, 1507), ((⟨"OneWayPastModel", "goneTo", "(III)I"⟩, 33), 1238, 1522, 1523), ((⟨"OneWayPastModel", "keeps", "()V"⟩, 33), 1238, 1530, 1531), ((⟨"OneWayPastModel", "isAt", "(II)V"⟩, 33), 1238, 1534, 1535), ((⟨"OneWayPastModel", "notes", "()V"⟩, 33), 1238, 1538, 1539), ((⟨"OneWayPastModel", "isCorner", "(J)Z"⟩, 33), 1238, 1556, 1557), ((⟨"OneWayPastModel", "noTray", "(I)I"⟩, 33), 1238, 1569, 1570), ((⟨"OneWayPastModel", "tells", "(I)I"⟩, 33), 1238, 1573, 1574), ((⟨"OneWayPastModel", "whyNot", "(J)I"⟩, 33), 1238, 1577, 1578), ((⟨"OneWayPastModel", "does", "(I)V"⟩, 33), 1238, 1588, 1589), ((⟨"OneWayPastModel", "yearsAll", "()I"⟩, 33), 1238, 1592, 1593), ((⟨"OneWayPastModel", "cornersAll", "()I"⟩, 33), 1238, 1596, 1597), ((⟨"OneWayPastModel", "isAgain", "()V"⟩, 33), 1238, 1600, 1601), ((⟨"OneWayPastModel", "drawn", "()I"⟩, 33), 1238, 1613, 1614), ((⟨"OneWayPastModel", "draw", "(I)I"⟩, 33), 1238, 1617, 1618), ((⟨"OneWayPastModel", "noComing", "(III)I"⟩, 33), 1238, 1626, 1627), ((⟨"OneWayPastModel", "laysFar", "(III)I"⟩, 33), 1238, 1630, 1631), ((⟨"OneWayPastModel", "laysThen", "(II)V"⟩, 33), 1238, 1634, 1635)]
theorem lw_pv_3_ok : lw_pv_3.all lw_okb = true := by decide +kernel
def lw_pv_4 : List ((MethodName × Nat) × Nat × Nat × Nat) := [((⟨"OneWayPastModel", "stands", "()I"⟩, 33), 1238, 1645, 1646), ((⟨"OneWayPastModel", "farBy", "(II)I"⟩, 33), 1238, 1649, 1650), ((⟨"OneWayPastModel", "streetAt", "(II)I"⟩, 33), 1238, 1660, 1661), ((⟨"OneWayPastModel", "beginsMany", "(I)V"⟩, 33), 1238, 1670, 1671), ((⟨"OneWayPastModel", "goesMany", "(Z)V"⟩, 33), 1238, 1674, 1675), ((⟨"OneWayPastModel", "laysFromNow", "(I)V"⟩, 33), 1238, 1682, 1683), ((⟨"OneWayPastModel", "laysGone", "(I[I)V"⟩, 33), 1238, 1686, 1687), ((⟨"OneWayPastModel", "cornersGone", "()I"⟩, 33), 1238, 1698, 1699), ((⟨"OneWayPastModel", "areGoers", "(II)Z"⟩, 33), 1238, 1706, 1707), ((⟨"OneWayPastModel", "meetsAt", "(II)I"⟩, 33), 1238, 1710, 1711), ((⟨"OneWayPastModel", "laysBoth", "(I)V"⟩, 33), 1238, 1726, 1727), ((⟨"OneWayPastModel", "isByLaw", "(II)Z"⟩, 33), 1238, 1730, 1731), ((⟨"OneWayPastModel", "shutNow", "()I"⟩, 33), 1238, 1734, 1735), ((⟨"OneWayPastModel", "noRing", "(II)Z"⟩, 33), 1238, 1738, 1739), ((⟨"OneWayPastModel", "lawTo", "(III)I"⟩, 33), 1238, 1742, 1743), ((⟨"OneWayPastModel", "othersBy", "(I)I"⟩, 33), 1238, 1750, 1751), ((⟨"OneWayPastModel", "canCome", "(III)Z"⟩, 33), 1238, 1761, 1762), ((⟨"OneWayPastModel", "noTook", "(III)I"⟩, 33), 1238, 1773, 1774), ((⟨"OneWayPastModel", "isTook", "(IIII)Z"⟩, 33), 1238, 1777, 1778), ((⟨"OneWayPastModel", "bollardsOf", "(III)I"⟩, 33), 1238, 1785, 1786), ((⟨"OneWayPastModel", "mostOften", "(III)I"⟩, 33), 1238, 1793, 1794), ((⟨"OneWayPastModel", "forcedIn", "(II)I"⟩, 33), 1238, 1801, 1802), ((⟨"OneWayPastModel", "childs", "(IIIII)Z"⟩, 33), 1238, 1805, 1806), ((⟨"OneWayPastModel", "childsBy", "(IIIIII)Z"⟩, 33), 1238, 1809, 1810), ((⟨"OneWayPastModel", "wardens", "(IIIII)Z"⟩, 33), 1238, 1813, 1814), ((⟨"OneWayPastModel", "laysLikely", "(II)I"⟩, 33), 1238, 1826, 1827)]
theorem lw_pv_4_ok : lw_pv_4.all lw_okb = true := by decide +kernel
def lw_pv_5 : List ((MethodName × Nat) × Nat × Nat × Nat) := [((⟨"OneWayPastModel", "likelyAt", "(I)J"⟩, 33), 1238, 1830, 1831)]
theorem lw_pv_5_ok : lw_pv_5.all lw_okb = true := by decide +kernel
def lw_pv : List ((MethodName × Nat) × Nat × Nat × Nat) := (lw_pv_0 ++ (lw_pv_1 ++ (lw_pv_2 ++ (lw_pv_3 ++ (lw_pv_4 ++ (lw_pv_5))))))
def lw_privs : List (MethodName × Nat) := lw_pv.map (fun q => q.1)
def lw_tbl : List Cond := k2_sels lw_privs ++ tables_1
theorem lw_pv_ok : lw_pv.all lw_okb = true := by
  simp only [lw_pv, List.all_append, Bool.and_eq_true]
  exact ⟨lw_pv_0_ok, lw_pv_1_ok, lw_pv_2_ok, lw_pv_3_ok, lw_pv_4_ok, lw_pv_5_ok⟩
theorem lw_privs_ok : ∀ q ∈ lw_privs, lw_okq q := by
  intro q hq
  obtain ⟨r, hr, rfl⟩ := List.mem_map.mp hq
  exact lw_okb_ok (List.all_eq_true.mp lw_pv_ok r hr)
theorem tb_mem {i : Nat} {w : Cond} (h : kb_at lw_tbl i w = true) : w ∈ lw_tbl := kb_mem h
