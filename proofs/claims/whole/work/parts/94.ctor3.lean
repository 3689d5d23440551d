/-! ===== constructors, laid by wip/gen/ctor.py ===== -/
theorem tc_1577 : Cond.methodLink RX12 27 objectInit ∈ TB := TB_in (List.mem_of_getElem? (i := 1577) (by decide +kernel)) rfl
theorem tc_1578 : Cond.constantLong RX12 90 1818848869 ∈ TB := TB_in (List.mem_of_getElem? (i := 1578) (by decide +kernel)) rfl
theorem tc_1579 : Cond.constantLong RX12 92 1668245870 ∈ TB := TB_in (List.mem_of_getElem? (i := 1579) (by decide +kernel)) rfl
theorem tc_1580 : Cond.constantLong RX12 94 426836849509 ∈ TB := TB_in (List.mem_of_getElem? (i := 1580) (by decide +kernel)) rfl
theorem tc_1581 : Cond.constantLong RX12 96 125848672761202 ∈ TB := TB_in (List.mem_of_getElem? (i := 1581) (by decide +kernel)) rfl
theorem tc_1582 : Cond.constantLong RX12 98 1684366692 ∈ TB := TB_in (List.mem_of_getElem? (i := 1582) (by decide +kernel)) rfl
theorem tc_1583 : Cond.constantLong RX12 100 427020350059 ∈ TB := TB_in (List.mem_of_getElem? (i := 1583) (by decide +kernel)) rfl
theorem tc_1584 : Cond.constantLong RX12 102 499850634611 ∈ TB := TB_in (List.mem_of_getElem? (i := 1584) (by decide +kernel)) rfl
theorem tc_1585 : Cond.constantLong RX12 104 1685022067 ∈ TB := TB_in (List.mem_of_getElem? (i := 1585) (by decide +kernel)) rfl
theorem tc_1586 : Cond.constantLong RX12 106 431416635507 ∈ TB := TB_in (List.mem_of_getElem? (i := 1586) (by decide +kernel)) rfl
theorem tc_1587 : Cond.constantLong RX12 108 2003133803 ∈ TB := TB_in (List.mem_of_getElem? (i := 1587) (by decide +kernel)) rfl
theorem tc_1588 : Cond.constantLong RX12 110 28530 ∈ TB := TB_in (List.mem_of_getElem? (i := 1588) (by decide +kernel)) rfl
theorem tc_1589 : Cond.constantLong RX12 112 6385252 ∈ TB := TB_in (List.mem_of_getElem? (i := 1589) (by decide +kernel)) rfl
theorem tc_1590 : Cond.constantLong RX12 114 7237492 ∈ TB := TB_in (List.mem_of_getElem? (i := 1590) (by decide +kernel)) rfl
theorem tc_1591 : Cond.constantLong RX12 116 1869636974 ∈ TB := TB_in (List.mem_of_getElem? (i := 1591) (by decide +kernel)) rfl
theorem tc_1592 : Cond.constantLong RX12 118 499850634606 ∈ TB := TB_in (List.mem_of_getElem? (i := 1592) (by decide +kernel)) rfl
theorem tc_1593 : Cond.constantLong RX12 120 28273320624416100 ∈ TB := TB_in (List.mem_of_getElem? (i := 1593) (by decide +kernel)) rfl
theorem tc_1594 : Cond.constantLong RX12 122 7827310 ∈ TB := TB_in (List.mem_of_getElem? (i := 1594) (by decide +kernel)) rfl
theorem tc_1595 : Cond.constantLong RX12 124 1684365668 ∈ TB := TB_in (List.mem_of_getElem? (i := 1595) (by decide +kernel)) rfl
theorem tc_1596 : Cond.constantLong RX12 126 6840676 ∈ TB := TB_in (List.mem_of_getElem? (i := 1596) (by decide +kernel)) rfl
theorem tc_1597 : Cond.constantLong RX12 128 1852137842 ∈ TB := TB_in (List.mem_of_getElem? (i := 1597) (by decide +kernel)) rfl
theorem tc_1598 : Cond.constantLong RX12 130 483006772069 ∈ TB := TB_in (List.mem_of_getElem? (i := 1598) (by decide +kernel)) rfl
theorem tc_1599 : Cond.constantLong RX12 132 108187750065510 ∈ TB := TB_in (List.mem_of_getElem? (i := 1599) (by decide +kernel)) rfl
theorem tc_1600 : Cond.constantLong RX12 134 121450625394034 ∈ TB := TB_in (List.mem_of_getElem? (i := 1600) (by decide +kernel)) rfl
theorem tc_1601 : Cond.methodLink RX12 136 yX12_clears ∈ TB := TB_in (List.mem_of_getElem? (i := 1601) (by decide +kernel)) rfl
theorem tc_1605 : Cond.methodLink RX12 139 yX12_begins ∈ TB := TB_in (List.mem_of_getElem? (i := 1605) (by decide +kernel)) rfl
theorem tc_1610 : Cond.fieldLink RX12 14 (TX12 1).1 (TX12 1).2.1 (TX12 1).2.2.1 ∈ TB := TB_in (List.mem_of_getElem? (i := 1610) (by decide +kernel)) rfl
theorem tc_1615 : Cond.fieldLink RX12 33 (TX12 6).1 (TX12 6).2.1 (TX12 6).2.2.1 ∈ TB := TB_in (List.mem_of_getElem? (i := 1615) (by decide +kernel)) rfl
theorem tc_1616 : Cond.fieldLink RX12 37 (TX12 7).1 (TX12 7).2.1 (TX12 7).2.2.1 ∈ TB := TB_in (List.mem_of_getElem? (i := 1616) (by decide +kernel)) rfl
theorem tc_1617 : Cond.fieldLink RX12 40 (TX12 8).1 (TX12 8).2.1 (TX12 8).2.2.1 ∈ TB := TB_in (List.mem_of_getElem? (i := 1617) (by decide +kernel)) rfl
theorem tc_1618 : Cond.fieldLink RX12 43 (TX12 9).1 (TX12 9).2.1 (TX12 9).2.2.1 ∈ TB := TB_in (List.mem_of_getElem? (i := 1618) (by decide +kernel)) rfl
theorem tc_1619 : Cond.fieldLink RX12 47 (TX12 10).1 (TX12 10).2.1 (TX12 10).2.2.1 ∈ TB := TB_in (List.mem_of_getElem? (i := 1619) (by decide +kernel)) rfl
theorem tc_1630 : Cond.fieldLink RX12 50 (TX12 21).1 (TX12 21).2.1 (TX12 21).2.2.1 ∈ TB := TB_in (List.mem_of_getElem? (i := 1630) (by decide +kernel)) rfl
theorem tc_1631 : Cond.fieldLink RX12 53 (TX12 22).1 (TX12 22).2.1 (TX12 22).2.2.1 ∈ TB := TB_in (List.mem_of_getElem? (i := 1631) (by decide +kernel)) rfl
theorem tc_1633 : Cond.fieldLink RX12 56 (TX12 24).1 (TX12 24).2.1 (TX12 24).2.2.1 ∈ TB := TB_in (List.mem_of_getElem? (i := 1633) (by decide +kernel)) rfl
theorem tc_1634 : Cond.fieldLink RX12 59 (TX12 25).1 (TX12 25).2.1 (TX12 25).2.2.1 ∈ TB := TB_in (List.mem_of_getElem? (i := 1634) (by decide +kernel)) rfl
theorem tc_1635 : Cond.fieldLink RX12 62 (TX12 26).1 (TX12 26).2.1 (TX12 26).2.2.1 ∈ TB := TB_in (List.mem_of_getElem? (i := 1635) (by decide +kernel)) rfl
theorem tc_1636 : Cond.fieldLink RX12 65 (TX12 27).1 (TX12 27).2.1 (TX12 27).2.2.1 ∈ TB := TB_in (List.mem_of_getElem? (i := 1636) (by decide +kernel)) rfl
theorem tc_1637 : Cond.fieldLink RX12 68 (TX12 28).1 (TX12 28).2.1 (TX12 28).2.2.1 ∈ TB := TB_in (List.mem_of_getElem? (i := 1637) (by decide +kernel)) rfl
theorem tc_1642 : Cond.fieldLink RX12 71 (TX12 33).1 (TX12 33).2.1 (TX12 33).2.2.1 ∈ TB := TB_in (List.mem_of_getElem? (i := 1642) (by decide +kernel)) rfl
theorem tc_1644 : Cond.fieldLink RX12 74 (TX12 35).1 (TX12 35).2.1 (TX12 35).2.2.1 ∈ TB := TB_in (List.mem_of_getElem? (i := 1644) (by decide +kernel)) rfl
theorem tc_1650 : Cond.fieldLink RX12 77 (TX12 41).1 (TX12 41).2.1 (TX12 41).2.2.1 ∈ TB := TB_in (List.mem_of_getElem? (i := 1650) (by decide +kernel)) rfl
theorem tc_1651 : Cond.fieldLink RX12 81 (TX12 42).1 (TX12 42).2.1 (TX12 42).2.2.1 ∈ TB := TB_in (List.mem_of_getElem? (i := 1651) (by decide +kernel)) rfl
theorem tc_1652 : Cond.fieldLink RX12 84 (TX12 43).1 (TX12 43).2.1 (TX12 43).2.2.1 ∈ TB := TB_in (List.mem_of_getElem? (i := 1652) (by decide +kernel)) rfl
theorem tc_1653 : Cond.fieldLink RX12 87 (TX12 44).1 (TX12 44).2.1 (TX12 44).2.2.1 ∈ TB := TB_in (List.mem_of_getElem? (i := 1653) (by decide +kernel)) rfl
theorem dX12_init_0 : decode cX12_init 0 = .ok (.aload_n 0, 1) := by decide +kernel
theorem dX12_init_1 : decode cX12_init 1 = .ok (.invokespecial 27, 3) := by decide +kernel
theorem dX12_init_4 : decode cX12_init 4 = .ok (.aload_n 0, 1) := by decide +kernel
theorem dX12_init_5 : decode cX12_init 5 = .ok (.sipush 940, 3) := by decide +kernel
theorem dX12_init_8 : decode cX12_init 8 = .ok (.newarray .byte, 2) := by decide +kernel
theorem dX12_init_10 : decode cX12_init 10 = .ok (.putfield 14, 3) := by decide +kernel
theorem dX12_init_13 : decode cX12_init 13 = .ok (.aload_n 0, 1) := by decide +kernel
theorem dX12_init_14 : decode cX12_init 14 = .ok (.sipush 332, 3) := by decide +kernel
theorem dX12_init_17 : decode cX12_init 17 = .ok (.newarray .int, 2) := by decide +kernel
theorem dX12_init_19 : decode cX12_init 19 = .ok (.putfield 33, 3) := by decide +kernel
theorem dX12_init_22 : decode cX12_init 22 = .ok (.aload_n 0, 1) := by decide +kernel
theorem dX12_init_23 : decode cX12_init 23 = .ok (.bipush 72, 2) := by decide +kernel
theorem dX12_init_25 : decode cX12_init 25 = .ok (.newarray .int, 2) := by decide +kernel
theorem dX12_init_27 : decode cX12_init 27 = .ok (.putfield 37, 3) := by decide +kernel
theorem dX12_init_30 : decode cX12_init 30 = .ok (.aload_n 0, 1) := by decide +kernel
theorem dX12_init_31 : decode cX12_init 31 = .ok (.sipush 135, 3) := by decide +kernel
theorem dX12_init_34 : decode cX12_init 34 = .ok (.newarray .int, 2) := by decide +kernel
theorem dX12_init_36 : decode cX12_init 36 = .ok (.putfield 40, 3) := by decide +kernel
theorem dX12_init_39 : decode cX12_init 39 = .ok (.aload_n 0, 1) := by decide +kernel
theorem dX12_init_40 : decode cX12_init 40 = .ok (.bipush 34, 2) := by decide +kernel
theorem dX12_init_42 : decode cX12_init 42 = .ok (.newarray .long, 2) := by decide +kernel
theorem dX12_init_44 : decode cX12_init 44 = .ok (.putfield 43, 3) := by decide +kernel
theorem dX12_init_47 : decode cX12_init 47 = .ok (.aload_n 0, 1) := by decide +kernel
theorem dX12_init_48 : decode cX12_init 48 = .ok (.bipush 23, 2) := by decide +kernel
theorem dX12_init_50 : decode cX12_init 50 = .ok (.newarray .long, 2) := by decide +kernel
theorem dX12_init_52 : decode cX12_init 52 = .ok (.putfield 47, 3) := by decide +kernel
theorem dX12_init_55 : decode cX12_init 55 = .ok (.aload_n 0, 1) := by decide +kernel
theorem dX12_init_56 : decode cX12_init 56 = .ok (.sipush 632, 3) := by decide +kernel
theorem dX12_init_59 : decode cX12_init 59 = .ok (.newarray .int, 2) := by decide +kernel
theorem dX12_init_61 : decode cX12_init 61 = .ok (.putfield 50, 3) := by decide +kernel
theorem dX12_init_64 : decode cX12_init 64 = .ok (.aload_n 0, 1) := by decide +kernel
theorem dX12_init_65 : decode cX12_init 65 = .ok (.bipush 79, 2) := by decide +kernel
theorem dX12_init_67 : decode cX12_init 67 = .ok (.newarray .int, 2) := by decide +kernel
theorem dX12_init_69 : decode cX12_init 69 = .ok (.putfield 53, 3) := by decide +kernel
theorem dX12_init_72 : decode cX12_init 72 = .ok (.aload_n 0, 1) := by decide +kernel
theorem dX12_init_73 : decode cX12_init 73 = .ok (.bipush 64, 2) := by decide +kernel
theorem dX12_init_75 : decode cX12_init 75 = .ok (.newarray .int, 2) := by decide +kernel
theorem dX12_init_77 : decode cX12_init 77 = .ok (.putfield 56, 3) := by decide +kernel
theorem dX12_init_80 : decode cX12_init 80 = .ok (.aload_n 0, 1) := by decide +kernel
theorem dX12_init_81 : decode cX12_init 81 = .ok (.bipush 30, 2) := by decide +kernel
theorem dX12_init_83 : decode cX12_init 83 = .ok (.newarray .int, 2) := by decide +kernel
theorem dX12_init_85 : decode cX12_init 85 = .ok (.putfield 59, 3) := by decide +kernel
theorem dX12_init_88 : decode cX12_init 88 = .ok (.aload_n 0, 1) := by decide +kernel
theorem dX12_init_89 : decode cX12_init 89 = .ok (.iconst 5, 1) := by decide +kernel
theorem dX12_init_90 : decode cX12_init 90 = .ok (.newarray .int, 2) := by decide +kernel
theorem dX12_init_92 : decode cX12_init 92 = .ok (.putfield 62, 3) := by decide +kernel
theorem dX12_init_95 : decode cX12_init 95 = .ok (.aload_n 0, 1) := by decide +kernel
theorem dX12_init_96 : decode cX12_init 96 = .ok (.iconst 5, 1) := by decide +kernel
theorem dX12_init_97 : decode cX12_init 97 = .ok (.newarray .int, 2) := by decide +kernel
theorem dX12_init_99 : decode cX12_init 99 = .ok (.putfield 65, 3) := by decide +kernel
theorem dX12_init_102 : decode cX12_init 102 = .ok (.aload_n 0, 1) := by decide +kernel
theorem dX12_init_103 : decode cX12_init 103 = .ok (.iconst (-1), 1) := by decide +kernel
theorem dX12_init_104 : decode cX12_init 104 = .ok (.putfield 68, 3) := by decide +kernel
theorem dX12_init_107 : decode cX12_init 107 = .ok (.aload_n 0, 1) := by decide +kernel
theorem dX12_init_108 : decode cX12_init 108 = .ok (.iconst 4, 1) := by decide +kernel
theorem dX12_init_109 : decode cX12_init 109 = .ok (.newarray .int, 2) := by decide +kernel
theorem dX12_init_111 : decode cX12_init 111 = .ok (.putfield 71, 3) := by decide +kernel
theorem dX12_init_114 : decode cX12_init 114 = .ok (.aload_n 0, 1) := by decide +kernel
theorem dX12_init_115 : decode cX12_init 115 = .ok (.bipush 45, 2) := by decide +kernel
theorem dX12_init_117 : decode cX12_init 117 = .ok (.newarray .int, 2) := by decide +kernel
theorem dX12_init_119 : decode cX12_init 119 = .ok (.putfield 74, 3) := by decide +kernel
theorem dX12_init_122 : decode cX12_init 122 = .ok (.aload_n 0, 1) := by decide +kernel
theorem dX12_init_123 : decode cX12_init 123 = .ok (.bipush 45, 2) := by decide +kernel
theorem dX12_init_125 : decode cX12_init 125 = .ok (.newarray .boolean, 2) := by decide +kernel
theorem dX12_init_127 : decode cX12_init 127 = .ok (.putfield 77, 3) := by decide +kernel
theorem dX12_init_130 : decode cX12_init 130 = .ok (.aload_n 0, 1) := by decide +kernel
theorem dX12_init_131 : decode cX12_init 131 = .ok (.sipush 664, 3) := by decide +kernel
theorem dX12_init_134 : decode cX12_init 134 = .ok (.newarray .int, 2) := by decide +kernel
theorem dX12_init_136 : decode cX12_init 136 = .ok (.putfield 81, 3) := by decide +kernel
theorem dX12_init_139 : decode cX12_init 139 = .ok (.aload_n 0, 1) := by decide +kernel
theorem dX12_init_140 : decode cX12_init 140 = .ok (.bipush 34, 2) := by decide +kernel
theorem dX12_init_142 : decode cX12_init 142 = .ok (.newarray .long, 2) := by decide +kernel
theorem dX12_init_144 : decode cX12_init 144 = .ok (.putfield 84, 3) := by decide +kernel
theorem dX12_init_147 : decode cX12_init 147 = .ok (.aload_n 0, 1) := by decide +kernel
theorem dX12_init_148 : decode cX12_init 148 = .ok (.iconst 2, 1) := by decide +kernel
theorem dX12_init_149 : decode cX12_init 149 = .ok (.newarray .boolean, 2) := by decide +kernel
theorem dX12_init_151 : decode cX12_init 151 = .ok (.putfield 87, 3) := by decide +kernel
theorem dX12_init_154 : decode cX12_init 154 = .ok (.aload_n 0, 1) := by decide +kernel
theorem dX12_init_155 : decode cX12_init 155 = .ok (.getfield 47, 3) := by decide +kernel
theorem dX12_init_158 : decode cX12_init 158 = .ok (.iconst 0, 1) := by decide +kernel
theorem dX12_init_159 : decode cX12_init 159 = .ok (.ldc2_w 90, 3) := by decide +kernel
theorem dX12_init_162 : decode cX12_init 162 = .ok (.lastore, 1) := by decide +kernel
theorem dX12_init_163 : decode cX12_init 163 = .ok (.aload_n 0, 1) := by decide +kernel
theorem dX12_init_164 : decode cX12_init 164 = .ok (.getfield 47, 3) := by decide +kernel
theorem dX12_init_167 : decode cX12_init 167 = .ok (.iconst 1, 1) := by decide +kernel
theorem dX12_init_168 : decode cX12_init 168 = .ok (.ldc2_w 92, 3) := by decide +kernel
theorem dX12_init_171 : decode cX12_init 171 = .ok (.lastore, 1) := by decide +kernel
theorem dX12_init_172 : decode cX12_init 172 = .ok (.aload_n 0, 1) := by decide +kernel
theorem dX12_init_173 : decode cX12_init 173 = .ok (.getfield 47, 3) := by decide +kernel
theorem dX12_init_176 : decode cX12_init 176 = .ok (.iconst 2, 1) := by decide +kernel
theorem dX12_init_177 : decode cX12_init 177 = .ok (.ldc2_w 94, 3) := by decide +kernel
theorem dX12_init_180 : decode cX12_init 180 = .ok (.lastore, 1) := by decide +kernel
theorem dX12_init_181 : decode cX12_init 181 = .ok (.aload_n 0, 1) := by decide +kernel
theorem dX12_init_182 : decode cX12_init 182 = .ok (.getfield 47, 3) := by decide +kernel
theorem dX12_init_185 : decode cX12_init 185 = .ok (.iconst 3, 1) := by decide +kernel
theorem dX12_init_186 : decode cX12_init 186 = .ok (.ldc2_w 96, 3) := by decide +kernel
theorem dX12_init_189 : decode cX12_init 189 = .ok (.lastore, 1) := by decide +kernel
theorem dX12_init_190 : decode cX12_init 190 = .ok (.aload_n 0, 1) := by decide +kernel
theorem dX12_init_191 : decode cX12_init 191 = .ok (.getfield 47, 3) := by decide +kernel
theorem dX12_init_194 : decode cX12_init 194 = .ok (.iconst 4, 1) := by decide +kernel
theorem dX12_init_195 : decode cX12_init 195 = .ok (.ldc2_w 98, 3) := by decide +kernel
theorem dX12_init_198 : decode cX12_init 198 = .ok (.lastore, 1) := by decide +kernel
theorem dX12_init_199 : decode cX12_init 199 = .ok (.aload_n 0, 1) := by decide +kernel
theorem dX12_init_200 : decode cX12_init 200 = .ok (.getfield 47, 3) := by decide +kernel
theorem dX12_init_203 : decode cX12_init 203 = .ok (.iconst 5, 1) := by decide +kernel
theorem dX12_init_204 : decode cX12_init 204 = .ok (.ldc2_w 100, 3) := by decide +kernel
theorem dX12_init_207 : decode cX12_init 207 = .ok (.lastore, 1) := by decide +kernel
theorem dX12_init_208 : decode cX12_init 208 = .ok (.aload_n 0, 1) := by decide +kernel
theorem dX12_init_209 : decode cX12_init 209 = .ok (.getfield 47, 3) := by decide +kernel
theorem dX12_init_212 : decode cX12_init 212 = .ok (.bipush 6, 2) := by decide +kernel
theorem dX12_init_214 : decode cX12_init 214 = .ok (.ldc2_w 102, 3) := by decide +kernel
theorem dX12_init_217 : decode cX12_init 217 = .ok (.lastore, 1) := by decide +kernel
theorem dX12_init_218 : decode cX12_init 218 = .ok (.aload_n 0, 1) := by decide +kernel
theorem dX12_init_219 : decode cX12_init 219 = .ok (.getfield 47, 3) := by decide +kernel
theorem dX12_init_222 : decode cX12_init 222 = .ok (.bipush 7, 2) := by decide +kernel
theorem dX12_init_224 : decode cX12_init 224 = .ok (.ldc2_w 104, 3) := by decide +kernel
theorem dX12_init_227 : decode cX12_init 227 = .ok (.lastore, 1) := by decide +kernel
theorem dX12_init_228 : decode cX12_init 228 = .ok (.aload_n 0, 1) := by decide +kernel
theorem dX12_init_229 : decode cX12_init 229 = .ok (.getfield 47, 3) := by decide +kernel
theorem dX12_init_232 : decode cX12_init 232 = .ok (.bipush 8, 2) := by decide +kernel
theorem dX12_init_234 : decode cX12_init 234 = .ok (.ldc2_w 106, 3) := by decide +kernel
theorem dX12_init_237 : decode cX12_init 237 = .ok (.lastore, 1) := by decide +kernel
theorem dX12_init_238 : decode cX12_init 238 = .ok (.aload_n 0, 1) := by decide +kernel
theorem dX12_init_239 : decode cX12_init 239 = .ok (.getfield 47, 3) := by decide +kernel
theorem dX12_init_242 : decode cX12_init 242 = .ok (.bipush 9, 2) := by decide +kernel
theorem dX12_init_244 : decode cX12_init 244 = .ok (.ldc2_w 108, 3) := by decide +kernel
theorem dX12_init_247 : decode cX12_init 247 = .ok (.lastore, 1) := by decide +kernel
theorem dX12_init_248 : decode cX12_init 248 = .ok (.aload_n 0, 1) := by decide +kernel
theorem dX12_init_249 : decode cX12_init 249 = .ok (.getfield 47, 3) := by decide +kernel
theorem dX12_init_252 : decode cX12_init 252 = .ok (.bipush 10, 2) := by decide +kernel
theorem dX12_init_254 : decode cX12_init 254 = .ok (.ldc2_w 110, 3) := by decide +kernel
theorem dX12_init_257 : decode cX12_init 257 = .ok (.lastore, 1) := by decide +kernel
theorem dX12_init_258 : decode cX12_init 258 = .ok (.aload_n 0, 1) := by decide +kernel
theorem dX12_init_259 : decode cX12_init 259 = .ok (.getfield 47, 3) := by decide +kernel
theorem dX12_init_262 : decode cX12_init 262 = .ok (.bipush 11, 2) := by decide +kernel
theorem dX12_init_264 : decode cX12_init 264 = .ok (.ldc2_w 112, 3) := by decide +kernel
theorem dX12_init_267 : decode cX12_init 267 = .ok (.lastore, 1) := by decide +kernel
theorem dX12_init_268 : decode cX12_init 268 = .ok (.aload_n 0, 1) := by decide +kernel
theorem dX12_init_269 : decode cX12_init 269 = .ok (.getfield 47, 3) := by decide +kernel
theorem dX12_init_272 : decode cX12_init 272 = .ok (.bipush 12, 2) := by decide +kernel
theorem dX12_init_274 : decode cX12_init 274 = .ok (.ldc2_w 114, 3) := by decide +kernel
theorem dX12_init_277 : decode cX12_init 277 = .ok (.lastore, 1) := by decide +kernel
theorem dX12_init_278 : decode cX12_init 278 = .ok (.aload_n 0, 1) := by decide +kernel
theorem dX12_init_279 : decode cX12_init 279 = .ok (.getfield 47, 3) := by decide +kernel
theorem dX12_init_282 : decode cX12_init 282 = .ok (.bipush 13, 2) := by decide +kernel
theorem dX12_init_284 : decode cX12_init 284 = .ok (.ldc2_w 116, 3) := by decide +kernel
theorem dX12_init_287 : decode cX12_init 287 = .ok (.lastore, 1) := by decide +kernel
theorem dX12_init_288 : decode cX12_init 288 = .ok (.aload_n 0, 1) := by decide +kernel
theorem dX12_init_289 : decode cX12_init 289 = .ok (.getfield 47, 3) := by decide +kernel
theorem dX12_init_292 : decode cX12_init 292 = .ok (.bipush 14, 2) := by decide +kernel
theorem dX12_init_294 : decode cX12_init 294 = .ok (.ldc2_w 118, 3) := by decide +kernel
theorem dX12_init_297 : decode cX12_init 297 = .ok (.lastore, 1) := by decide +kernel
theorem dX12_init_298 : decode cX12_init 298 = .ok (.aload_n 0, 1) := by decide +kernel
theorem dX12_init_299 : decode cX12_init 299 = .ok (.getfield 47, 3) := by decide +kernel
theorem dX12_init_302 : decode cX12_init 302 = .ok (.bipush 15, 2) := by decide +kernel
theorem dX12_init_304 : decode cX12_init 304 = .ok (.ldc2_w 120, 3) := by decide +kernel
theorem dX12_init_307 : decode cX12_init 307 = .ok (.lastore, 1) := by decide +kernel
theorem dX12_init_308 : decode cX12_init 308 = .ok (.aload_n 0, 1) := by decide +kernel
theorem dX12_init_309 : decode cX12_init 309 = .ok (.getfield 47, 3) := by decide +kernel
theorem dX12_init_312 : decode cX12_init 312 = .ok (.bipush 16, 2) := by decide +kernel
theorem dX12_init_314 : decode cX12_init 314 = .ok (.ldc2_w 122, 3) := by decide +kernel
theorem dX12_init_317 : decode cX12_init 317 = .ok (.lastore, 1) := by decide +kernel
theorem dX12_init_318 : decode cX12_init 318 = .ok (.aload_n 0, 1) := by decide +kernel
theorem dX12_init_319 : decode cX12_init 319 = .ok (.getfield 47, 3) := by decide +kernel
theorem dX12_init_322 : decode cX12_init 322 = .ok (.bipush 17, 2) := by decide +kernel
theorem dX12_init_324 : decode cX12_init 324 = .ok (.ldc2_w 124, 3) := by decide +kernel
theorem dX12_init_327 : decode cX12_init 327 = .ok (.lastore, 1) := by decide +kernel
theorem dX12_init_328 : decode cX12_init 328 = .ok (.aload_n 0, 1) := by decide +kernel
theorem dX12_init_329 : decode cX12_init 329 = .ok (.getfield 47, 3) := by decide +kernel
theorem dX12_init_332 : decode cX12_init 332 = .ok (.bipush 18, 2) := by decide +kernel
theorem dX12_init_334 : decode cX12_init 334 = .ok (.ldc2_w 126, 3) := by decide +kernel
theorem dX12_init_337 : decode cX12_init 337 = .ok (.lastore, 1) := by decide +kernel
theorem dX12_init_338 : decode cX12_init 338 = .ok (.aload_n 0, 1) := by decide +kernel
theorem dX12_init_339 : decode cX12_init 339 = .ok (.getfield 47, 3) := by decide +kernel
theorem dX12_init_342 : decode cX12_init 342 = .ok (.bipush 19, 2) := by decide +kernel
theorem dX12_init_344 : decode cX12_init 344 = .ok (.ldc2_w 128, 3) := by decide +kernel
theorem dX12_init_347 : decode cX12_init 347 = .ok (.lastore, 1) := by decide +kernel
theorem dX12_init_348 : decode cX12_init 348 = .ok (.aload_n 0, 1) := by decide +kernel
theorem dX12_init_349 : decode cX12_init 349 = .ok (.getfield 47, 3) := by decide +kernel
theorem dX12_init_352 : decode cX12_init 352 = .ok (.bipush 20, 2) := by decide +kernel
theorem dX12_init_354 : decode cX12_init 354 = .ok (.ldc2_w 130, 3) := by decide +kernel
theorem dX12_init_357 : decode cX12_init 357 = .ok (.lastore, 1) := by decide +kernel
theorem dX12_init_358 : decode cX12_init 358 = .ok (.aload_n 0, 1) := by decide +kernel
theorem dX12_init_359 : decode cX12_init 359 = .ok (.getfield 47, 3) := by decide +kernel
theorem dX12_init_362 : decode cX12_init 362 = .ok (.bipush 21, 2) := by decide +kernel
theorem dX12_init_364 : decode cX12_init 364 = .ok (.ldc2_w 132, 3) := by decide +kernel
theorem dX12_init_367 : decode cX12_init 367 = .ok (.lastore, 1) := by decide +kernel
theorem dX12_init_368 : decode cX12_init 368 = .ok (.aload_n 0, 1) := by decide +kernel
theorem dX12_init_369 : decode cX12_init 369 = .ok (.getfield 47, 3) := by decide +kernel
theorem dX12_init_372 : decode cX12_init 372 = .ok (.bipush 22, 2) := by decide +kernel
theorem dX12_init_374 : decode cX12_init 374 = .ok (.ldc2_w 134, 3) := by decide +kernel
theorem dX12_init_377 : decode cX12_init 377 = .ok (.lastore, 1) := by decide +kernel
theorem dX12_init_378 : decode cX12_init 378 = .ok (.aload_n 0, 1) := by decide +kernel
theorem dX12_init_379 : decode cX12_init 379 = .ok (.invokevirtual 136, 3) := by decide +kernel
theorem dX12_init_382 : decode cX12_init 382 = .ok (.iconst 0, 1) := by decide +kernel
theorem dX12_init_383 : decode cX12_init 383 = .ok (.istore_n 1, 1) := by decide +kernel
theorem dX12_init_384 : decode cX12_init 384 = .ok (.iload_n 1, 1) := by decide +kernel
theorem dX12_init_385 : decode cX12_init 385 = .ok (.bipush 72, 2) := by decide +kernel
theorem dX12_init_387 : decode cX12_init 387 = .ok (.if_icmp .ge 21, 3) := by decide +kernel
theorem dX12_init_390 : decode cX12_init 390 = .ok (.aload_n 0, 1) := by decide +kernel
theorem dX12_init_391 : decode cX12_init 391 = .ok (.getfield 33, 3) := by decide +kernel
theorem dX12_init_394 : decode cX12_init 394 = .ok (.iload_n 1, 1) := by decide +kernel
theorem dX12_init_395 : decode cX12_init 395 = .ok (.aload_n 0, 1) := by decide +kernel
theorem dX12_init_396 : decode cX12_init 396 = .ok (.getfield 37, 3) := by decide +kernel
theorem dX12_init_399 : decode cX12_init 399 = .ok (.iload_n 1, 1) := by decide +kernel
theorem dX12_init_400 : decode cX12_init 400 = .ok (.iaload, 1) := by decide +kernel
theorem dX12_init_401 : decode cX12_init 401 = .ok (.iastore, 1) := by decide +kernel
theorem dX12_init_402 : decode cX12_init 402 = .ok (.iinc 1 1, 3) := by decide +kernel
theorem dX12_init_405 : decode cX12_init 405 = .ok (.goto (-21), 3) := by decide +kernel
theorem dX12_init_408 : decode cX12_init 408 = .ok (.aload_n 0, 1) := by decide +kernel
theorem dX12_init_409 : decode cX12_init 409 = .ok (.invokevirtual 139, 3) := by decide +kernel
theorem dX12_init_412 : decode cX12_init 412 = .ok (.return_, 1) := by decide +kernel
/-- the cells at the end of the making -/
def hm0 : HS := (fun i => [fun k => [0, 0, 0, 0, 0, 0, 0, 0, 0, 0, 0, 0, 0, 0, 0, 0, 0, 0, 0, 0, 0, 0, 0, 0, 0, 0, 0, 0, (-1), 0, 0, 0, 0, 0, 0, 0, 0, 0, 0, 0, 0, 0, 0, 0, 0].getD k 0, (fun _ => 0), (fun _ => 0), (fun _ => 0), (fun _ => 0), fun _ => 0, fun _ => 0, (fun _ => 0), (fun _ => 0), (fun _ => 0), (fun _ => 0), (fun _ => 0), (fun _ => 0), (fun _ => 0), (fun _ => 0), (fun _ => 0), (fun _ => 0), fun _ => 0, (fun _ => 0)].getD i (fun _ => 0), fun _ _ => 0)
set_option maxHeartbeats 4000000 in
theorem X12_wl (cy : Nat → ClassId) (h0 q0 q1 q2 q3 q4 q5 q6 q7 q8 q9 q10 q11 q12 q13 q14 q15 q16 q17 : Nat) : wlL (adL [h0, q0, q1, q2, q3, q4, q5, q6, q7, q8, q9, q10, q11, q12, q13, q14, q15, q16, q17]) cy hm0 SHm 0 = [(h0, .inr (11, [.int 0, .ref q0, .int 0, .int 0, .int 0, .int 0, .ref q1, .ref q2, .ref q3, .ref q4, .ref q5, .int 0, .int 0, .int 0, .int 0, .int 0, .int 0, .long 0, .int 0, .int 0, .int 0, .ref q6, .ref q7, .int 0, .ref q8, .ref q9, .ref q10, .ref q11, .int (-1), .int 0, .int 0, .int 0, .int 0, .ref q12, .int 0, .ref q13, .int 0, .int 0, .int 0, .int 0, .int 0, .ref q14, .ref q15, .ref q16, .ref q17])), (q0, .inl ((cy 0), 940, .inl (fun _ => 0))), (q1, .inl ((cy 1), 332, .inl (fun _ => 0))), (q2, .inl ((cy 1), 72, .inl (fun _ => 0))), (q3, .inl ((cy 1), 135, .inl (fun _ => 0))), (q4, .inl ((cy 2), 34, .inr (.inl (fun _ => 0)))), (q5, .inl ((cy 2), 23, .inr (.inl (fun _ => 0)))), (q6, .inl ((cy 1), 632, .inl (fun _ => 0))), (q7, .inl ((cy 1), 79, .inl (fun _ => 0))), (q8, .inl ((cy 1), 64, .inl (fun _ => 0))), (q9, .inl ((cy 1), 30, .inl (fun _ => 0))), (q10, .inl ((cy 1), 5, .inl (fun _ => 0))), (q11, .inl ((cy 1), 5, .inl (fun _ => 0))), (q12, .inl ((cy 1), 4, .inl (fun _ => 0))), (q13, .inl ((cy 1), 45, .inl (fun _ => 0))), (q14, .inl ((cy 3), 45, .inl (fun _ => 0))), (q15, .inl ((cy 1), 664, .inl (fun _ => 0))), (q16, .inl ((cy 2), 34, .inr (.inl (fun _ => 0)))), (q17, .inl ((cy 3), 2, .inl (fun _ => 0)))] := by
  show wlL _ _ _ [.inr (11, [0, 3, 0, 0, 0, 0, 4, 5, 6, 7, 8, 0, 0, 0, 0, 0, 0, 1, 0, 0, 0, 9, 10, 0, 11, 12, 13, 14, 0, 0, 0, 0, 0, 15, 0, 16, 0, 0, 0, 0, 0, 17, 18, 19, 20]), .inl (0, 0, 940), .inl (0, 1, 332), .inl (0, 1, 72), .inl (0, 1, 135), .inl (1, 2, 34), .inl (1, 2, 23), .inl (0, 1, 632), .inl (0, 1, 79), .inl (0, 1, 64), .inl (0, 1, 30), .inl (0, 1, 5), .inl (0, 1, 5), .inl (0, 1, 4), .inl (0, 1, 45), .inl (0, 3, 45), .inl (0, 1, 664), .inl (1, 2, 34), .inl (0, 3, 2)] 0 = _
  refine wlL_o 1 rfl rfl ?_ ?_
  · refine fvL_c 1 rfl rfl ?_
    refine fvL_c 2 rfl rfl ?_
    refine fvL_c 3 rfl rfl ?_
    refine fvL_c 4 rfl rfl ?_
    refine fvL_c 5 rfl rfl ?_
    refine fvL_c 6 rfl rfl ?_
    refine fvL_c 7 rfl rfl ?_
    refine fvL_c 8 rfl rfl ?_
    refine fvL_c 9 rfl rfl ?_
    refine fvL_c 10 rfl rfl ?_
    refine fvL_c 11 rfl rfl ?_
    refine fvL_c 12 rfl rfl ?_
    refine fvL_c 13 rfl rfl ?_
    refine fvL_c 14 rfl rfl ?_
    refine fvL_c 15 rfl rfl ?_
    refine fvL_c 16 rfl rfl ?_
    refine fvL_c 17 rfl rfl ?_
    refine fvL_c 18 rfl rfl ?_
    refine fvL_c 19 rfl rfl ?_
    refine fvL_c 20 rfl rfl ?_
    refine fvL_c 21 rfl rfl ?_
    refine fvL_c 22 rfl rfl ?_
    refine fvL_c 23 rfl rfl ?_
    refine fvL_c 24 rfl rfl ?_
    refine fvL_c 25 rfl rfl ?_
    refine fvL_c 26 rfl rfl ?_
    refine fvL_c 27 rfl rfl ?_
    refine fvL_c 28 rfl rfl ?_
    refine fvL_c 29 rfl rfl ?_
    refine fvL_c 30 rfl rfl ?_
    refine fvL_c 31 rfl rfl ?_
    refine fvL_c 32 rfl rfl ?_
    refine fvL_c 33 rfl rfl ?_
    refine fvL_c 34 rfl rfl ?_
    refine fvL_c 35 rfl rfl ?_
    refine fvL_c 36 rfl rfl ?_
    refine fvL_c 37 rfl rfl ?_
    refine fvL_c 38 rfl rfl ?_
    refine fvL_c 39 rfl rfl ?_
    refine fvL_c 40 rfl rfl ?_
    refine fvL_c 41 rfl rfl ?_
    refine fvL_c 42 rfl rfl ?_
    refine fvL_c 43 rfl rfl ?_
    refine fvL_c 44 rfl rfl ?_
    refine fvL_c 45 rfl rfl ?_
    rfl
  refine wlL_c 2 rfl rfl ?_
  refine wlL_c 3 rfl rfl ?_
  refine wlL_c 4 rfl rfl ?_
  refine wlL_c 5 rfl rfl ?_
  refine wlL_c 6 rfl rfl ?_
  refine wlL_c 7 rfl rfl ?_
  refine wlL_c 8 rfl rfl ?_
  refine wlL_c 9 rfl rfl ?_
  refine wlL_c 10 rfl rfl ?_
  refine wlL_c 11 rfl rfl ?_
  refine wlL_c 12 rfl rfl ?_
  refine wlL_c 13 rfl rfl ?_
  refine wlL_c 14 rfl rfl ?_
  refine wlL_c 15 rfl rfl ?_
  refine wlL_c 16 rfl rfl ?_
  refine wlL_c 17 rfl rfl ?_
  refine wlL_c 18 rfl rfl ?_
  refine wlL_c 19 rfl rfl ?_
  rfl
/-- with the 23 reserved words -/
def hmR : HS := sL (sL (sL (sL (sL (sL (sL (sL (sL (sL (sL (sL (sL (sL (sL (sL (sL (sL (sL (sL (sL (sL (sL hm0 6 0 1818848869) 6 1 1668245870) 6 2 426836849509) 6 3 125848672761202) 6 4 1684366692) 6 5 427020350059) 6 6 499850634611) 6 7 1685022067) 6 8 431416635507) 6 9 2003133803) 6 10 28530) 6 11 6385252) 6 12 7237492) 6 13 1869636974) 6 14 499850634606) 6 15 28273320624416100) 6 16 7827310) 6 17 1684365668) 6 18 6840676) 6 19 1852137842) 6 20 483006772069) 6 21 108187750065510) 6 22 121450625394034
theorem X12_loop {R : Room} {Q : CtC → State → Prop} {Γ : CtC} {ad : Nat → Nat} {cells slots : Nat} (hG : CX cX12_init 2 RX12 Γ) : ∀ (j x : Nat) (h : HS), x + j = 72 → AC R 2 Q Γ 408 [(1, .int (nI 72)), (0, .ref (ad 0))] [] (wl SHm ad (cyOf Γ) (st h 2 (rg (h.1 2) x 72 (h.1 3)))) (tyL (cyOf Γ)) cells slots → AC R 2 Q Γ 384 [(1, .int (nI x)), (0, .ref (ad 0))] [] (wl SHm ad (cyOf Γ) h) (tyL (cyOf Γ)) cells slots := by
  intro j
  induction j with
  | zero =>
    intro x h hx k
    obtain rfl : x = 72 := by omega
    rw [rg_0, st_s] at k
    refine t_iload_n hG 0 rfl dX12_init_384 rfl ?_
    refine x_bipush (v := nI 72) hG dX12_init_385 (by decide) ?_
    refine t_icge hG (tgt := 408) dX12_init_387 rfl (fun _ => k) (fun q => absurd (by decide) q)
  | succ j ih =>
    intro x h hx k
    refine t_iload_n hG 0 rfl dX12_init_384 rfl ?_
    refine x_bipush (v := nI 72) hG dX12_init_385 (by decide) ?_
    refine t_icge hG (tgt := 408) dX12_init_387 rfl (fun q => ?_) (fun _ => ?_)
    · exact absurd ((nI_leI (by omega) (by omega)).mp q) (by omega)
    have hin : vp_in (nI x) 332 := inb_in (by rw [inb_nI (by omega)]; exact decide_eq_true (by omega))
    have hin2 : vp_in (nI x) 72 := inb_in (by rw [inb_nI (by omega)]; exact decide_eq_true (by omega))
    refine x_aload_n hG 1 rfl dX12_init_390 rfl ?_
    refine t_getR (i := 0) (t := 2) hG rfl cl_X12 ok_X12 6 (by decide) rfl tc_1615 dX12_init_391 ?_
    refine t_iload_n hG 0 rfl dX12_init_394 rfl ?_
    refine x_aload_n hG 1 rfl dX12_init_395 rfl ?_
    refine t_getR (i := 0) (t := 3) hG rfl cl_X12 ok_X12 7 (by decide) rfl tc_1616 dX12_init_396 ?_
    refine t_iload_n hG 0 rfl dX12_init_399 rfl ?_
    refine t_iald (i := 3) (N := 72) hG rfl hin2 dX12_init_400 ?_
    refine t_iast (i := 2) (N := 332) hG rfl hin dX12_init_401 ?_
    rw [nI_clamp (by omega), sI_st]
    refine t_iinc (v := nI (x + 1)) (lv' := [(1, .int (nI (x + 1))), (0, .ref (ad 0))]) hG 0 rfl dX12_init_402 (nI_add x 1) (by decide) rfl ?_
    refine t_goto hG (tgt := 384) dX12_init_405 rfl ?_
    refine ih (x + 1) _ (by omega) ?_
    rw [st_st, st_e, st_o (by decide), rg_s (g := h.1 3) (show x < 72 by omega) rfl]
    exact k
theorem X12_tail {wad : Nat → Nat} {R : Room} {Γ : CtC} {ad : Nat → Nat} {F cells slots : Nat} {h1 h2 : HS} (hG : CX cX12_init 2 RX12 Γ) (hZ : GSat wad Γ) (hI : Inj SHm ad) (hn : 3 ≤ R.frames) (hlo : 120 ≤ R.locals) (hf : cells ≤ R.cells ∧ slots ≤ R.slots) (e1 : f_M_clears F hmR = some ((), h1)) (e2 : f_M_begins F (st h1 2 (rg (h1.1 2) 0 72 (h1.1 3))) = some ((), h2)) : AC R 2 (QC (PostW SHm h2 (ad 0)) cells slots) Γ 154 [(0, .ref (ad 0))] [] (wl SHm ad (cyOf Γ) hm0) (tyL (cyOf Γ)) cells slots := by
  refine x_aload_n hG 0 rfl dX12_init_154 rfl ?_
  refine t_getR (i := 0) (t := 6) hG rfl cl_X12 ok_X12 10 (by decide) rfl tc_1619 dX12_init_155 ?_
  refine x_iconst (v := 0) hG dX12_init_158 (by decide) ?_
  refine t_ldc2 (v := 1818848869) hG tc_1578 dX12_init_159 ?_
  refine t_last (i := 6) (j := 0) hG rfl (by decide) (inb_in (by decide)) dX12_init_162 ?_
  refine x_aload_n hG 0 rfl dX12_init_163 rfl ?_
  refine t_getR (i := 0) (t := 6) hG rfl cl_X12 ok_X12 10 (by decide) rfl tc_1619 dX12_init_164 ?_
  refine x_iconst (v := 1) hG dX12_init_167 (by decide) ?_
  refine t_ldc2 (v := 1668245870) hG tc_1579 dX12_init_168 ?_
  refine t_last (i := 6) (j := 1) hG rfl (by decide) (inb_in (by decide)) dX12_init_171 ?_
  refine x_aload_n hG 0 rfl dX12_init_172 rfl ?_
  refine t_getR (i := 0) (t := 6) hG rfl cl_X12 ok_X12 10 (by decide) rfl tc_1619 dX12_init_173 ?_
  refine x_iconst (v := 2) hG dX12_init_176 (by decide) ?_
  refine t_ldc2 (v := 426836849509) hG tc_1580 dX12_init_177 ?_
  refine t_last (i := 6) (j := 2) hG rfl (by decide) (inb_in (by decide)) dX12_init_180 ?_
  refine x_aload_n hG 0 rfl dX12_init_181 rfl ?_
  refine t_getR (i := 0) (t := 6) hG rfl cl_X12 ok_X12 10 (by decide) rfl tc_1619 dX12_init_182 ?_
  refine x_iconst (v := 3) hG dX12_init_185 (by decide) ?_
  refine t_ldc2 (v := 125848672761202) hG tc_1581 dX12_init_186 ?_
  refine t_last (i := 6) (j := 3) hG rfl (by decide) (inb_in (by decide)) dX12_init_189 ?_
  refine x_aload_n hG 0 rfl dX12_init_190 rfl ?_
  refine t_getR (i := 0) (t := 6) hG rfl cl_X12 ok_X12 10 (by decide) rfl tc_1619 dX12_init_191 ?_
  refine x_iconst (v := 4) hG dX12_init_194 (by decide) ?_
  refine t_ldc2 (v := 1684366692) hG tc_1582 dX12_init_195 ?_
  refine t_last (i := 6) (j := 4) hG rfl (by decide) (inb_in (by decide)) dX12_init_198 ?_
  refine x_aload_n hG 0 rfl dX12_init_199 rfl ?_
  refine t_getR (i := 0) (t := 6) hG rfl cl_X12 ok_X12 10 (by decide) rfl tc_1619 dX12_init_200 ?_
  refine x_iconst (v := 5) hG dX12_init_203 (by decide) ?_
  refine t_ldc2 (v := 427020350059) hG tc_1583 dX12_init_204 ?_
  refine t_last (i := 6) (j := 5) hG rfl (by decide) (inb_in (by decide)) dX12_init_207 ?_
  refine x_aload_n hG 0 rfl dX12_init_208 rfl ?_
  refine t_getR (i := 0) (t := 6) hG rfl cl_X12 ok_X12 10 (by decide) rfl tc_1619 dX12_init_209 ?_
  refine x_bipush (v := 6) hG dX12_init_212 (by decide) ?_
  refine t_ldc2 (v := 499850634611) hG tc_1584 dX12_init_214 ?_
  refine t_last (i := 6) (j := 6) hG rfl (by decide) (inb_in (by decide)) dX12_init_217 ?_
  refine x_aload_n hG 0 rfl dX12_init_218 rfl ?_
  refine t_getR (i := 0) (t := 6) hG rfl cl_X12 ok_X12 10 (by decide) rfl tc_1619 dX12_init_219 ?_
  refine x_bipush (v := 7) hG dX12_init_222 (by decide) ?_
  refine t_ldc2 (v := 1685022067) hG tc_1585 dX12_init_224 ?_
  refine t_last (i := 6) (j := 7) hG rfl (by decide) (inb_in (by decide)) dX12_init_227 ?_
  refine x_aload_n hG 0 rfl dX12_init_228 rfl ?_
  refine t_getR (i := 0) (t := 6) hG rfl cl_X12 ok_X12 10 (by decide) rfl tc_1619 dX12_init_229 ?_
  refine x_bipush (v := 8) hG dX12_init_232 (by decide) ?_
  refine t_ldc2 (v := 431416635507) hG tc_1586 dX12_init_234 ?_
  refine t_last (i := 6) (j := 8) hG rfl (by decide) (inb_in (by decide)) dX12_init_237 ?_
  refine x_aload_n hG 0 rfl dX12_init_238 rfl ?_
  refine t_getR (i := 0) (t := 6) hG rfl cl_X12 ok_X12 10 (by decide) rfl tc_1619 dX12_init_239 ?_
  refine x_bipush (v := 9) hG dX12_init_242 (by decide) ?_
  refine t_ldc2 (v := 2003133803) hG tc_1587 dX12_init_244 ?_
  refine t_last (i := 6) (j := 9) hG rfl (by decide) (inb_in (by decide)) dX12_init_247 ?_
  refine x_aload_n hG 0 rfl dX12_init_248 rfl ?_
  refine t_getR (i := 0) (t := 6) hG rfl cl_X12 ok_X12 10 (by decide) rfl tc_1619 dX12_init_249 ?_
  refine x_bipush (v := 10) hG dX12_init_252 (by decide) ?_
  refine t_ldc2 (v := 28530) hG tc_1588 dX12_init_254 ?_
  refine t_last (i := 6) (j := 10) hG rfl (by decide) (inb_in (by decide)) dX12_init_257 ?_
  refine x_aload_n hG 0 rfl dX12_init_258 rfl ?_
  refine t_getR (i := 0) (t := 6) hG rfl cl_X12 ok_X12 10 (by decide) rfl tc_1619 dX12_init_259 ?_
  refine x_bipush (v := 11) hG dX12_init_262 (by decide) ?_
  refine t_ldc2 (v := 6385252) hG tc_1589 dX12_init_264 ?_
  refine t_last (i := 6) (j := 11) hG rfl (by decide) (inb_in (by decide)) dX12_init_267 ?_
  refine x_aload_n hG 0 rfl dX12_init_268 rfl ?_
  refine t_getR (i := 0) (t := 6) hG rfl cl_X12 ok_X12 10 (by decide) rfl tc_1619 dX12_init_269 ?_
  refine x_bipush (v := 12) hG dX12_init_272 (by decide) ?_
  refine t_ldc2 (v := 7237492) hG tc_1590 dX12_init_274 ?_
  refine t_last (i := 6) (j := 12) hG rfl (by decide) (inb_in (by decide)) dX12_init_277 ?_
  refine x_aload_n hG 0 rfl dX12_init_278 rfl ?_
  refine t_getR (i := 0) (t := 6) hG rfl cl_X12 ok_X12 10 (by decide) rfl tc_1619 dX12_init_279 ?_
  refine x_bipush (v := 13) hG dX12_init_282 (by decide) ?_
  refine t_ldc2 (v := 1869636974) hG tc_1591 dX12_init_284 ?_
  refine t_last (i := 6) (j := 13) hG rfl (by decide) (inb_in (by decide)) dX12_init_287 ?_
  refine x_aload_n hG 0 rfl dX12_init_288 rfl ?_
  refine t_getR (i := 0) (t := 6) hG rfl cl_X12 ok_X12 10 (by decide) rfl tc_1619 dX12_init_289 ?_
  refine x_bipush (v := 14) hG dX12_init_292 (by decide) ?_
  refine t_ldc2 (v := 499850634606) hG tc_1592 dX12_init_294 ?_
  refine t_last (i := 6) (j := 14) hG rfl (by decide) (inb_in (by decide)) dX12_init_297 ?_
  refine x_aload_n hG 0 rfl dX12_init_298 rfl ?_
  refine t_getR (i := 0) (t := 6) hG rfl cl_X12 ok_X12 10 (by decide) rfl tc_1619 dX12_init_299 ?_
  refine x_bipush (v := 15) hG dX12_init_302 (by decide) ?_
  refine t_ldc2 (v := 28273320624416100) hG tc_1593 dX12_init_304 ?_
  refine t_last (i := 6) (j := 15) hG rfl (by decide) (inb_in (by decide)) dX12_init_307 ?_
  refine x_aload_n hG 0 rfl dX12_init_308 rfl ?_
  refine t_getR (i := 0) (t := 6) hG rfl cl_X12 ok_X12 10 (by decide) rfl tc_1619 dX12_init_309 ?_
  refine x_bipush (v := 16) hG dX12_init_312 (by decide) ?_
  refine t_ldc2 (v := 7827310) hG tc_1594 dX12_init_314 ?_
  refine t_last (i := 6) (j := 16) hG rfl (by decide) (inb_in (by decide)) dX12_init_317 ?_
  refine x_aload_n hG 0 rfl dX12_init_318 rfl ?_
  refine t_getR (i := 0) (t := 6) hG rfl cl_X12 ok_X12 10 (by decide) rfl tc_1619 dX12_init_319 ?_
  refine x_bipush (v := 17) hG dX12_init_322 (by decide) ?_
  refine t_ldc2 (v := 1684365668) hG tc_1595 dX12_init_324 ?_
  refine t_last (i := 6) (j := 17) hG rfl (by decide) (inb_in (by decide)) dX12_init_327 ?_
  refine x_aload_n hG 0 rfl dX12_init_328 rfl ?_
  refine t_getR (i := 0) (t := 6) hG rfl cl_X12 ok_X12 10 (by decide) rfl tc_1619 dX12_init_329 ?_
  refine x_bipush (v := 18) hG dX12_init_332 (by decide) ?_
  refine t_ldc2 (v := 6840676) hG tc_1596 dX12_init_334 ?_
  refine t_last (i := 6) (j := 18) hG rfl (by decide) (inb_in (by decide)) dX12_init_337 ?_
  refine x_aload_n hG 0 rfl dX12_init_338 rfl ?_
  refine t_getR (i := 0) (t := 6) hG rfl cl_X12 ok_X12 10 (by decide) rfl tc_1619 dX12_init_339 ?_
  refine x_bipush (v := 19) hG dX12_init_342 (by decide) ?_
  refine t_ldc2 (v := 1852137842) hG tc_1597 dX12_init_344 ?_
  refine t_last (i := 6) (j := 19) hG rfl (by decide) (inb_in (by decide)) dX12_init_347 ?_
  refine x_aload_n hG 0 rfl dX12_init_348 rfl ?_
  refine t_getR (i := 0) (t := 6) hG rfl cl_X12 ok_X12 10 (by decide) rfl tc_1619 dX12_init_349 ?_
  refine x_bipush (v := 20) hG dX12_init_352 (by decide) ?_
  refine t_ldc2 (v := 483006772069) hG tc_1598 dX12_init_354 ?_
  refine t_last (i := 6) (j := 20) hG rfl (by decide) (inb_in (by decide)) dX12_init_357 ?_
  refine x_aload_n hG 0 rfl dX12_init_358 rfl ?_
  refine t_getR (i := 0) (t := 6) hG rfl cl_X12 ok_X12 10 (by decide) rfl tc_1619 dX12_init_359 ?_
  refine x_bipush (v := 21) hG dX12_init_362 (by decide) ?_
  refine t_ldc2 (v := 108187750065510) hG tc_1599 dX12_init_364 ?_
  refine t_last (i := 6) (j := 21) hG rfl (by decide) (inb_in (by decide)) dX12_init_367 ?_
  refine x_aload_n hG 0 rfl dX12_init_368 rfl ?_
  refine t_getR (i := 0) (t := 6) hG rfl cl_X12 ok_X12 10 (by decide) rfl tc_1619 dX12_init_369 ?_
  refine x_bipush (v := 22) hG dX12_init_372 (by decide) ?_
  refine t_ldc2 (v := 121450625394034) hG tc_1600 dX12_init_374 ?_
  refine t_last (i := 6) (j := 22) hG rfl (by decide) (inb_in (by decide)) dX12_init_377 ?_
  refine x_aload_n hG 0 rfl dX12_init_378 rfl ?_
  refine t_call (i := 0) hG hZ hI rfl cl_X12 mk_X12_clears tc_1601 (Nat.le_trans (by decide) hn) (Nat.le_trans (by decide) hlo) hf (c_M_clears F hmR ((), h1) e1) dX12_init_379 ?_
  refine x_iconst (v := nI 0) hG dX12_init_382 (by decide) ?_
  refine t_istore_n (lv' := [(1, .int (nI 0)), (0, .ref (ad 0))]) hG dX12_init_383 rfl (by decide) rfl ?_
  refine X12_loop hG 72 0 h1 rfl ?_
  refine x_aload_n hG 1 rfl dX12_init_408 rfl ?_
  refine t_call (i := 0) hG hZ hI rfl cl_X12 mk_X12_begins tc_1605 (Nat.le_trans (by decide) hn) (Nat.le_trans (by decide) hlo) hf (c_M_begins F _ ((), h2) e2) dX12_init_409 ?_
  exact x_vret hG (PostW_of rfl hI) dX12_init_412
set_option maxHeartbeats 4000000 in
theorem ct_X12 {wad : Nat → Nat} (h0 : Nat) {F : Nat} {h1 h2 : HS} (e1 : f_M_clears F hmR = some ((), h1)) (e2 : f_M_begins F (st h1 2 (rg (h1.1 2) 0 72 (h1.1 3))) = some ((), h2)) : CtG wad [] { frames := 3, cells := 18, slots := 3145, locals := 120 } yX12_init cX12_init 2 18 3145 [.ref h0] [(h0, .inr (11, [.int 0, .null, .int 0, .int 0, .int 0, .int 0, .null, .null, .null, .null, .null, .int 0, .int 0, .int 0, .int 0, .int 0, .int 0, .long 0, .int 0, .int 0, .int 0, .null, .null, .int 0, .null, .null, .null, .null, .int 0, .int 0, .int 0, .int 0, .int 0, .null, .int 0, .null, .int 0, .int 0, .int 0, .int 0, .int 0, .null, .null, .null, .null]))] [] (PostW SHm h2 h0) := by
  refine x_enterG (own := RX12) (by decide) rfl rfl (Nat.le_of_ble_eq_true rfl) (lv := [(0, .ref h0)]) rfl (fun Γ hG hN hZ => ?_)
  refine x_aload_n hG 0 rfl dX12_init_0 rfl ?_
  refine x_objInit hG tc_1577 tc_148 tc_149 (by decide) (by decide) dX12_init_1 ?_
  refine x_aload_n hG 0 rfl dX12_init_4 rfl ?_
  refine x_sipush (v := 940) hG dX12_init_5 (by decide) ?_
  refine x_newa (atype := .byte) (ty := .byte) (N' := 940) (a0 := (940, .inl (fun _ => 0))) hG tc_190 rfl (fun _ => rfl) (by decide) (by decide) (by decide) (by decide) (by decide) dX12_init_8 (fun q0 c0 => ?_)
  refine x_putF (T := TX12) (ty := tyX12 1) hG ok_X12 cl_X12 0 rfl 1 (by decide) tc_1610 rfl rfl (tyX12_ok 1 (by decide)) rfl rfl (Nat.le_of_ble_eq_true rfl) dX12_init_10 ?_
  show AC _ _ _ Γ 13 _ [] [(h0, .inr (11, [.int 0, .ref q0, .int 0, .int 0, .int 0, .int 0, .null, .null, .null, .null, .null, .int 0, .int 0, .int 0, .int 0, .int 0, .int 0, .long 0, .int 0, .int 0, .int 0, .null, .null, .int 0, .null, .null, .null, .null, .int 0, .int 0, .int 0, .int 0, .int 0, .null, .int 0, .null, .int 0, .int 0, .int 0, .int 0, .int 0, .null, .null, .null, .null])), (q0, .inl (c0, 940, .inl (fun _ => 0)))] [(c0, .byte)] 1 940
  refine x_aload_n hG 0 rfl dX12_init_13 rfl ?_
  refine x_sipush (v := 332) hG dX12_init_14 (by decide) ?_
  refine x_newa (atype := .int) (ty := .int) (N' := 332) (a0 := (332, .inl (fun _ => 0))) hG tc_238 rfl (fun _ => rfl) (by decide) (by decide) (by decide) (by decide) (by decide) dX12_init_17 (fun q1 c1 => ?_)
  refine x_putF (T := TX12) (ty := tyX12 6) hG ok_X12 cl_X12 0 rfl 6 (by decide) tc_1615 rfl rfl (tyX12_ok 6 (by decide)) rfl rfl (Nat.le_of_ble_eq_true rfl) dX12_init_19 ?_
  show AC _ _ _ Γ 22 _ [] [(h0, .inr (11, [.int 0, .ref q0, .int 0, .int 0, .int 0, .int 0, .ref q1, .null, .null, .null, .null, .int 0, .int 0, .int 0, .int 0, .int 0, .int 0, .long 0, .int 0, .int 0, .int 0, .null, .null, .int 0, .null, .null, .null, .null, .int 0, .int 0, .int 0, .int 0, .int 0, .null, .int 0, .null, .int 0, .int 0, .int 0, .int 0, .int 0, .null, .null, .null, .null])), (q0, .inl (c0, 940, .inl (fun _ => 0))), (q1, .inl (c1, 332, .inl (fun _ => 0)))] [(c0, .byte), (c1, .int)] 2 1272
  refine x_aload_n hG 0 rfl dX12_init_22 rfl ?_
  refine x_bipush (v := 72) hG dX12_init_23 (by decide) ?_
  refine x_newa (atype := .int) (ty := .int) (N' := 72) (a0 := (72, .inl (fun _ => 0))) hG tc_238 rfl (fun _ => rfl) (by decide) (by decide) (by decide) (by decide) (by decide) dX12_init_25 (fun q2 c2 => ?_)
  refine x_putF (T := TX12) (ty := tyX12 7) hG ok_X12 cl_X12 0 rfl 7 (by decide) tc_1616 rfl rfl (tyX12_ok 7 (by decide)) rfl rfl (Nat.le_of_ble_eq_true rfl) dX12_init_27 ?_
  show AC _ _ _ Γ 30 _ [] [(h0, .inr (11, [.int 0, .ref q0, .int 0, .int 0, .int 0, .int 0, .ref q1, .ref q2, .null, .null, .null, .int 0, .int 0, .int 0, .int 0, .int 0, .int 0, .long 0, .int 0, .int 0, .int 0, .null, .null, .int 0, .null, .null, .null, .null, .int 0, .int 0, .int 0, .int 0, .int 0, .null, .int 0, .null, .int 0, .int 0, .int 0, .int 0, .int 0, .null, .null, .null, .null])), (q0, .inl (c0, 940, .inl (fun _ => 0))), (q1, .inl (c1, 332, .inl (fun _ => 0))), (q2, .inl (c2, 72, .inl (fun _ => 0)))] [(c0, .byte), (c1, .int), (c2, .int)] 3 1344
  refine x_aload_n hG 0 rfl dX12_init_30 rfl ?_
  refine x_sipush (v := 135) hG dX12_init_31 (by decide) ?_
  refine x_newa (atype := .int) (ty := .int) (N' := 135) (a0 := (135, .inl (fun _ => 0))) hG tc_238 rfl (fun _ => rfl) (by decide) (by decide) (by decide) (by decide) (by decide) dX12_init_34 (fun q3 c3 => ?_)
  refine x_putF (T := TX12) (ty := tyX12 8) hG ok_X12 cl_X12 0 rfl 8 (by decide) tc_1617 rfl rfl (tyX12_ok 8 (by decide)) rfl rfl (Nat.le_of_ble_eq_true rfl) dX12_init_36 ?_
  show AC _ _ _ Γ 39 _ [] [(h0, .inr (11, [.int 0, .ref q0, .int 0, .int 0, .int 0, .int 0, .ref q1, .ref q2, .ref q3, .null, .null, .int 0, .int 0, .int 0, .int 0, .int 0, .int 0, .long 0, .int 0, .int 0, .int 0, .null, .null, .int 0, .null, .null, .null, .null, .int 0, .int 0, .int 0, .int 0, .int 0, .null, .int 0, .null, .int 0, .int 0, .int 0, .int 0, .int 0, .null, .null, .null, .null])), (q0, .inl (c0, 940, .inl (fun _ => 0))), (q1, .inl (c1, 332, .inl (fun _ => 0))), (q2, .inl (c2, 72, .inl (fun _ => 0))), (q3, .inl (c3, 135, .inl (fun _ => 0)))] [(c0, .byte), (c1, .int), (c2, .int), (c3, .int)] 4 1479
  refine x_aload_n hG 0 rfl dX12_init_39 rfl ?_
  refine x_bipush (v := 34) hG dX12_init_40 (by decide) ?_
  refine x_newa (atype := .long) (ty := .long) (N' := 34) (a0 := (34, .inr (.inl (fun _ => 0)))) hG tc_237 rfl (fun _ => rfl) (by decide) (by decide) (by decide) (by decide) (by decide) dX12_init_42 (fun q4 c4 => ?_)
  refine x_putF (T := TX12) (ty := tyX12 9) hG ok_X12 cl_X12 0 rfl 9 (by decide) tc_1618 rfl rfl (tyX12_ok 9 (by decide)) rfl rfl (Nat.le_of_ble_eq_true rfl) dX12_init_44 ?_
  show AC _ _ _ Γ 47 _ [] [(h0, .inr (11, [.int 0, .ref q0, .int 0, .int 0, .int 0, .int 0, .ref q1, .ref q2, .ref q3, .ref q4, .null, .int 0, .int 0, .int 0, .int 0, .int 0, .int 0, .long 0, .int 0, .int 0, .int 0, .null, .null, .int 0, .null, .null, .null, .null, .int 0, .int 0, .int 0, .int 0, .int 0, .null, .int 0, .null, .int 0, .int 0, .int 0, .int 0, .int 0, .null, .null, .null, .null])), (q0, .inl (c0, 940, .inl (fun _ => 0))), (q1, .inl (c1, 332, .inl (fun _ => 0))), (q2, .inl (c2, 72, .inl (fun _ => 0))), (q3, .inl (c3, 135, .inl (fun _ => 0))), (q4, .inl (c4, 34, .inr (.inl (fun _ => 0))))] [(c0, .byte), (c1, .int), (c2, .int), (c3, .int), (c4, .long)] 5 1513
  refine x_aload_n hG 0 rfl dX12_init_47 rfl ?_
  refine x_bipush (v := 23) hG dX12_init_48 (by decide) ?_
  refine x_newa (atype := .long) (ty := .long) (N' := 23) (a0 := (23, .inr (.inl (fun _ => 0)))) hG tc_237 rfl (fun _ => rfl) (by decide) (by decide) (by decide) (by decide) (by decide) dX12_init_50 (fun q5 c5 => ?_)
  refine x_putF (T := TX12) (ty := tyX12 10) hG ok_X12 cl_X12 0 rfl 10 (by decide) tc_1619 rfl rfl (tyX12_ok 10 (by decide)) rfl rfl (Nat.le_of_ble_eq_true rfl) dX12_init_52 ?_
  show AC _ _ _ Γ 55 _ [] [(h0, .inr (11, [.int 0, .ref q0, .int 0, .int 0, .int 0, .int 0, .ref q1, .ref q2, .ref q3, .ref q4, .ref q5, .int 0, .int 0, .int 0, .int 0, .int 0, .int 0, .long 0, .int 0, .int 0, .int 0, .null, .null, .int 0, .null, .null, .null, .null, .int 0, .int 0, .int 0, .int 0, .int 0, .null, .int 0, .null, .int 0, .int 0, .int 0, .int 0, .int 0, .null, .null, .null, .null])), (q0, .inl (c0, 940, .inl (fun _ => 0))), (q1, .inl (c1, 332, .inl (fun _ => 0))), (q2, .inl (c2, 72, .inl (fun _ => 0))), (q3, .inl (c3, 135, .inl (fun _ => 0))), (q4, .inl (c4, 34, .inr (.inl (fun _ => 0)))), (q5, .inl (c5, 23, .inr (.inl (fun _ => 0))))] [(c0, .byte), (c1, .int), (c2, .int), (c3, .int), (c4, .long), (c5, .long)] 6 1536
  refine x_aload_n hG 0 rfl dX12_init_55 rfl ?_
  refine x_sipush (v := 632) hG dX12_init_56 (by decide) ?_
  refine x_newa (atype := .int) (ty := .int) (N' := 632) (a0 := (632, .inl (fun _ => 0))) hG tc_238 rfl (fun _ => rfl) (by decide) (by decide) (by decide) (by decide) (by decide) dX12_init_59 (fun q6 c6 => ?_)
  refine x_putF (T := TX12) (ty := tyX12 21) hG ok_X12 cl_X12 0 rfl 21 (by decide) tc_1630 rfl rfl (tyX12_ok 21 (by decide)) rfl rfl (Nat.le_of_ble_eq_true rfl) dX12_init_61 ?_
  show AC _ _ _ Γ 64 _ [] [(h0, .inr (11, [.int 0, .ref q0, .int 0, .int 0, .int 0, .int 0, .ref q1, .ref q2, .ref q3, .ref q4, .ref q5, .int 0, .int 0, .int 0, .int 0, .int 0, .int 0, .long 0, .int 0, .int 0, .int 0, .ref q6, .null, .int 0, .null, .null, .null, .null, .int 0, .int 0, .int 0, .int 0, .int 0, .null, .int 0, .null, .int 0, .int 0, .int 0, .int 0, .int 0, .null, .null, .null, .null])), (q0, .inl (c0, 940, .inl (fun _ => 0))), (q1, .inl (c1, 332, .inl (fun _ => 0))), (q2, .inl (c2, 72, .inl (fun _ => 0))), (q3, .inl (c3, 135, .inl (fun _ => 0))), (q4, .inl (c4, 34, .inr (.inl (fun _ => 0)))), (q5, .inl (c5, 23, .inr (.inl (fun _ => 0)))), (q6, .inl (c6, 632, .inl (fun _ => 0)))] [(c0, .byte), (c1, .int), (c2, .int), (c3, .int), (c4, .long), (c5, .long), (c6, .int)] 7 2168
  refine x_aload_n hG 0 rfl dX12_init_64 rfl ?_
  refine x_bipush (v := 79) hG dX12_init_65 (by decide) ?_
  refine x_newa (atype := .int) (ty := .int) (N' := 79) (a0 := (79, .inl (fun _ => 0))) hG tc_238 rfl (fun _ => rfl) (by decide) (by decide) (by decide) (by decide) (by decide) dX12_init_67 (fun q7 c7 => ?_)
  refine x_putF (T := TX12) (ty := tyX12 22) hG ok_X12 cl_X12 0 rfl 22 (by decide) tc_1631 rfl rfl (tyX12_ok 22 (by decide)) rfl rfl (Nat.le_of_ble_eq_true rfl) dX12_init_69 ?_
  show AC _ _ _ Γ 72 _ [] [(h0, .inr (11, [.int 0, .ref q0, .int 0, .int 0, .int 0, .int 0, .ref q1, .ref q2, .ref q3, .ref q4, .ref q5, .int 0, .int 0, .int 0, .int 0, .int 0, .int 0, .long 0, .int 0, .int 0, .int 0, .ref q6, .ref q7, .int 0, .null, .null, .null, .null, .int 0, .int 0, .int 0, .int 0, .int 0, .null, .int 0, .null, .int 0, .int 0, .int 0, .int 0, .int 0, .null, .null, .null, .null])), (q0, .inl (c0, 940, .inl (fun _ => 0))), (q1, .inl (c1, 332, .inl (fun _ => 0))), (q2, .inl (c2, 72, .inl (fun _ => 0))), (q3, .inl (c3, 135, .inl (fun _ => 0))), (q4, .inl (c4, 34, .inr (.inl (fun _ => 0)))), (q5, .inl (c5, 23, .inr (.inl (fun _ => 0)))), (q6, .inl (c6, 632, .inl (fun _ => 0))), (q7, .inl (c7, 79, .inl (fun _ => 0)))] [(c0, .byte), (c1, .int), (c2, .int), (c3, .int), (c4, .long), (c5, .long), (c6, .int), (c7, .int)] 8 2247
  refine x_aload_n hG 0 rfl dX12_init_72 rfl ?_
  refine x_bipush (v := 64) hG dX12_init_73 (by decide) ?_
  refine x_newa (atype := .int) (ty := .int) (N' := 64) (a0 := (64, .inl (fun _ => 0))) hG tc_238 rfl (fun _ => rfl) (by decide) (by decide) (by decide) (by decide) (by decide) dX12_init_75 (fun q8 c8 => ?_)
  refine x_putF (T := TX12) (ty := tyX12 24) hG ok_X12 cl_X12 0 rfl 24 (by decide) tc_1633 rfl rfl (tyX12_ok 24 (by decide)) rfl rfl (Nat.le_of_ble_eq_true rfl) dX12_init_77 ?_
  show AC _ _ _ Γ 80 _ [] [(h0, .inr (11, [.int 0, .ref q0, .int 0, .int 0, .int 0, .int 0, .ref q1, .ref q2, .ref q3, .ref q4, .ref q5, .int 0, .int 0, .int 0, .int 0, .int 0, .int 0, .long 0, .int 0, .int 0, .int 0, .ref q6, .ref q7, .int 0, .ref q8, .null, .null, .null, .int 0, .int 0, .int 0, .int 0, .int 0, .null, .int 0, .null, .int 0, .int 0, .int 0, .int 0, .int 0, .null, .null, .null, .null])), (q0, .inl (c0, 940, .inl (fun _ => 0))), (q1, .inl (c1, 332, .inl (fun _ => 0))), (q2, .inl (c2, 72, .inl (fun _ => 0))), (q3, .inl (c3, 135, .inl (fun _ => 0))), (q4, .inl (c4, 34, .inr (.inl (fun _ => 0)))), (q5, .inl (c5, 23, .inr (.inl (fun _ => 0)))), (q6, .inl (c6, 632, .inl (fun _ => 0))), (q7, .inl (c7, 79, .inl (fun _ => 0))), (q8, .inl (c8, 64, .inl (fun _ => 0)))] [(c0, .byte), (c1, .int), (c2, .int), (c3, .int), (c4, .long), (c5, .long), (c6, .int), (c7, .int), (c8, .int)] 9 2311
  refine x_aload_n hG 0 rfl dX12_init_80 rfl ?_
  refine x_bipush (v := 30) hG dX12_init_81 (by decide) ?_
  refine x_newa (atype := .int) (ty := .int) (N' := 30) (a0 := (30, .inl (fun _ => 0))) hG tc_238 rfl (fun _ => rfl) (by decide) (by decide) (by decide) (by decide) (by decide) dX12_init_83 (fun q9 c9 => ?_)
  refine x_putF (T := TX12) (ty := tyX12 25) hG ok_X12 cl_X12 0 rfl 25 (by decide) tc_1634 rfl rfl (tyX12_ok 25 (by decide)) rfl rfl (Nat.le_of_ble_eq_true rfl) dX12_init_85 ?_
  show AC _ _ _ Γ 88 _ [] [(h0, .inr (11, [.int 0, .ref q0, .int 0, .int 0, .int 0, .int 0, .ref q1, .ref q2, .ref q3, .ref q4, .ref q5, .int 0, .int 0, .int 0, .int 0, .int 0, .int 0, .long 0, .int 0, .int 0, .int 0, .ref q6, .ref q7, .int 0, .ref q8, .ref q9, .null, .null, .int 0, .int 0, .int 0, .int 0, .int 0, .null, .int 0, .null, .int 0, .int 0, .int 0, .int 0, .int 0, .null, .null, .null, .null])), (q0, .inl (c0, 940, .inl (fun _ => 0))), (q1, .inl (c1, 332, .inl (fun _ => 0))), (q2, .inl (c2, 72, .inl (fun _ => 0))), (q3, .inl (c3, 135, .inl (fun _ => 0))), (q4, .inl (c4, 34, .inr (.inl (fun _ => 0)))), (q5, .inl (c5, 23, .inr (.inl (fun _ => 0)))), (q6, .inl (c6, 632, .inl (fun _ => 0))), (q7, .inl (c7, 79, .inl (fun _ => 0))), (q8, .inl (c8, 64, .inl (fun _ => 0))), (q9, .inl (c9, 30, .inl (fun _ => 0)))] [(c0, .byte), (c1, .int), (c2, .int), (c3, .int), (c4, .long), (c5, .long), (c6, .int), (c7, .int), (c8, .int), (c9, .int)] 10 2341
  refine x_aload_n hG 0 rfl dX12_init_88 rfl ?_
  refine x_iconst (v := 5) hG dX12_init_89 (by decide) ?_
  refine x_newa (atype := .int) (ty := .int) (N' := 5) (a0 := (5, .inl (fun _ => 0))) hG tc_238 rfl (fun _ => rfl) (by decide) (by decide) (by decide) (by decide) (by decide) dX12_init_90 (fun q10 c10 => ?_)
  refine x_putF (T := TX12) (ty := tyX12 26) hG ok_X12 cl_X12 0 rfl 26 (by decide) tc_1635 rfl rfl (tyX12_ok 26 (by decide)) rfl rfl (Nat.le_of_ble_eq_true rfl) dX12_init_92 ?_
  show AC _ _ _ Γ 95 _ [] [(h0, .inr (11, [.int 0, .ref q0, .int 0, .int 0, .int 0, .int 0, .ref q1, .ref q2, .ref q3, .ref q4, .ref q5, .int 0, .int 0, .int 0, .int 0, .int 0, .int 0, .long 0, .int 0, .int 0, .int 0, .ref q6, .ref q7, .int 0, .ref q8, .ref q9, .ref q10, .null, .int 0, .int 0, .int 0, .int 0, .int 0, .null, .int 0, .null, .int 0, .int 0, .int 0, .int 0, .int 0, .null, .null, .null, .null])), (q0, .inl (c0, 940, .inl (fun _ => 0))), (q1, .inl (c1, 332, .inl (fun _ => 0))), (q2, .inl (c2, 72, .inl (fun _ => 0))), (q3, .inl (c3, 135, .inl (fun _ => 0))), (q4, .inl (c4, 34, .inr (.inl (fun _ => 0)))), (q5, .inl (c5, 23, .inr (.inl (fun _ => 0)))), (q6, .inl (c6, 632, .inl (fun _ => 0))), (q7, .inl (c7, 79, .inl (fun _ => 0))), (q8, .inl (c8, 64, .inl (fun _ => 0))), (q9, .inl (c9, 30, .inl (fun _ => 0))), (q10, .inl (c10, 5, .inl (fun _ => 0)))] [(c0, .byte), (c1, .int), (c2, .int), (c3, .int), (c4, .long), (c5, .long), (c6, .int), (c7, .int), (c8, .int), (c9, .int), (c10, .int)] 11 2346
  refine x_aload_n hG 0 rfl dX12_init_95 rfl ?_
  refine x_iconst (v := 5) hG dX12_init_96 (by decide) ?_
  refine x_newa (atype := .int) (ty := .int) (N' := 5) (a0 := (5, .inl (fun _ => 0))) hG tc_238 rfl (fun _ => rfl) (by decide) (by decide) (by decide) (by decide) (by decide) dX12_init_97 (fun q11 c11 => ?_)
  refine x_putF (T := TX12) (ty := tyX12 27) hG ok_X12 cl_X12 0 rfl 27 (by decide) tc_1636 rfl rfl (tyX12_ok 27 (by decide)) rfl rfl (Nat.le_of_ble_eq_true rfl) dX12_init_99 ?_
  show AC _ _ _ Γ 102 _ [] [(h0, .inr (11, [.int 0, .ref q0, .int 0, .int 0, .int 0, .int 0, .ref q1, .ref q2, .ref q3, .ref q4, .ref q5, .int 0, .int 0, .int 0, .int 0, .int 0, .int 0, .long 0, .int 0, .int 0, .int 0, .ref q6, .ref q7, .int 0, .ref q8, .ref q9, .ref q10, .ref q11, .int 0, .int 0, .int 0, .int 0, .int 0, .null, .int 0, .null, .int 0, .int 0, .int 0, .int 0, .int 0, .null, .null, .null, .null])), (q0, .inl (c0, 940, .inl (fun _ => 0))), (q1, .inl (c1, 332, .inl (fun _ => 0))), (q2, .inl (c2, 72, .inl (fun _ => 0))), (q3, .inl (c3, 135, .inl (fun _ => 0))), (q4, .inl (c4, 34, .inr (.inl (fun _ => 0)))), (q5, .inl (c5, 23, .inr (.inl (fun _ => 0)))), (q6, .inl (c6, 632, .inl (fun _ => 0))), (q7, .inl (c7, 79, .inl (fun _ => 0))), (q8, .inl (c8, 64, .inl (fun _ => 0))), (q9, .inl (c9, 30, .inl (fun _ => 0))), (q10, .inl (c10, 5, .inl (fun _ => 0))), (q11, .inl (c11, 5, .inl (fun _ => 0)))] [(c0, .byte), (c1, .int), (c2, .int), (c3, .int), (c4, .long), (c5, .long), (c6, .int), (c7, .int), (c8, .int), (c9, .int), (c10, .int), (c11, .int)] 12 2351
  refine x_aload_n hG 0 rfl dX12_init_102 rfl ?_
  refine x_iconst (v := (-1)) hG dX12_init_103 (by decide) ?_
  refine x_put (T := TX12) (ty := tyX12 28) hG ok_X12 cl_X12 0 rfl 28 (by decide) tc_1637 rfl (tyX12_ok 28 (by decide)) rfl rfl (Nat.le_of_ble_eq_true rfl) dX12_init_104 ?_
  show AC _ _ _ Γ 107 _ [] [(h0, .inr (11, [.int 0, .ref q0, .int 0, .int 0, .int 0, .int 0, .ref q1, .ref q2, .ref q3, .ref q4, .ref q5, .int 0, .int 0, .int 0, .int 0, .int 0, .int 0, .long 0, .int 0, .int 0, .int 0, .ref q6, .ref q7, .int 0, .ref q8, .ref q9, .ref q10, .ref q11, .int (-1), .int 0, .int 0, .int 0, .int 0, .null, .int 0, .null, .int 0, .int 0, .int 0, .int 0, .int 0, .null, .null, .null, .null])), (q0, .inl (c0, 940, .inl (fun _ => 0))), (q1, .inl (c1, 332, .inl (fun _ => 0))), (q2, .inl (c2, 72, .inl (fun _ => 0))), (q3, .inl (c3, 135, .inl (fun _ => 0))), (q4, .inl (c4, 34, .inr (.inl (fun _ => 0)))), (q5, .inl (c5, 23, .inr (.inl (fun _ => 0)))), (q6, .inl (c6, 632, .inl (fun _ => 0))), (q7, .inl (c7, 79, .inl (fun _ => 0))), (q8, .inl (c8, 64, .inl (fun _ => 0))), (q9, .inl (c9, 30, .inl (fun _ => 0))), (q10, .inl (c10, 5, .inl (fun _ => 0))), (q11, .inl (c11, 5, .inl (fun _ => 0)))] [(c0, .byte), (c1, .int), (c2, .int), (c3, .int), (c4, .long), (c5, .long), (c6, .int), (c7, .int), (c8, .int), (c9, .int), (c10, .int), (c11, .int)] 12 2351
  refine x_aload_n hG 0 rfl dX12_init_107 rfl ?_
  refine x_iconst (v := 4) hG dX12_init_108 (by decide) ?_
  refine x_newa (atype := .int) (ty := .int) (N' := 4) (a0 := (4, .inl (fun _ => 0))) hG tc_238 rfl (fun _ => rfl) (by decide) (by decide) (by decide) (by decide) (by decide) dX12_init_109 (fun q12 c12 => ?_)
  refine x_putF (T := TX12) (ty := tyX12 33) hG ok_X12 cl_X12 0 rfl 33 (by decide) tc_1642 rfl rfl (tyX12_ok 33 (by decide)) rfl rfl (Nat.le_of_ble_eq_true rfl) dX12_init_111 ?_
  show AC _ _ _ Γ 114 _ [] [(h0, .inr (11, [.int 0, .ref q0, .int 0, .int 0, .int 0, .int 0, .ref q1, .ref q2, .ref q3, .ref q4, .ref q5, .int 0, .int 0, .int 0, .int 0, .int 0, .int 0, .long 0, .int 0, .int 0, .int 0, .ref q6, .ref q7, .int 0, .ref q8, .ref q9, .ref q10, .ref q11, .int (-1), .int 0, .int 0, .int 0, .int 0, .ref q12, .int 0, .null, .int 0, .int 0, .int 0, .int 0, .int 0, .null, .null, .null, .null])), (q0, .inl (c0, 940, .inl (fun _ => 0))), (q1, .inl (c1, 332, .inl (fun _ => 0))), (q2, .inl (c2, 72, .inl (fun _ => 0))), (q3, .inl (c3, 135, .inl (fun _ => 0))), (q4, .inl (c4, 34, .inr (.inl (fun _ => 0)))), (q5, .inl (c5, 23, .inr (.inl (fun _ => 0)))), (q6, .inl (c6, 632, .inl (fun _ => 0))), (q7, .inl (c7, 79, .inl (fun _ => 0))), (q8, .inl (c8, 64, .inl (fun _ => 0))), (q9, .inl (c9, 30, .inl (fun _ => 0))), (q10, .inl (c10, 5, .inl (fun _ => 0))), (q11, .inl (c11, 5, .inl (fun _ => 0))), (q12, .inl (c12, 4, .inl (fun _ => 0)))] [(c0, .byte), (c1, .int), (c2, .int), (c3, .int), (c4, .long), (c5, .long), (c6, .int), (c7, .int), (c8, .int), (c9, .int), (c10, .int), (c11, .int), (c12, .int)] 13 2355
  refine x_aload_n hG 0 rfl dX12_init_114 rfl ?_
  refine x_bipush (v := 45) hG dX12_init_115 (by decide) ?_
  refine x_newa (atype := .int) (ty := .int) (N' := 45) (a0 := (45, .inl (fun _ => 0))) hG tc_238 rfl (fun _ => rfl) (by decide) (by decide) (by decide) (by decide) (by decide) dX12_init_117 (fun q13 c13 => ?_)
  refine x_putF (T := TX12) (ty := tyX12 35) hG ok_X12 cl_X12 0 rfl 35 (by decide) tc_1644 rfl rfl (tyX12_ok 35 (by decide)) rfl rfl (Nat.le_of_ble_eq_true rfl) dX12_init_119 ?_
  show AC _ _ _ Γ 122 _ [] [(h0, .inr (11, [.int 0, .ref q0, .int 0, .int 0, .int 0, .int 0, .ref q1, .ref q2, .ref q3, .ref q4, .ref q5, .int 0, .int 0, .int 0, .int 0, .int 0, .int 0, .long 0, .int 0, .int 0, .int 0, .ref q6, .ref q7, .int 0, .ref q8, .ref q9, .ref q10, .ref q11, .int (-1), .int 0, .int 0, .int 0, .int 0, .ref q12, .int 0, .ref q13, .int 0, .int 0, .int 0, .int 0, .int 0, .null, .null, .null, .null])), (q0, .inl (c0, 940, .inl (fun _ => 0))), (q1, .inl (c1, 332, .inl (fun _ => 0))), (q2, .inl (c2, 72, .inl (fun _ => 0))), (q3, .inl (c3, 135, .inl (fun _ => 0))), (q4, .inl (c4, 34, .inr (.inl (fun _ => 0)))), (q5, .inl (c5, 23, .inr (.inl (fun _ => 0)))), (q6, .inl (c6, 632, .inl (fun _ => 0))), (q7, .inl (c7, 79, .inl (fun _ => 0))), (q8, .inl (c8, 64, .inl (fun _ => 0))), (q9, .inl (c9, 30, .inl (fun _ => 0))), (q10, .inl (c10, 5, .inl (fun _ => 0))), (q11, .inl (c11, 5, .inl (fun _ => 0))), (q12, .inl (c12, 4, .inl (fun _ => 0))), (q13, .inl (c13, 45, .inl (fun _ => 0)))] [(c0, .byte), (c1, .int), (c2, .int), (c3, .int), (c4, .long), (c5, .long), (c6, .int), (c7, .int), (c8, .int), (c9, .int), (c10, .int), (c11, .int), (c12, .int), (c13, .int)] 14 2400
  refine x_aload_n hG 0 rfl dX12_init_122 rfl ?_
  refine x_bipush (v := 45) hG dX12_init_123 (by decide) ?_
  refine x_newa (atype := .boolean) (ty := .boolean) (N' := 45) (a0 := (45, .inl (fun _ => 0))) hG tc_1745 rfl (fun _ => rfl) (by decide) (by decide) (by decide) (by decide) (by decide) dX12_init_125 (fun q14 c14 => ?_)
  refine x_putF (T := TX12) (ty := tyX12 41) hG ok_X12 cl_X12 0 rfl 41 (by decide) tc_1650 rfl rfl (tyX12_ok 41 (by decide)) rfl rfl (Nat.le_of_ble_eq_true rfl) dX12_init_127 ?_
  show AC _ _ _ Γ 130 _ [] [(h0, .inr (11, [.int 0, .ref q0, .int 0, .int 0, .int 0, .int 0, .ref q1, .ref q2, .ref q3, .ref q4, .ref q5, .int 0, .int 0, .int 0, .int 0, .int 0, .int 0, .long 0, .int 0, .int 0, .int 0, .ref q6, .ref q7, .int 0, .ref q8, .ref q9, .ref q10, .ref q11, .int (-1), .int 0, .int 0, .int 0, .int 0, .ref q12, .int 0, .ref q13, .int 0, .int 0, .int 0, .int 0, .int 0, .ref q14, .null, .null, .null])), (q0, .inl (c0, 940, .inl (fun _ => 0))), (q1, .inl (c1, 332, .inl (fun _ => 0))), (q2, .inl (c2, 72, .inl (fun _ => 0))), (q3, .inl (c3, 135, .inl (fun _ => 0))), (q4, .inl (c4, 34, .inr (.inl (fun _ => 0)))), (q5, .inl (c5, 23, .inr (.inl (fun _ => 0)))), (q6, .inl (c6, 632, .inl (fun _ => 0))), (q7, .inl (c7, 79, .inl (fun _ => 0))), (q8, .inl (c8, 64, .inl (fun _ => 0))), (q9, .inl (c9, 30, .inl (fun _ => 0))), (q10, .inl (c10, 5, .inl (fun _ => 0))), (q11, .inl (c11, 5, .inl (fun _ => 0))), (q12, .inl (c12, 4, .inl (fun _ => 0))), (q13, .inl (c13, 45, .inl (fun _ => 0))), (q14, .inl (c14, 45, .inl (fun _ => 0)))] [(c0, .byte), (c1, .int), (c2, .int), (c3, .int), (c4, .long), (c5, .long), (c6, .int), (c7, .int), (c8, .int), (c9, .int), (c10, .int), (c11, .int), (c12, .int), (c13, .int), (c14, .boolean)] 15 2445
  refine x_aload_n hG 0 rfl dX12_init_130 rfl ?_
  refine x_sipush (v := 664) hG dX12_init_131 (by decide) ?_
  refine x_newa (atype := .int) (ty := .int) (N' := 664) (a0 := (664, .inl (fun _ => 0))) hG tc_238 rfl (fun _ => rfl) (by decide) (by decide) (by decide) (by decide) (by decide) dX12_init_134 (fun q15 c15 => ?_)
  refine x_putF (T := TX12) (ty := tyX12 42) hG ok_X12 cl_X12 0 rfl 42 (by decide) tc_1651 rfl rfl (tyX12_ok 42 (by decide)) rfl rfl (Nat.le_of_ble_eq_true rfl) dX12_init_136 ?_
  show AC _ _ _ Γ 139 _ [] [(h0, .inr (11, [.int 0, .ref q0, .int 0, .int 0, .int 0, .int 0, .ref q1, .ref q2, .ref q3, .ref q4, .ref q5, .int 0, .int 0, .int 0, .int 0, .int 0, .int 0, .long 0, .int 0, .int 0, .int 0, .ref q6, .ref q7, .int 0, .ref q8, .ref q9, .ref q10, .ref q11, .int (-1), .int 0, .int 0, .int 0, .int 0, .ref q12, .int 0, .ref q13, .int 0, .int 0, .int 0, .int 0, .int 0, .ref q14, .ref q15, .null, .null])), (q0, .inl (c0, 940, .inl (fun _ => 0))), (q1, .inl (c1, 332, .inl (fun _ => 0))), (q2, .inl (c2, 72, .inl (fun _ => 0))), (q3, .inl (c3, 135, .inl (fun _ => 0))), (q4, .inl (c4, 34, .inr (.inl (fun _ => 0)))), (q5, .inl (c5, 23, .inr (.inl (fun _ => 0)))), (q6, .inl (c6, 632, .inl (fun _ => 0))), (q7, .inl (c7, 79, .inl (fun _ => 0))), (q8, .inl (c8, 64, .inl (fun _ => 0))), (q9, .inl (c9, 30, .inl (fun _ => 0))), (q10, .inl (c10, 5, .inl (fun _ => 0))), (q11, .inl (c11, 5, .inl (fun _ => 0))), (q12, .inl (c12, 4, .inl (fun _ => 0))), (q13, .inl (c13, 45, .inl (fun _ => 0))), (q14, .inl (c14, 45, .inl (fun _ => 0))), (q15, .inl (c15, 664, .inl (fun _ => 0)))] [(c0, .byte), (c1, .int), (c2, .int), (c3, .int), (c4, .long), (c5, .long), (c6, .int), (c7, .int), (c8, .int), (c9, .int), (c10, .int), (c11, .int), (c12, .int), (c13, .int), (c14, .boolean), (c15, .int)] 16 3109
  refine x_aload_n hG 0 rfl dX12_init_139 rfl ?_
  refine x_bipush (v := 34) hG dX12_init_140 (by decide) ?_
  refine x_newa (atype := .long) (ty := .long) (N' := 34) (a0 := (34, .inr (.inl (fun _ => 0)))) hG tc_237 rfl (fun _ => rfl) (by decide) (by decide) (by decide) (by decide) (by decide) dX12_init_142 (fun q16 c16 => ?_)
  refine x_putF (T := TX12) (ty := tyX12 43) hG ok_X12 cl_X12 0 rfl 43 (by decide) tc_1652 rfl rfl (tyX12_ok 43 (by decide)) rfl rfl (Nat.le_of_ble_eq_true rfl) dX12_init_144 ?_
  show AC _ _ _ Γ 147 _ [] [(h0, .inr (11, [.int 0, .ref q0, .int 0, .int 0, .int 0, .int 0, .ref q1, .ref q2, .ref q3, .ref q4, .ref q5, .int 0, .int 0, .int 0, .int 0, .int 0, .int 0, .long 0, .int 0, .int 0, .int 0, .ref q6, .ref q7, .int 0, .ref q8, .ref q9, .ref q10, .ref q11, .int (-1), .int 0, .int 0, .int 0, .int 0, .ref q12, .int 0, .ref q13, .int 0, .int 0, .int 0, .int 0, .int 0, .ref q14, .ref q15, .ref q16, .null])), (q0, .inl (c0, 940, .inl (fun _ => 0))), (q1, .inl (c1, 332, .inl (fun _ => 0))), (q2, .inl (c2, 72, .inl (fun _ => 0))), (q3, .inl (c3, 135, .inl (fun _ => 0))), (q4, .inl (c4, 34, .inr (.inl (fun _ => 0)))), (q5, .inl (c5, 23, .inr (.inl (fun _ => 0)))), (q6, .inl (c6, 632, .inl (fun _ => 0))), (q7, .inl (c7, 79, .inl (fun _ => 0))), (q8, .inl (c8, 64, .inl (fun _ => 0))), (q9, .inl (c9, 30, .inl (fun _ => 0))), (q10, .inl (c10, 5, .inl (fun _ => 0))), (q11, .inl (c11, 5, .inl (fun _ => 0))), (q12, .inl (c12, 4, .inl (fun _ => 0))), (q13, .inl (c13, 45, .inl (fun _ => 0))), (q14, .inl (c14, 45, .inl (fun _ => 0))), (q15, .inl (c15, 664, .inl (fun _ => 0))), (q16, .inl (c16, 34, .inr (.inl (fun _ => 0))))] [(c0, .byte), (c1, .int), (c2, .int), (c3, .int), (c4, .long), (c5, .long), (c6, .int), (c7, .int), (c8, .int), (c9, .int), (c10, .int), (c11, .int), (c12, .int), (c13, .int), (c14, .boolean), (c15, .int), (c16, .long)] 17 3143
  refine x_aload_n hG 0 rfl dX12_init_147 rfl ?_
  refine x_iconst (v := 2) hG dX12_init_148 (by decide) ?_
  refine x_newa (atype := .boolean) (ty := .boolean) (N' := 2) (a0 := (2, .inl (fun _ => 0))) hG tc_1745 rfl (fun _ => rfl) (by decide) (by decide) (by decide) (by decide) (by decide) dX12_init_149 (fun q17 c17 => ?_)
  refine x_putF (T := TX12) (ty := tyX12 44) hG ok_X12 cl_X12 0 rfl 44 (by decide) tc_1653 rfl rfl (tyX12_ok 44 (by decide)) rfl rfl (Nat.le_of_ble_eq_true rfl) dX12_init_151 ?_
  show AC _ _ _ Γ 154 _ [] [(h0, .inr (11, [.int 0, .ref q0, .int 0, .int 0, .int 0, .int 0, .ref q1, .ref q2, .ref q3, .ref q4, .ref q5, .int 0, .int 0, .int 0, .int 0, .int 0, .int 0, .long 0, .int 0, .int 0, .int 0, .ref q6, .ref q7, .int 0, .ref q8, .ref q9, .ref q10, .ref q11, .int (-1), .int 0, .int 0, .int 0, .int 0, .ref q12, .int 0, .ref q13, .int 0, .int 0, .int 0, .int 0, .int 0, .ref q14, .ref q15, .ref q16, .ref q17])), (q0, .inl (c0, 940, .inl (fun _ => 0))), (q1, .inl (c1, 332, .inl (fun _ => 0))), (q2, .inl (c2, 72, .inl (fun _ => 0))), (q3, .inl (c3, 135, .inl (fun _ => 0))), (q4, .inl (c4, 34, .inr (.inl (fun _ => 0)))), (q5, .inl (c5, 23, .inr (.inl (fun _ => 0)))), (q6, .inl (c6, 632, .inl (fun _ => 0))), (q7, .inl (c7, 79, .inl (fun _ => 0))), (q8, .inl (c8, 64, .inl (fun _ => 0))), (q9, .inl (c9, 30, .inl (fun _ => 0))), (q10, .inl (c10, 5, .inl (fun _ => 0))), (q11, .inl (c11, 5, .inl (fun _ => 0))), (q12, .inl (c12, 4, .inl (fun _ => 0))), (q13, .inl (c13, 45, .inl (fun _ => 0))), (q14, .inl (c14, 45, .inl (fun _ => 0))), (q15, .inl (c15, 664, .inl (fun _ => 0))), (q16, .inl (c16, 34, .inr (.inl (fun _ => 0)))), (q17, .inl (c17, 2, .inl (fun _ => 0)))] [(c0, .byte), (c1, .int), (c2, .int), (c3, .int), (c4, .long), (c5, .long), (c6, .int), (c7, .int), (c8, .int), (c9, .int), (c10, .int), (c11, .int), (c12, .int), (c13, .int), (c14, .boolean), (c15, .int), (c16, .long), (c17, .boolean)] 18 3145
  refine x_know (fun hk => ?_)
  obtain rfl := cy_eq (s := Γ.2.2.2.1) 0 (hk 0 _ rfl)
  obtain rfl := cy_eq (s := Γ.2.2.2.1) 1 (hk 1 _ rfl)
  obtain rfl := cy_eq (s := Γ.2.2.2.1) 1 (hk 2 _ rfl)
  obtain rfl := cy_eq (s := Γ.2.2.2.1) 1 (hk 3 _ rfl)
  obtain rfl := cy_eq (s := Γ.2.2.2.1) 2 (hk 4 _ rfl)
  obtain rfl := cy_eq (s := Γ.2.2.2.1) 2 (hk 5 _ rfl)
  obtain rfl := cy_eq (s := Γ.2.2.2.1) 1 (hk 6 _ rfl)
  obtain rfl := cy_eq (s := Γ.2.2.2.1) 1 (hk 7 _ rfl)
  obtain rfl := cy_eq (s := Γ.2.2.2.1) 1 (hk 8 _ rfl)
  obtain rfl := cy_eq (s := Γ.2.2.2.1) 1 (hk 9 _ rfl)
  obtain rfl := cy_eq (s := Γ.2.2.2.1) 1 (hk 10 _ rfl)
  obtain rfl := cy_eq (s := Γ.2.2.2.1) 1 (hk 11 _ rfl)
  obtain rfl := cy_eq (s := Γ.2.2.2.1) 1 (hk 12 _ rfl)
  obtain rfl := cy_eq (s := Γ.2.2.2.1) 1 (hk 13 _ rfl)
  obtain rfl := cy_eq (s := Γ.2.2.2.1) 3 (hk 14 _ rfl)
  obtain rfl := cy_eq (s := Γ.2.2.2.1) 1 (hk 15 _ rfl)
  obtain rfl := cy_eq (s := Γ.2.2.2.1) 2 (hk 16 _ rfl)
  obtain rfl := cy_eq (s := Γ.2.2.2.1) 3 (hk 17 _ rfl)
  clear hk
  refine x_wl (SH := SHm) (ad := adL [h0, q0, q1, q2, q3, q4, q5, q6, q7, q8, q9, q10, q11, q12, q13, q14, q15, q16, q17]) (h := hm0) hG (wl_wlL (X12_wl (cyOf Γ) h0 q0 q1 q2 q3 q4 q5 q6 q7 q8 q9 q10 q11 q12 q13 q14 q15 q16 q17)) tc_190 tc_238 tc_237 tc_1745 (fun hI => ?_)
  exact X12_tail (ad := adL [h0, q0, q1, q2, q3, q4, q5, q6, q7, q8, q9, q10, q11, q12, q13, q14, q15, q16, q17]) hG hZ hI (by decide) (by decide) ⟨by decide, by decide⟩ e1 e2
