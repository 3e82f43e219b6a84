/-- the methods: name, code, room of locals, what is returned; kind (0 virtual, 1 static, 2 constructor), places of their words -/
abbrev mjM : Type := (MethodName × ByteArray × Nat × Option FieldType) × Nat × Nat × Nat × Nat × Nat
def mjMt_0 : List mjM := [((⟨"TableBench", "<init>", "()V"⟩, prog_1_method_1_code, 2, none), 2, 21, 20, 0, 1),
  ((⟨"TableBench$Leaf", "<init>", "()V"⟩, prog_4_method_1_code, 1, none), 2, 30, 29, 0, 2),
  ((⟨"TableBench$Table", "<init>", "()V"⟩, prog_8_method_1_code, 1, none), 2, 50, 49, 0, 3),
  ((⟨"TableBench$Big", "<init>", "(I)V"⟩, prog_2_method_1_code, 2, none), 2, 73, 72, 0, 4),
  ((⟨"TableBench$Teller", "<init>", "()V"⟩, prog_9_method_1_code, 1, none), 2, 98, 97, 0, 6),
  ((⟨"TableBench$Polynomial", "<init>", "()V"⟩, prog_5_method_1_code, 1, none), 2, 104, 103, 0, 7),
  ((⟨"TableBench$Power", "<init>", "()V"⟩, prog_6_method_1_code, 1, none), 2, 120, 119, 0, 8),
  ((⟨"TableBench$Teller", "bigRow", "()[LTableBench$Big;"⟩, prog_9_method_2_code, 2, some ((Jvm.ClassFile.FieldType.array (Jvm.ClassFile.FieldType.object "TableBench$Big")))), 1, 134, 133, 0, 6),
  ((⟨"TableBench$Divider", "<init>", "(I)V"⟩, prog_3_method_1_code, 3, none), 2, 141, 140, 0, 9),
  ((⟨"TableBench$Scale", "<init>", "()V"⟩, prog_7_method_1_code, 2, none), 2, 202, 201, 0, 10),
  ((⟨"TableBench$Way", "<init>", "()V"⟩, prog_10_method_1_code, 2, none), 2, 229, 228, 0, 11),
  ((⟨"TableBench$Web", "<init>", "()V"⟩, prog_11_method_1_code, 1, none), 2, 270, 269, 0, 12),
  ((⟨"TableBench", "leaf", "(III)I"⟩, prog_1_method_2_code, 5, some (Jvm.ClassFile.FieldType.int)), 0, 330, 328, 418, 1),
  ((⟨"TableBench", "leafAt", "(I)LTableBench$Leaf;"⟩, prog_1_method_44_code, 2, some ((Jvm.ClassFile.FieldType.object "TableBench$Leaf"))), 0, 334, 333, 0, 1),
  ((⟨"TableBench$Leaf", "isLane", "(I)Z"⟩, prog_4_method_2_code, 1, some (Jvm.ClassFile.FieldType.boolean)), 1, 337, 336, 0, 2),
  ((⟨"TableBench", "found", "(I)I"⟩, prog_1_method_49_code, 2, some (Jvm.ClassFile.FieldType.int)), 0, 341, 340, 1, 1),
  ((⟨"TableBench$Leaf", "begin", "(II)V"⟩, prog_4_method_7_code, 4, none), 0, 345, 343, 433, 2),
  ((⟨"TableBench", "put", "(IIIJ)I"⟩, prog_1_method_3_code, 7, some (Jvm.ClassFile.FieldType.int)), 0, 352, 350, 440, 1),
  ((⟨"TableBench$Leaf", "isNoNumber", "(IJ)Z"⟩, prog_4_method_3_code, 3, some (Jvm.ClassFile.FieldType.boolean)), 1, 355, 354, 0, 2),
  ((⟨"TableBench$Leaf", "isLost", "()Z"⟩, prog_4_method_4_code, 1, some (Jvm.ClassFile.FieldType.boolean)), 0, 363, 361, 451, 2),
  ((⟨"TableBench$Leaf", "has", "(I)Z"⟩, prog_4_method_5_code, 2, some (Jvm.ClassFile.FieldType.boolean)), 0, 367, 365, 455, 2),
  ((⟨"TableBench$Leaf", "write", "(IJ)V"⟩, prog_4_method_8_code, 4, none), 0, 371, 369, 459, 2),
  ((⟨"TableBench", "lose", "(I)I"⟩, prog_1_method_4_code, 4, some (Jvm.ClassFile.FieldType.int)), 0, 376, 374, 464, 1),
  ((⟨"TableBench$Leaf", "vanish", "()V"⟩, prog_4_method_6_code, 1, none), 0, 380, 378, 468, 2),
  ((⟨"TableBench", "table", "(II)I"⟩, prog_1_method_5_code, 8, some (Jvm.ClassFile.FieldType.int)), 0, 384, 382, 472, 1),
  ((⟨"TableBench", "isFull", "()Z"⟩, prog_1_method_46_code, 1, some (Jvm.ClassFile.FieldType.boolean)), 0, 388, 387, 2, 1),
  ((⟨"TableBench", "draft", "(I)LTableBench$Table;"⟩, prog_1_method_47_code, 3, some ((Jvm.ClassFile.FieldType.object "TableBench$Table"))), 0, 392, 391, 3, 1),
  ((⟨"TableBench$Table", "begin", "(I)V"⟩, prog_8_method_5_code, 3, none), 0, 396, 394, 484, 3),
  ((⟨"TableBench", "foundAt", "(II)I"⟩, prog_1_method_50_code, 3, some (Jvm.ClassFile.FieldType.int)), 0, 402, 401, 4, 1),
  ((⟨"TableBench$Leaf", "fault", "(I)I"⟩, prog_4_method_9_code, 5, some (Jvm.ClassFile.FieldType.int)), 0, 406, 404, 494, 2),
  ((⟨"TableBench$Leaf", "fractionFault", "(I)I"⟩, prog_4_method_12_code, 5, some (Jvm.ClassFile.FieldType.int)), 0, 412, 411, 5, 2),
  ((⟨"TableBench$Leaf", "isNought", "(I)Z"⟩, prog_4_method_16_code, 2, some (Jvm.ClassFile.FieldType.boolean)), 0, 416, 415, 6, 2),
  ((⟨"TableBench$Leaf", "power", "(I)I"⟩, prog_4_method_14_code, 2, some (Jvm.ClassFile.FieldType.int)), 0, 420, 419, 7, 2),
  ((⟨"TableBench$Leaf", "fractionBits", "()I"⟩, prog_4_method_13_code, 1, some (Jvm.ClassFile.FieldType.int)), 0, 424, 423, 8, 2),
  ((⟨"TableBench$Leaf", "mantissa", "(I)J"⟩, prog_4_method_15_code, 4, some (Jvm.ClassFile.FieldType.long)), 0, 428, 427, 9, 2),
  ((⟨"TableBench$Leaf", "whole", "(I)I"⟩, prog_4_method_10_code, 4, some (Jvm.ClassFile.FieldType.int)), 0, 432, 430, 520, 2),
  ((⟨"TableBench$Leaf", "isBelowNought", "(I)Z"⟩, prog_4_method_17_code, 2, some (Jvm.ClassFile.FieldType.boolean)), 0, 436, 435, 10, 2),
  ((⟨"TableBench$Table", "write", "(III)V"⟩, prog_8_method_4_code, 4, none), 0, 440, 438, 528, 3),
  ((⟨"TableBench$Table", "has", "(I)Z"⟩, prog_8_method_2_code, 2, some (Jvm.ClassFile.FieldType.boolean)), 0, 444, 442, 532, 3),
  ((⟨"TableBench$Table", "uneven", "()I"⟩, prog_8_method_12_code, 3, some (Jvm.ClassFile.FieldType.int)), 0, 448, 446, 536, 3)]
def mjMt_1 : List mjM := [((⟨"TableBench$Table", "number", "(II)I"⟩, prog_8_method_3_code, 3, some (Jvm.ClassFile.FieldType.int)), 0, 452, 450, 540, 3),
  ((⟨"TableBench", "keep", "(LTableBench$Table;)I"⟩, prog_1_method_48_code, 2, some (Jvm.ClassFile.FieldType.int)), 0, 456, 455, 11, 1),
  ((⟨"TableBench$Table", "sortOut", "()V"⟩, prog_8_method_14_code, 1, none), 0, 460, 458, 548, 3),
  ((⟨"TableBench$Table", "reach", "()I"⟩, prog_8_method_22_code, 4, some (Jvm.ClassFile.FieldType.int)), 0, 464, 463, 12, 3),
  ((⟨"TableBench$Table", "isTied", "(II)Z"⟩, prog_8_method_17_code, 3, some (Jvm.ClassFile.FieldType.boolean)), 0, 468, 466, 556, 3),
  ((⟨"TableBench$Table", "isOfLines", "()Z"⟩, prog_8_method_23_code, 4, some (Jvm.ClassFile.FieldType.boolean)), 0, 472, 471, 13, 3),
  ((⟨"TableBench", "where", "()I"⟩, prog_1_method_6_code, 1, some (Jvm.ClassFile.FieldType.int)), 0, 476, 474, 564, 1),
  ((⟨"TableBench", "kind", "(I)I"⟩, prog_1_method_7_code, 3, some (Jvm.ClassFile.FieldType.int)), 0, 480, 478, 568, 1),
  ((⟨"TableBench", "tableAt", "(I)LTableBench$Table;"⟩, prog_1_method_45_code, 2, some ((Jvm.ClassFile.FieldType.object "TableBench$Table"))), 0, 484, 483, 14, 1),
  ((⟨"TableBench", "size", "(I)I"⟩, prog_1_method_8_code, 3, some (Jvm.ClassFile.FieldType.int)), 0, 488, 486, 576, 1),
  ((⟨"TableBench", "is", "(II)I"⟩, prog_1_method_9_code, 5, some (Jvm.ClassFile.FieldType.int)), 0, 492, 490, 580, 1),
  ((⟨"TableBench", "at", "(III)I"⟩, prog_1_method_10_code, 5, some (Jvm.ClassFile.FieldType.int)), 0, 496, 494, 584, 1),
  ((⟨"TableBench", "flow", "(I)I"⟩, prog_1_method_11_code, 5, some (Jvm.ClassFile.FieldType.int)), 0, 502, 500, 590, 1),
  ((⟨"TableBench$Table", "becomeFlow", "(LTableBench$Table;)V"⟩, prog_8_method_7_code, 5, none), 0, 506, 504, 594, 3),
  ((⟨"TableBench", "turn", "(III)I"⟩, prog_1_method_12_code, 6, some (Jvm.ClassFile.FieldType.int)), 0, 511, 509, 599, 1),
  ((⟨"TableBench$Table", "becomeTurned", "(LTableBench$Table;II)V"⟩, prog_8_method_8_code, 8, none), 0, 515, 513, 603, 3),
  ((⟨"TableBench", "mix", "(IIII)I"⟩, prog_1_method_13_code, 7, some (Jvm.ClassFile.FieldType.int)), 0, 519, 517, 607, 1),
  ((⟨"TableBench$Table", "becomeMixed", "(LTableBench$Table;III)V"⟩, prog_8_method_9_code, 6, none), 0, 523, 521, 611, 3),
  ((⟨"TableBench$Table", "lay", "(LTableBench$Table;I)V"⟩, prog_8_method_6_code, 5, none), 0, 527, 525, 615, 3),
  ((⟨"TableBench$Table", "isGreat", "()Z"⟩, prog_8_method_13_code, 3, some (Jvm.ClassFile.FieldType.boolean)), 0, 531, 529, 619, 3),
  ((⟨"TableBench", "shift", "(II)I"⟩, prog_1_method_14_code, 5, some (Jvm.ClassFile.FieldType.int)), 0, 538, 536, 626, 1),
  ((⟨"TableBench$Table", "becomeShifted", "(LTableBench$Table;I)V"⟩, prog_8_method_10_code, 4, none), 0, 542, 540, 630, 3),
  ((⟨"TableBench", "drop", "(II)I"⟩, prog_1_method_15_code, 5, some (Jvm.ClassFile.FieldType.int)), 0, 546, 544, 634, 1),
  ((⟨"TableBench$Table", "becomeWithout", "(LTableBench$Table;I)V"⟩, prog_8_method_11_code, 5, none), 0, 550, 548, 638, 3),
  ((⟨"TableBench", "weave", "(II)I"⟩, prog_1_method_16_code, 6, some (Jvm.ClassFile.FieldType.int)), 0, 554, 552, 642, 1),
  ((⟨"TableBench", "line", "(III)I"⟩, prog_1_method_17_code, 7, some (Jvm.ClassFile.FieldType.int)), 0, 559, 557, 647, 1),
  ((⟨"TableBench$Table", "isEmpty", "()Z"⟩, prog_8_method_16_code, 1, some (Jvm.ClassFile.FieldType.boolean)), 0, 563, 561, 651, 3),
  ((⟨"TableBench$Table", "greatestBetween", "()I"⟩, prog_8_method_19_code, 3, some (Jvm.ClassFile.FieldType.int)), 0, 567, 565, 655, 3),
  ((⟨"TableBench", "bound", "(I)I"⟩, prog_1_method_18_code, 3, some (Jvm.ClassFile.FieldType.int)), 0, 571, 569, 659, 1),
  ((⟨"TableBench", "mark", "(I)V"⟩, prog_1_method_51_code, 2, none), 0, 575, 574, 15, 1),
  ((⟨"TableBench$Table", "isNet", "()Z"⟩, prog_8_method_15_code, 1, some (Jvm.ClassFile.FieldType.boolean)), 0, 580, 578, 668, 3),
  ((⟨"TableBench$Table", "greatestRow", "()I"⟩, prog_8_method_18_code, 5, some (Jvm.ClassFile.FieldType.int)), 0, 584, 582, 672, 3),
  ((⟨"TableBench", "trace", "(I)I"⟩, prog_1_method_19_code, 2, some (Jvm.ClassFile.FieldType.int)), 0, 588, 586, 676, 1),
  ((⟨"TableBench", "poly", "(I)I"⟩, prog_1_method_20_code, 3, some (Jvm.ClassFile.FieldType.int)), 0, 592, 590, 680, 1),
  ((⟨"TableBench$Teller", "read", "(LTableBench$Table;)V"⟩, prog_9_method_3_code, 6, none), 0, 596, 594, 684, 6),
  ((⟨"TableBench$Polynomial", "begin", "(I)V"⟩, prog_5_method_2_code, 2, none), 0, 600, 598, 688, 7),
  ((⟨"TableBench$Polynomial", "write", "(IJ)V"⟩, prog_5_method_4_code, 4, none), 0, 606, 604, 694, 7),
  ((⟨"TableBench$Power", "begin", "(I)V"⟩, prog_6_method_2_code, 3, none), 0, 610, 608, 698, 8),
  ((⟨"TableBench$Power", "shiftBy", "(J)V"⟩, prog_6_method_3_code, 4, none), 0, 616, 614, 704, 8),
  ((⟨"TableBench$Power", "multiplyBy", "(LTableBench$Table;)V"⟩, prog_6_method_4_code, 7, none), 0, 620, 618, 708, 8)]
def mjMt_2 : List mjM := [((⟨"TableBench$Power", "sumBetween", "()J"⟩, prog_6_method_5_code, 4, some (Jvm.ClassFile.FieldType.long)), 0, 625, 623, 713, 8),
  ((⟨"TableBench", "answer", "(LTableBench$Polynomial;)I"⟩, prog_1_method_53_code, 3, some (Jvm.ClassFile.FieldType.int)), 0, 630, 629, 16, 1),
  ((⟨"TableBench$Polynomial", "number", "(I)J"⟩, prog_5_method_3_code, 2, some (Jvm.ClassFile.FieldType.long)), 0, 634, 632, 722, 7),
  ((⟨"TableBench$Big", "become", "(J)V"⟩, prog_2_method_4_code, 6, none), 0, 638, 636, 726, 4),
  ((⟨"TableBench$Big", "setDigit", "(II)V"⟩, prog_2_method_3_code, 3, none), 0, 644, 642, 732, 4),
  ((⟨"java/lang/Long", "compare", "(JJ)I"⟩, prog_16_method_42_code, 4, some (Jvm.ClassFile.FieldType.int)), 1, 647, 646, 0, 16),
  ((⟨"TableBench$Big", "trim", "(I)V"⟩, prog_2_method_6_code, 3, none), 0, 651, 649, 739, 4),
  ((⟨"TableBench", "worth", "(I)I"⟩, prog_1_method_21_code, 5, some (Jvm.ClassFile.FieldType.int)), 0, 655, 653, 743, 1),
  ((⟨"TableBench", "answerOne", "(J)I"⟩, prog_1_method_54_code, 3, some (Jvm.ClassFile.FieldType.int)), 0, 659, 658, 17, 1),
  ((⟨"TableBench", "ring", "(I)I"⟩, prog_1_method_22_code, 3, some (Jvm.ClassFile.FieldType.int)), 0, 663, 661, 751, 1),
  ((⟨"TableBench$Teller", "makeLeast", "()V"⟩, prog_9_method_6_code, 1, none), 0, 667, 665, 755, 6),
  ((⟨"TableBench$Teller", "shareWithSlope", "(LTableBench$Polynomial;)V"⟩, prog_9_method_8_code, 5, none), 0, 671, 670, 18, 6),
  ((⟨"TableBench$Big", "scaleBy", "(I)V"⟩, prog_2_method_11_code, 8, none), 0, 677, 675, 765, 4),
  ((⟨"TableBench$Big", "digit", "(I)I"⟩, prog_2_method_2_code, 2, some (Jvm.ClassFile.FieldType.int)), 0, 684, 682, 772, 4),
  ((⟨"TableBench$Teller", "takeRemainder", "(I)Z"⟩, prog_9_method_9_code, 6, some (Jvm.ClassFile.FieldType.boolean)), 0, 689, 688, 19, 6),
  ((⟨"TableBench$Big", "becomeProduct", "(LTableBench$Big;LTableBench$Big;)V"⟩, prog_2_method_12_code, 5, none), 0, 693, 691, 781, 4),
  ((⟨"TableBench$Big", "addProduct", "(JLTableBench$Big;II)V"⟩, prog_2_method_13_code, 9, none), 0, 698, 697, 20, 4),
  ((⟨"TableBench$Big", "add", "(LTableBench$Big;I)V"⟩, prog_2_method_7_code, 4, none), 0, 702, 700, 790, 4),
  ((⟨"TableBench$Big", "copy", "(LTableBench$Big;)V"⟩, prog_2_method_5_code, 3, none), 0, 706, 704, 794, 4),
  ((⟨"TableBench$Big", "addSize", "(LTableBench$Big;)V"⟩, prog_2_method_8_code, 6, none), 0, 710, 709, 21, 4),
  ((⟨"TableBench$Big", "isAtLeastInSize", "(LTableBench$Big;)Z"⟩, prog_2_method_10_code, 3, some (Jvm.ClassFile.FieldType.boolean)), 0, 715, 714, 22, 4),
  ((⟨"TableBench$Big", "takeSize", "(LTableBench$Big;Z)V"⟩, prog_2_method_9_code, 7, none), 0, 719, 718, 23, 4),
  ((⟨"TableBench$Divider", "divide", "(LTableBench$Big;LTableBench$Big;)V"⟩, prog_3_method_2_code, 7, none), 0, 724, 722, 812, 9),
  ((⟨"TableBench$Divider", "stretchInto", "([ILTableBench$Big;I)V"⟩, prog_3_method_5_code, 6, none), 1, 731, 730, 0, 9),
  ((⟨"TableBench$Divider", "guess", "(II)J"⟩, prog_3_method_7_code, 14, some (Jvm.ClassFile.FieldType.long)), 0, 736, 735, 24, 9),
  ((⟨"TableBench$Divider", "lowerDigit", "(I)J"⟩, prog_3_method_11_code, 2, some (Jvm.ClassFile.FieldType.long)), 0, 740, 739, 25, 9),
  ((⟨"TableBench$Divider", "upperDigit", "(I)J"⟩, prog_3_method_10_code, 2, some (Jvm.ClassFile.FieldType.long)), 0, 744, 743, 26, 9),
  ((⟨"TableBench$Divider", "takeOff", "(IIJ)I"⟩, prog_3_method_8_code, 10, some (Jvm.ClassFile.FieldType.int)), 0, 749, 748, 27, 9),
  ((⟨"TableBench$Divider", "putBack", "(II)V"⟩, prog_3_method_9_code, 6, none), 0, 753, 752, 28, 9),
  ((⟨"TableBench$Divider", "shrinkIntoRest", "(II)V"⟩, prog_3_method_6_code, 6, none), 0, 758, 757, 29, 9),
  ((⟨"TableBench$Big", "asLong", "()J"⟩, prog_2_method_15_code, 4, some (Jvm.ClassFile.FieldType.long)), 0, 764, 762, 852, 4),
  ((⟨"TableBench$Polynomial", "copy", "(LTableBench$Polynomial;)V"⟩, prog_5_method_5_code, 3, none), 0, 768, 766, 856, 7),
  ((⟨"TableBench$Polynomial", "takeOut", "(LTableBench$Polynomial;LTableBench$Polynomial;)V"⟩, prog_5_method_7_code, 7, none), 0, 775, 773, 863, 7),
  ((⟨"TableBench", "often", "(II)I"⟩, prog_1_method_23_code, 4, some (Jvm.ClassFile.FieldType.int)), 0, 779, 777, 867, 1),
  ((⟨"TableBench$Teller", "unlikeAtLeast", "(I)I"⟩, prog_9_method_7_code, 3, some (Jvm.ClassFile.FieldType.int)), 0, 783, 781, 871, 6),
  ((⟨"TableBench", "count", "(IIII)I"⟩, prog_1_method_24_code, 7, some (Jvm.ClassFile.FieldType.int)), 0, 787, 785, 875, 1),
  ((⟨"TableBench$Scale", "weigh", "(LTableBench$Polynomial;II)V"⟩, prog_7_method_2_code, 8, none), 0, 793, 791, 881, 10),
  ((⟨"TableBench$Scale", "moveBy", "(LTableBench$Polynomial;II)V"⟩, prog_7_method_5_code, 7, none), 0, 797, 796, 30, 10),
  ((⟨"TableBench", "shut", "(III)I"⟩, prog_1_method_25_code, 7, some (Jvm.ClassFile.FieldType.int)), 0, 806, 804, 894, 1),
  ((⟨"TableBench$Scale", "greatestNotAbove", "(LTableBench$Polynomial;II)I"⟩, prog_7_method_3_code, 8, some (Jvm.ClassFile.FieldType.int)), 0, 810, 808, 898, 10)]
def mjMt_3 : List mjM := [((⟨"TableBench$Scale", "isJust", "(LTableBench$Polynomial;III)Z"⟩, prog_7_method_4_code, 5, some (Jvm.ClassFile.FieldType.boolean)), 0, 815, 813, 903, 10),
  ((⟨"TableBench", "seen", "()J"⟩, prog_1_method_26_code, 1, some (Jvm.ClassFile.FieldType.long)), 0, 819, 817, 907, 1),
  ((⟨"TableBench", "same", "(II)I"⟩, prog_1_method_27_code, 5, some (Jvm.ClassFile.FieldType.int)), 0, 823, 821, 911, 1),
  ((⟨"TableBench$Teller", "keepWhole", "()V"⟩, prog_9_method_4_code, 1, none), 0, 827, 825, 915, 6),
  ((⟨"TableBench$Teller", "isAsKept", "()Z"⟩, prog_9_method_5_code, 1, some (Jvm.ClassFile.FieldType.boolean)), 0, 831, 829, 919, 6),
  ((⟨"TableBench$Polynomial", "isAs", "(LTableBench$Polynomial;)Z"⟩, prog_5_method_6_code, 3, some (Jvm.ClassFile.FieldType.boolean)), 0, 835, 833, 923, 7),
  ((⟨"TableBench", "bend", "(I)I"⟩, prog_1_method_28_code, 5, some (Jvm.ClassFile.FieldType.int)), 0, 839, 837, 927, 1),
  ((⟨"TableBench$Way", "make", "(LTableBench$Table;)V"⟩, prog_10_method_2_code, 5, none), 0, 843, 841, 931, 11),
  ((⟨"TableBench$Way", "changeForPivot", "(LTableBench$Table;I)Z"⟩, prog_10_method_3_code, 4, some (Jvm.ClassFile.FieldType.boolean)), 0, 848, 847, 31, 11),
  ((⟨"TableBench$Way", "leanOn", "(LTableBench$Table;I)V"⟩, prog_10_method_8_code, 5, none), 0, 852, 851, 32, 11),
  ((⟨"TableBench$Way", "meet", "(ILTableBench$Big;)V"⟩, prog_10_method_9_code, 4, none), 0, 860, 859, 33, 11),
  ((⟨"TableBench$Way", "changePlaces", "(II)V"⟩, prog_10_method_5_code, 5, none), 0, 865, 864, 34, 11),
  ((⟨"TableBench$Way", "addForPivot", "(LTableBench$Table;I)Z"⟩, prog_10_method_4_code, 5, some (Jvm.ClassFile.FieldType.boolean)), 0, 869, 868, 35, 11),
  ((⟨"TableBench$Way", "clear", "(II)Z"⟩, prog_10_method_6_code, 5, some (Jvm.ClassFile.FieldType.boolean)), 0, 873, 872, 36, 11),
  ((⟨"TableBench$Divider", "greatestIntoBoth", "(LTableBench$Big;LTableBench$Big;LTableBench$Big;)V"⟩, prog_3_method_3_code, 6, none), 0, 877, 875, 965, 9),
  ((⟨"TableBench$Big", "isShort", "()Z"⟩, prog_2_method_14_code, 1, some (Jvm.ClassFile.FieldType.boolean)), 0, 882, 880, 970, 4),
  ((⟨"TableBench$Divider", "greatestIntoLongs", "(JJ)J"⟩, prog_3_method_4_code, 11, some (Jvm.ClassFile.FieldType.long)), 1, 888, 887, 0, 9),
  ((⟨"TableBench$Way", "lighten", "(I)V"⟩, prog_10_method_7_code, 3, none), 0, 894, 893, 37, 11),
  ((⟨"TableBench", "copyRow", "(II)V"⟩, prog_1_method_55_code, 4, none), 0, 899, 898, 38, 1),
  ((⟨"TableBench", "signs", "(I)I"⟩, prog_1_method_29_code, 6, some (Jvm.ClassFile.FieldType.int)), 0, 903, 901, 991, 1),
  ((⟨"TableBench", "show", "(I)I"⟩, prog_1_method_30_code, 4, some (Jvm.ClassFile.FieldType.int)), 0, 907, 905, 995, 1),
  ((⟨"TableBench", "form", "(II)I"⟩, prog_1_method_31_code, 7, some (Jvm.ClassFile.FieldType.int)), 0, 911, 909, 999, 1),
  ((⟨"TableBench$Table", "formOf", "(LTableBench$Leaf;)J"⟩, prog_8_method_20_code, 6, some (Jvm.ClassFile.FieldType.long)), 0, 915, 913, 1003, 3),
  ((⟨"TableBench$Leaf", "squares", "(I)J"⟩, prog_4_method_11_code, 5, some (Jvm.ClassFile.FieldType.long)), 0, 920, 918, 1008, 2),
  ((⟨"TableBench", "walks", "(II)I"⟩, prog_1_method_32_code, 4, some (Jvm.ClassFile.FieldType.int)), 0, 925, 923, 1013, 1),
  ((⟨"TableBench$Web", "closedWalks", "(LTableBench$Table;I)J"⟩, prog_11_method_2_code, 4, some (Jvm.ClassFile.FieldType.long)), 0, 929, 927, 1017, 12),
  ((⟨"TableBench", "pieces", "(I)I"⟩, prog_1_method_33_code, 3, some (Jvm.ClassFile.FieldType.int)), 0, 936, 934, 1024, 1),
  ((⟨"TableBench$Web", "hangTogether", "(LTableBench$Table;)I"⟩, prog_11_method_3_code, 4, some (Jvm.ClassFile.FieldType.int)), 0, 940, 938, 1028, 12),
  ((⟨"TableBench$Web", "spreadFrom", "(LTableBench$Table;I)V"⟩, prog_11_method_5_code, 6, none), 0, 944, 943, 39, 12),
  ((⟨"TableBench", "two", "(I)I"⟩, prog_1_method_34_code, 3, some (Jvm.ClassFile.FieldType.int)), 0, 949, 947, 1037, 1),
  ((⟨"TableBench$Web", "partsInTwo", "(LTableBench$Table;)Z"⟩, prog_11_method_4_code, 4, some (Jvm.ClassFile.FieldType.boolean)), 0, 953, 951, 1041, 12),
  ((⟨"TableBench", "trees", "(I)I"⟩, prog_1_method_35_code, 5, some (Jvm.ClassFile.FieldType.int)), 0, 958, 956, 1046, 1),
  ((⟨"TableBench", "results", "()I"⟩, prog_1_method_36_code, 1, some (Jvm.ClassFile.FieldType.int)), 0, 964, 962, 1052, 1),
  ((⟨"TableBench", "sign", "(I)I"⟩, prog_1_method_37_code, 2, some (Jvm.ClassFile.FieldType.int)), 0, 968, 966, 1056, 1),
  ((⟨"TableBench", "hasOutcome", "(I)Z"⟩, prog_1_method_52_code, 2, some (Jvm.ClassFile.FieldType.boolean)), 0, 972, 971, 40, 1),
  ((⟨"TableBench", "bits", "(I)I"⟩, prog_1_method_38_code, 2, some (Jvm.ClassFile.FieldType.int)), 0, 976, 974, 1064, 1),
  ((⟨"TableBench$Big", "width", "()I"⟩, prog_2_method_16_code, 3, some (Jvm.ClassFile.FieldType.int)), 0, 980, 978, 1068, 4),
  ((⟨"TableBench", "word", "(II)J"⟩, prog_1_method_39_code, 3, some (Jvm.ClassFile.FieldType.long)), 0, 984, 982, 1072, 1),
  ((⟨"TableBench$Big", "wordAt", "(I)J"⟩, prog_2_method_17_code, 6, some (Jvm.ClassFile.FieldType.long)), 0, 988, 986, 1076, 4),
  ((⟨"TableBench", "finding", "()I"⟩, prog_1_method_40_code, 1, some (Jvm.ClassFile.FieldType.int)), 0, 993, 991, 1081, 1)]
def mjMt_4 : List mjM := [((⟨"TableBench", "findings", "(I)I"⟩, prog_1_method_41_code, 2, some (Jvm.ClassFile.FieldType.int)), 0, 997, 995, 1085, 1),
  ((⟨"TableBench", "about", "(I)I"⟩, prog_1_method_42_code, 2, some (Jvm.ClassFile.FieldType.int)), 0, 1001, 999, 1089, 1),
  ((⟨"TableBench", "leavesThere", "()I"⟩, prog_1_method_56_code, 3, some (Jvm.ClassFile.FieldType.int)), 0, 1005, 1004, 41, 1),
  ((⟨"TableBench", "tablesOf", "(I)I"⟩, prog_1_method_57_code, 4, some (Jvm.ClassFile.FieldType.int)), 0, 1009, 1008, 42, 1),
  ((⟨"TableBench", "digest", "()J"⟩, prog_1_method_43_code, 4, some (Jvm.ClassFile.FieldType.long)), 0, 1013, 1011, 1101, 1),
  ((⟨"TableBench$Table", "fold", "(J)J"⟩, prog_8_method_21_code, 7, some (Jvm.ClassFile.FieldType.long)), 0, 1019, 1017, 1107, 3),
  ((⟨"TableBenchModel", "<init>", "()V"⟩, prog_13_method_1_code, 2, none), 2, 1025, 1024, 0, 13),
  ((⟨"TableBenchModel", "leaf", "(III)I"⟩, prog_13_method_7_code, 5, some (Jvm.ClassFile.FieldType.int)), 0, 1183, 1181, 1271, 13),
  ((⟨"TableBenchModel", "isLeaf", "(I)Z"⟩, prog_13_method_6_code, 1, some (Jvm.ClassFile.FieldType.boolean)), 1, 1186, 1185, 0, 13),
  ((⟨"TableBenchModel", "in", "(III)Z"⟩, prog_13_method_3_code, 3, some (Jvm.ClassFile.FieldType.boolean)), 1, 1189, 1188, 0, 13),
  ((⟨"TableBenchModel", "finds", "(I)I"⟩, prog_13_method_4_code, 2, some (Jvm.ClassFile.FieldType.int)), 0, 1193, 1192, 43, 13),
  ((⟨"TableBenchModel", "put", "(IIIJ)I"⟩, prog_13_method_8_code, 6, some (Jvm.ClassFile.FieldType.int)), 0, 1197, 1195, 1285, 13),
  ((⟨"TableBenchModel", "lose", "(I)I"⟩, prog_13_method_9_code, 3, some (Jvm.ClassFile.FieldType.int)), 0, 1204, 1202, 1292, 13),
  ((⟨"TableBenchModel", "table", "(II)I"⟩, prog_13_method_18_code, 6, some (Jvm.ClassFile.FieldType.int)), 0, 1208, 1206, 1296, 13),
  ((⟨"TableBenchModel", "emptyMade", "()V"⟩, prog_13_method_17_code, 2, none), 0, 1212, 1211, 44, 13),
  ((⟨"TableBenchModel", "findsAt", "(II)I"⟩, prog_13_method_5_code, 3, some (Jvm.ClassFile.FieldType.int)), 0, 1216, 1215, 45, 13),
  ((⟨"TableBenchModel", "take", "(II)I"⟩, prog_13_method_10_code, 10, some (Jvm.ClassFile.FieldType.int)), 0, 1220, 1219, 46, 13),
  ((⟨"TableBenchModel", "kindOf", "(I)I"⟩, prog_13_method_13_code, 8, some (Jvm.ClassFile.FieldType.int)), 0, 1238, 1237, 47, 13),
  ((⟨"TableBenchModel", "come", "(II)I"⟩, prog_13_method_14_code, 4, some (Jvm.ClassFile.FieldType.int)), 0, 1242, 1241, 48, 13),
  ((⟨"TableBenchModel", "where", "()I"⟩, prog_13_method_19_code, 1, some (Jvm.ClassFile.FieldType.int)), 0, 1246, 1244, 1334, 13),
  ((⟨"TableBenchModel", "kind", "(I)I"⟩, prog_13_method_20_code, 2, some (Jvm.ClassFile.FieldType.int)), 0, 1250, 1248, 1338, 13),
  ((⟨"TableBenchModel", "isTable", "(I)Z"⟩, prog_13_method_11_code, 2, some (Jvm.ClassFile.FieldType.boolean)), 0, 1254, 1253, 49, 13),
  ((⟨"TableBenchModel", "size", "(I)I"⟩, prog_13_method_21_code, 2, some (Jvm.ClassFile.FieldType.int)), 0, 1258, 1256, 1346, 13),
  ((⟨"TableBenchModel", "is", "(II)I"⟩, prog_13_method_22_code, 3, some (Jvm.ClassFile.FieldType.int)), 0, 1262, 1260, 1350, 13),
  ((⟨"TableBenchModel", "at", "(III)I"⟩, prog_13_method_24_code, 4, some (Jvm.ClassFile.FieldType.int)), 0, 1266, 1264, 1354, 13),
  ((⟨"TableBenchModel", "isPlace", "(II)Z"⟩, prog_13_method_23_code, 3, some (Jvm.ClassFile.FieldType.boolean)), 0, 1270, 1269, 50, 13),
  ((⟨"TableBenchModel", "number", "(III)I"⟩, prog_13_method_12_code, 4, some (Jvm.ClassFile.FieldType.int)), 0, 1274, 1273, 51, 13),
  ((⟨"TableBenchModel", "flow", "(I)I"⟩, prog_13_method_25_code, 4, some (Jvm.ClassFile.FieldType.int)), 0, 1278, 1276, 1366, 13),
  ((⟨"TableBenchModel", "turn", "(III)I"⟩, prog_13_method_26_code, 6, some (Jvm.ClassFile.FieldType.int)), 0, 1282, 1280, 1370, 13),
  ((⟨"TableBenchModel", "mix", "(IIII)I"⟩, prog_13_method_27_code, 6, some (Jvm.ClassFile.FieldType.int)), 0, 1286, 1284, 1374, 13),
  ((⟨"TableBenchModel", "copyMade", "(I)V"⟩, prog_13_method_16_code, 3, none), 0, 1290, 1289, 52, 13),
  ((⟨"TableBenchModel", "comes", "(I)I"⟩, prog_13_method_15_code, 4, some (Jvm.ClassFile.FieldType.int)), 0, 1294, 1293, 53, 13),
  ((⟨"TableBenchModel", "shift", "(II)I"⟩, prog_13_method_28_code, 4, some (Jvm.ClassFile.FieldType.int)), 0, 1298, 1296, 1386, 13),
  ((⟨"TableBenchModel", "drop", "(II)I"⟩, prog_13_method_29_code, 6, some (Jvm.ClassFile.FieldType.int)), 0, 1302, 1300, 1390, 13),
  ((⟨"TableBenchModel", "weave", "(II)I"⟩, prog_13_method_30_code, 7, some (Jvm.ClassFile.FieldType.int)), 0, 1306, 1304, 1394, 13),
  ((⟨"TableBenchModel", "line", "(III)I"⟩, prog_13_method_32_code, 4, some (Jvm.ClassFile.FieldType.int)), 0, 1310, 1308, 1398, 13),
  ((⟨"TableBenchModel", "isZero", "(I)Z"⟩, prog_13_method_31_code, 4, some (Jvm.ClassFile.FieldType.boolean)), 0, 1314, 1313, 54, 13),
  ((⟨"TableBenchModel", "bound", "(I)I"⟩, prog_13_method_34_code, 8, some (Jvm.ClassFile.FieldType.int)), 0, 1318, 1316, 1406, 13),
  ((⟨"TableBenchModel", "write", "(I)V"⟩, prog_13_method_33_code, 2, none), 0, 1322, 1321, 55, 13),
  ((⟨"TableBenchModel", "trace", "(I)I"⟩, prog_13_method_35_code, 2, some (Jvm.ClassFile.FieldType.int)), 0, 1326, 1324, 1414, 13)]
def mjMt_5 : List mjM := [((⟨"TableBenchModel", "poly", "(I)I"⟩, prog_13_method_62_code, 3, some (Jvm.ClassFile.FieldType.int)), 0, 1330, 1328, 1418, 13),
  ((⟨"TableBenchModel", "polyOf", "(I)V"⟩, prog_13_method_50_code, 11, none), 0, 1334, 1333, 56, 13),
  ((⟨"TableBenchModel", "emptyResult", "()V"⟩, prog_13_method_60_code, 1, none), 0, 1338, 1337, 57, 13),
  ((⟨"TableBenchModel", "tell", "(J)V"⟩, prog_13_method_61_code, 3, none), 0, 1342, 1341, 58, 13),
  ((⟨"TableBenchModel", "set", "(IJ)V"⟩, prog_13_method_36_code, 6, none), 0, 1346, 1345, 59, 13),
  ((⟨"TableBenchModel", "worth", "(I)I"⟩, prog_13_method_63_code, 2, some (Jvm.ClassFile.FieldType.int)), 0, 1351, 1349, 1439, 13),
  ((⟨"TableBenchModel", "ring", "(I)I"⟩, prog_13_method_64_code, 3, some (Jvm.ClassFile.FieldType.int)), 0, 1355, 1353, 1443, 13),
  ((⟨"TableBenchModel", "leastOf", "(I)V"⟩, prog_13_method_58_code, 8, none), 0, 1359, 1358, 60, 13),
  ((⟨"TableBenchModel", "byPrime", "(II)V"⟩, prog_13_method_56_code, 9, none), 0, 1363, 1362, 61, 13),
  ((⟨"TableBenchModel", "degree", "([J)I"⟩, prog_13_method_52_code, 2, some (Jvm.ClassFile.FieldType.int)), 1, 1366, 1365, 0, 13),
  ((⟨"TableBenchModel", "common", "(J)V"⟩, prog_13_method_55_code, 7, none), 0, 1370, 1369, 62, 13),
  ((⟨"TableBenchModel", "monic", "([JJ)V"⟩, prog_13_method_53_code, 7, none), 1, 1373, 1372, 0, 13),
  ((⟨"TableBenchModel", "powerOf", "(JJJ)J"⟩, prog_13_method_51_code, 12, some (Jvm.ClassFile.FieldType.long)), 1, 1377, 1376, 0, 13),
  ((⟨"TableBenchModel", "rest", "([J[JJ)V"⟩, prog_13_method_54_code, 10, none), 0, 1381, 1380, 63, 13),
  ((⟨"TableBenchModel", "isMore", "(II)I"⟩, prog_13_method_57_code, 5, some (Jvm.ClassFile.FieldType.int)), 0, 1385, 1384, 64, 13),
  ((⟨"TableBenchModel", "wholeOf", "(JJJJJJ)J"⟩, prog_13_method_59_code, 18, some (Jvm.ClassFile.FieldType.long)), 1, 1388, 1387, 0, 13),
  ((⟨"TableBenchModel", "often", "(II)I"⟩, prog_13_method_65_code, 3, some (Jvm.ClassFile.FieldType.int)), 0, 1392, 1390, 1480, 13),
  ((⟨"TableBenchModel", "count", "(IIII)I"⟩, prog_13_method_67_code, 5, some (Jvm.ClassFile.FieldType.int)), 0, 1396, 1394, 1484, 13),
  ((⟨"TableBenchModel", "roots", "(IIII)V"⟩, prog_13_method_66_code, 10, none), 0, 1402, 1401, 65, 13),
  ((⟨"TableBenchModel", "multiply", "(III)V"⟩, prog_13_method_43_code, 9, none), 0, 1406, 1405, 66, 13),
  ((⟨"TableBenchModel", "trim", "(I)V"⟩, prog_13_method_39_code, 2, none), 0, 1410, 1409, 67, 13),
  ((⟨"TableBenchModel", "add", "(IIII)V"⟩, prog_13_method_42_code, 9, none), 0, 1414, 1413, 68, 13),
  ((⟨"TableBenchModel", "copy", "(II)V"⟩, prog_13_method_37_code, 4, none), 0, 1418, 1417, 69, 13),
  ((⟨"TableBenchModel", "join", "(IIII)V"⟩, prog_13_method_41_code, 9, none), 0, 1422, 1421, 70, 13),
  ((⟨"TableBenchModel", "limbOf", "(II)J"⟩, prog_13_method_40_code, 3, some (Jvm.ClassFile.FieldType.long)), 0, 1426, 1425, 71, 13),
  ((⟨"TableBenchModel", "against", "(II)I"⟩, prog_13_method_38_code, 6, some (Jvm.ClassFile.FieldType.int)), 0, 1430, 1429, 72, 13),
  ((⟨"TableBenchModel", "shut", "(III)I"⟩, prog_13_method_68_code, 7, some (Jvm.ClassFile.FieldType.int)), 0, 1434, 1432, 1522, 13),
  ((⟨"TableBenchModel", "seen", "()J"⟩, prog_13_method_69_code, 1, some (Jvm.ClassFile.FieldType.long)), 0, 1438, 1436, 1526, 13),
  ((⟨"TableBenchModel", "same", "(II)I"⟩, prog_13_method_70_code, 5, some (Jvm.ClassFile.FieldType.int)), 0, 1442, 1440, 1530, 13),
  ((⟨"TableBenchModel", "bend", "(I)I"⟩, prog_13_method_77_code, 5, some (Jvm.ClassFile.FieldType.int)), 0, 1446, 1444, 1534, 13),
  ((⟨"TableBenchModel", "bendOf", "(I)V"⟩, prog_13_method_76_code, 5, none), 0, 1450, 1449, 73, 13),
  ((⟨"TableBenchModel", "ready", "(II)Z"⟩, prog_13_method_74_code, 6, some (Jvm.ClassFile.FieldType.boolean)), 0, 1454, 1453, 74, 13),
  ((⟨"TableBenchModel", "signAt", "(III)I"⟩, prog_13_method_72_code, 4, some (Jvm.ClassFile.FieldType.int)), 0, 1458, 1457, 75, 13),
  ((⟨"TableBenchModel", "bent", "(IIII)V"⟩, prog_13_method_71_code, 8, none), 0, 1462, 1461, 76, 13),
  ((⟨"TableBenchModel", "exchange", "(III)V"⟩, prog_13_method_73_code, 5, none), 0, 1466, 1465, 77, 13),
  ((⟨"TableBenchModel", "clear", "(III)V"⟩, prog_13_method_75_code, 6, none), 0, 1470, 1469, 78, 13),
  ((⟨"TableBenchModel", "greatest", "(III)V"⟩, prog_13_method_49_code, 6, none), 0, 1474, 1473, 79, 13),
  ((⟨"TableBenchModel", "bitOf", "(II)I"⟩, prog_13_method_45_code, 3, some (Jvm.ClassFile.FieldType.int)), 0, 1478, 1477, 80, 13),
  ((⟨"TableBenchModel", "half", "(I)V"⟩, prog_13_method_47_code, 5, none), 0, 1482, 1481, 81, 13),
  ((⟨"TableBenchModel", "twice", "(II)V"⟩, prog_13_method_46_code, 6, none), 0, 1486, 1485, 82, 13)]
def mjMt_6 : List mjM := [((⟨"TableBenchModel", "divide", "(III)V"⟩, prog_13_method_48_code, 7, none), 0, 1490, 1489, 83, 13),
  ((⟨"TableBenchModel", "bitsOf", "(I)I"⟩, prog_13_method_44_code, 5, some (Jvm.ClassFile.FieldType.int)), 0, 1494, 1493, 84, 13),
  ((⟨"TableBenchModel", "signs", "(I)I"⟩, prog_13_method_78_code, 5, some (Jvm.ClassFile.FieldType.int)), 0, 1498, 1496, 1586, 13),
  ((⟨"TableBenchModel", "show", "(I)I"⟩, prog_13_method_79_code, 4, some (Jvm.ClassFile.FieldType.int)), 0, 1502, 1500, 1590, 13),
  ((⟨"TableBenchModel", "form", "(II)I"⟩, prog_13_method_80_code, 10, some (Jvm.ClassFile.FieldType.int)), 0, 1506, 1504, 1594, 13),
  ((⟨"TableBenchModel", "walks", "(II)I"⟩, prog_13_method_81_code, 10, some (Jvm.ClassFile.FieldType.int)), 0, 1510, 1508, 1598, 13),
  ((⟨"TableBenchModel", "pieces", "(I)I"⟩, prog_13_method_83_code, 2, some (Jvm.ClassFile.FieldType.int)), 0, 1514, 1512, 1602, 13),
  ((⟨"TableBenchModel", "piecesOf", "(I)I"⟩, prog_13_method_82_code, 8, some (Jvm.ClassFile.FieldType.int)), 0, 1518, 1517, 85, 13),
  ((⟨"TableBenchModel", "two", "(I)I"⟩, prog_13_method_84_code, 3, some (Jvm.ClassFile.FieldType.int)), 0, 1522, 1520, 1610, 13),
  ((⟨"TableBenchModel", "trees", "(I)I"⟩, prog_13_method_85_code, 6, some (Jvm.ClassFile.FieldType.int)), 0, 1526, 1524, 1614, 13),
  ((⟨"TableBenchModel", "isTree", "(III)Z"⟩, prog_13_method_86_code, 9, some (Jvm.ClassFile.FieldType.boolean)), 0, 1530, 1529, 86, 13),
  ((⟨"TableBenchModel", "results", "()I"⟩, prog_13_method_87_code, 1, some (Jvm.ClassFile.FieldType.int)), 0, 1534, 1532, 1622, 13),
  ((⟨"TableBenchModel", "sign", "(I)I"⟩, prog_13_method_88_code, 2, some (Jvm.ClassFile.FieldType.int)), 0, 1538, 1536, 1626, 13),
  ((⟨"TableBenchModel", "bits", "(I)I"⟩, prog_13_method_89_code, 2, some (Jvm.ClassFile.FieldType.int)), 0, 1542, 1540, 1630, 13),
  ((⟨"TableBenchModel", "word", "(II)J"⟩, prog_13_method_91_code, 3, some (Jvm.ClassFile.FieldType.long)), 0, 1546, 1544, 1634, 13),
  ((⟨"TableBenchModel", "wordOf", "(II)J"⟩, prog_13_method_90_code, 6, some (Jvm.ClassFile.FieldType.long)), 0, 1550, 1549, 87, 13),
  ((⟨"TableBenchModel", "finding", "()I"⟩, prog_13_method_92_code, 1, some (Jvm.ClassFile.FieldType.int)), 0, 1554, 1552, 1642, 13),
  ((⟨"TableBenchModel", "findings", "(I)I"⟩, prog_13_method_93_code, 2, some (Jvm.ClassFile.FieldType.int)), 0, 1558, 1556, 1646, 13),
  ((⟨"TableBenchModel", "about", "(I)I"⟩, prog_13_method_94_code, 4, some (Jvm.ClassFile.FieldType.int)), 0, 1562, 1560, 1650, 13),
  ((⟨"TableBenchModel", "digest", "()J"⟩, prog_13_method_96_code, 4, some (Jvm.ClassFile.FieldType.long)), 0, 1566, 1564, 1654, 13),
  ((⟨"TableBenchModel", "mix", "(J)V"⟩, prog_13_method_95_code, 3, none), 0, 1571, 1570, 88, 13)]
def mjMt : List mjM := mjMt_0 ++ (mjMt_1 ++ (mjMt_2 ++ (mjMt_3 ++ (mjMt_4 ++ (mjMt_5 ++ (mjMt_6))))))
/-- what the tables say of a method -/
def mjMk (q : mjM) : Bool :=
  Nat.ble q.1.2.2.1 22 && plainName q.1.1.cls && !(q.1.1.cls == "java/lang/invoke/MethodHandle") && !(q.1.1.cls == "java/lang/invoke/VarHandle") &&
  decide (tables_1[q.2.2.2.2.2]? = some (.initialized q.1.1.cls)) &&
  (match q.2.1 with
    | 0 => decide (tables_1[q.2.2.2.1]? = some (.instanceMethod q.1.1)) && decide (lw_tbl[q.2.2.2.2.1]? = some (.selects q.1.1.cls q.1.1 q.1.1))
    | 1 => decide (tables_1[q.2.2.2.1]? = some (.static q.1.1))
    | _ => decide (tables_1[q.2.2.2.1]? = some (.instanceMethod q.1.1)) && (q.1.1.name == "<init>") && q.1.2.2.2.isNone)
theorem mjMt_ok0 : mjMt_0.all mjMk = true := by decide +kernel
theorem mjMt_ok1 : mjMt_1.all mjMk = true := by decide +kernel
theorem mjMt_ok2 : mjMt_2.all mjMk = true := by decide +kernel
theorem mjMt_ok3 : mjMt_3.all mjMk = true := by decide +kernel
theorem mjMt_ok4 : mjMt_4.all mjMk = true := by decide +kernel
theorem mjMt_ok5 : mjMt_5.all mjMk = true := by decide +kernel
theorem mjMt_ok6 : mjMt_6.all mjMk = true := by decide +kernel
theorem mjMt_ok : mjMt.all mjMk = true := by
  unfold mjMt
  simp only [List.all_append, mjMt_ok0, mjMt_ok1, mjMt_ok2, mjMt_ok3, mjMt_ok4, mjMt_ok5, mjMt_ok6, Bool.and_self]
set_option maxRecDepth 100000 in
theorem mjMc_0 : mjMt_0.map (fun q => some (Cond.code q.1.1 q.1.2.1 q.1.2.2.1 q.1.2.2.2)) = mjMt_0.map (fun q => tables_1[q.2.2.1]?) := rfl
set_option maxRecDepth 100000 in
theorem mjMc_1 : mjMt_1.map (fun q => some (Cond.code q.1.1 q.1.2.1 q.1.2.2.1 q.1.2.2.2)) = mjMt_1.map (fun q => tables_1[q.2.2.1]?) := rfl
set_option maxRecDepth 100000 in
theorem mjMc_2 : mjMt_2.map (fun q => some (Cond.code q.1.1 q.1.2.1 q.1.2.2.1 q.1.2.2.2)) = mjMt_2.map (fun q => tables_1[q.2.2.1]?) := rfl
set_option maxRecDepth 100000 in
theorem mjMc_3 : mjMt_3.map (fun q => some (Cond.code q.1.1 q.1.2.1 q.1.2.2.1 q.1.2.2.2)) = mjMt_3.map (fun q => tables_1[q.2.2.1]?) := rfl
set_option maxRecDepth 100000 in
theorem mjMc_4 : mjMt_4.map (fun q => some (Cond.code q.1.1 q.1.2.1 q.1.2.2.1 q.1.2.2.2)) = mjMt_4.map (fun q => tables_1[q.2.2.1]?) := rfl
set_option maxRecDepth 100000 in
theorem mjMc_5 : mjMt_5.map (fun q => some (Cond.code q.1.1 q.1.2.1 q.1.2.2.1 q.1.2.2.2)) = mjMt_5.map (fun q => tables_1[q.2.2.1]?) := rfl
set_option maxRecDepth 100000 in
theorem mjMc_6 : mjMt_6.map (fun q => some (Cond.code q.1.1 q.1.2.1 q.1.2.2.1 q.1.2.2.2)) = mjMt_6.map (fun q => tables_1[q.2.2.1]?) := rfl
def lw_g : List Cond := lw_tbl.filter goodWord
theorem lw_g_in {w : Cond} (h : w ∈ lw_tbl) (hg : goodWord w = true) : w ∈ lw_g := List.mem_filter.mpr ⟨h, hg⟩
theorem mjTbl_in {w : Cond} {i : Nat} (h : tables_1[i]? = some w) (hg : goodWord w = true) : w ∈ lw_g := lw_g_in (List.mem_append_right _ (List.mem_of_getElem? h)) hg
theorem mjMath_max : Cond.static Lib.Math.max.name ∈ lw_g ∧ Cond.code Lib.Math.max.name Lib.Math.max.code 2 (some .int) ∈ lw_g := ⟨mjTbl_in (i := 76) (by decide +kernel) rfl, mjTbl_in (i := 77) rfl rfl⟩
theorem mjMath_min : Cond.static Lib.Math.min.name ∈ lw_g ∧ Cond.code Lib.Math.min.name Lib.Math.min.code 2 (some .int) ∈ lw_g := ⟨mjTbl_in (i := 347) (by decide +kernel) rfl, mjTbl_in (i := 348) rfl rfl⟩
set_option maxRecDepth 100000 in
theorem mjMath_abs : Cond.static Lib.Math.abs.name ∈ lw_g ∧ Cond.code Lib.Math.abs.name Lib.Math.abs.code 1 (some .int) ∈ lw_g := ⟨mjTbl_in (i := 533) (by decide +kernel) rfl, mjTbl_in (i := 534) rfl rfl⟩
set_option maxRecDepth 100000 in
theorem mjMath_labs : Cond.static Lib.MathLoose.abs_long.x ∈ lw_g ∧ Cond.code Lib.MathLoose.abs_long.x Lib.MathLoose.abs_long.code 2 (some .long) ∈ lw_g := ⟨mjTbl_in (i := 679) (by decide +kernel) rfl, mjTbl_in (i := 680) rfl rfl⟩
theorem mjMath_ini : Cond.initialized "java/lang/Math" ∈ lw_g := mjTbl_in (i := 5) (by decide +kernel) rfl
theorem mjF_i2f : Cond.static ⟨"java/lang/Float", "intBitsToFloat", "(I)F"⟩ ∈ lw_g ∧ Cond.native ⟨"java/lang/Float", "intBitsToFloat", "(I)F"⟩ ∈ lw_g ∧ Cond.initialized "java/lang/Float" ∈ lw_g := ⟨mjTbl_in (i := 1224) (by decide +kernel) rfl, mjTbl_in (i := 1225) (by decide +kernel) rfl, mjTbl_in (i := 14) (by decide +kernel) rfl⟩
theorem mjD_l2d : Cond.static ⟨"java/lang/Double", "longBitsToDouble", "(J)D"⟩ ∈ lw_g ∧ Cond.native ⟨"java/lang/Double", "longBitsToDouble", "(J)D"⟩ ∈ lw_g ∧ Cond.initialized "java/lang/Double" ∈ lw_g := ⟨mjTbl_in (i := 1227) (by decide +kernel) rfl, mjTbl_in (i := 1228) (by decide +kernel) rfl, mjTbl_in (i := 15) (by decide +kernel) rfl⟩
theorem mjObj : Cond.instanceMethod objectInit ∈ lw_g ∧ Cond.code objectInit ⟨#[0xb1]⟩ 1 none ∈ lw_g := ⟨mjTbl_in (i := 23) (by decide +kernel) rfl, mjTbl_in (i := 24) rfl rfl⟩
theorem mjArr : Cond.arrayClass .int ∈ lw_g ∧ Cond.arrayClass .long ∈ lw_g := ⟨mjTbl_in (i := 67) (by decide +kernel) rfl, mjTbl_in (i := 44) (by decide +kernel) rfl⟩
/-- the arrays of references that are made -/
def mjIsN : Cond → Bool
  | .fieldLinkNest .. => true
  | .methodLinkNest .. => true
  | _ => false
/-- the links of nest mates -/
def lw_n : List Cond := tables_1.filter mjIsN
def mjAO (U : State) : Prop := va_AO "TableBench$Leaf" U ∧ va_AO "TableBench$Table" U ∧ va_AO "TableBench$Big" U ∧ ∀ w ∈ lw_n, va_Nw w U
theorem mjAO.warm {u U : State} (hW : u.WarmedH U.vm) (h : mjAO u) : mjAO U := by
  refine ⟨h.1.moved hW.alike, h.2.1.moved hW.alike, h.2.2.1.moved hW.alike, fun w hw => ?_⟩
  have h1 := h.2.2.2 w hw
  obtain ⟨-, h2⟩ := List.mem_filter.mp hw
  cases w <;> first | (cases h2; done) | exact va_Nw.warmF hW h1 | exact va_Nw.warmM hW h1
theorem mjAO.same {u U : State} (hvm : u.vm = U.vm) (h : mjAO u) : mjAO U := by
  have ha : u.vm.Alike U.vm := by rw [hvm]; exact Vm.Alike.refl U.vm
  refine ⟨h.1.moved ha, h.2.1.moved ha, h.2.2.1.moved ha, fun w hw => ?_⟩
  have h1 := h.2.2.2 w hw
  obtain ⟨-, h2⟩ := List.mem_filter.mp hw
  cases w <;> first | (cases h2; done) | exact va_Nw.same rfl hvm h1
theorem mjNest {w : Cond} {i : Nat} {A : Array Value} {U : State} (h : mjAO U) (hi : tables_1[i]? = some w) (hn : mjIsN w = true) : w.before A U = true := by
  have h1 := h.2.2.2 w (List.mem_filter.mpr ⟨List.mem_of_getElem? hi, hn⟩)
  cases w <;> first | (cases hn; done) | exact va_Nw.use rfl h1
