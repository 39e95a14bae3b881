theorem kw_629 : (Jvm.Cond.constant "java/lang/Integer" (265 : Nat) (1431655765 : Int32)) ∈ FW := fw_ix 675 (by decide +kernel) rfl
theorem kw_630 : (Jvm.Cond.constant "java/lang/Integer" (266 : Nat) (858993459 : Int32)) ∈ FW := fw_ix 676 (by decide +kernel) rfl
theorem kw_631 : (Jvm.Cond.constant "java/lang/Integer" (267 : Nat) (252645135 : Int32)) ∈ FW := fw_ix 677 (by decide +kernel) rfl
theorem kw_45 : (Jvm.Cond.fieldLink "TaylorModels$Model" (9 : Nat) "TaylorModels$Model" "coefficients" "[J") ∈ FW := fw_ix 91 (by decide +kernel) rfl
theorem kw_530 : (Jvm.Cond.constantLong "TaylorModels$Model" (58 : Nat) (-100000000 : Int64)) ∈ FW := fw_ix 576 (by decide +kernel) rfl
theorem kw_531 : (Jvm.Cond.constantLong "TaylorModels$Model" (60 : Nat) (100000000 : Int64)) ∈ FW := fw_ix 577 (by decide +kernel) rfl
theorem kw_47 : (Jvm.Cond.fieldLink "TaylorModels$Model" (21 : Nat) "TaylorModels$Model" "low" "J") ∈ FW := fw_ix 93 (by decide +kernel) rfl
theorem kw_50 : (Jvm.Cond.fieldLink "TaylorModels$Model" (25 : Nat) "TaylorModels$Model" "high" "J") ∈ FW := fw_ix 96 (by decide +kernel) rfl
theorem kw_46 : (Jvm.Cond.fieldLink "TaylorModels$Arithmetic" (34 : Nat) "TaylorModels$Model" "coefficients" "[J") ∈ FW := fw_ix 92 (by decide +kernel) rfl
theorem kw_48 : (Jvm.Cond.fieldLink "TaylorModels$Arithmetic" (37 : Nat) "TaylorModels$Model" "low" "J") ∈ FW := fw_ix 94 (by decide +kernel) rfl
theorem kw_51 : (Jvm.Cond.fieldLink "TaylorModels$Arithmetic" (41 : Nat) "TaylorModels$Model" "high" "J") ∈ FW := fw_ix 97 (by decide +kernel) rfl
theorem kw_526 : (Jvm.Cond.methodLink "TaylorModels$Arithmetic" (44 : Nat) ({ cls := "TaylorModels$Model", name := "fits", desc := "()Z" } : Jvm.MethodName)) ∈ FW := fw_ix 572 (by decide +kernel) rfl
theorem kw_100 : (Jvm.Cond.fieldLink "TaylorModels$Arithmetic" (11 : Nat) "TaylorModels$Arithmetic" "products" "[J") ∈ FW := fw_ix 146 (by decide +kernel) rfl
theorem kw_584 : (Jvm.Cond.methodLink "TaylorModels$Arithmetic" (98 : Nat) ({ cls := "java/util/Arrays", name := "fill", desc := "([JJ)V" } : Jvm.MethodName)) ∈ FW := fw_ix 630 (by decide +kernel) rfl
theorem kw_486 : (Jvm.Cond.fieldLinkNest "TaylorModels$Arithmetic" (87 : Nat) "TaylorModels" "X_POWER" "[I" "TaylorModels") ∈ FW := fw_ix 532 (by decide +kernel) rfl
theorem kw_488 : (Jvm.Cond.fieldLinkNest "TaylorModels$Arithmetic" (91 : Nat) "TaylorModels" "Y_POWER" "[I" "TaylorModels") ∈ FW := fw_ix 534 (by decide +kernel) rfl
theorem kw_517 : (Jvm.Cond.methodLink "TaylorModels" (264 : Nat) ({ cls := "java/lang/Math", name := "min", desc := "(JJ)J" } : Jvm.MethodName)) ∈ FW := fw_ix 563 (by decide +kernel) rfl
theorem kw_518 : (Jvm.Cond.static ({ cls := "java/lang/Math", name := "min", desc := "(JJ)J" } : Jvm.MethodName)) ∈ FW := fw_ix 564 (by decide +kernel) rfl
theorem kw_19 : (Jvm.Cond.initialized "java/lang/Math") ∈ FW := fw_ix 65 (by decide +kernel) rfl
theorem kw_519 : (Jvm.Cond.code ({ cls := "java/lang/Math", name := "min", desc := "(JJ)J" } : Jvm.MethodName) prog_18_method_70_code (4 : Nat) (Option.some Jvm.ClassFile.FieldType.long)) ∈ FW := fw_ix 565 (by decide +kernel) rfl
theorem kw_524 : (Jvm.Cond.methodLink "TaylorModels" (267 : Nat) ({ cls := "java/lang/Math", name := "max", desc := "(JJ)J" } : Jvm.MethodName)) ∈ FW := fw_ix 570 (by decide +kernel) rfl
theorem kw_480 : (Jvm.Cond.static ({ cls := "java/lang/Math", name := "max", desc := "(JJ)J" } : Jvm.MethodName)) ∈ FW := fw_ix 526 (by decide +kernel) rfl
theorem kw_481 : (Jvm.Cond.code ({ cls := "java/lang/Math", name := "max", desc := "(JJ)J" } : Jvm.MethodName) prog_18_method_66_code (4 : Nat) (Option.some Jvm.ClassFile.FieldType.long)) ∈ FW := fw_ix 527 (by decide +kernel) rfl
theorem kw_506 : (Jvm.Cond.fieldLinkNest "TaylorModels$Model" (50 : Nat) "TaylorModels" "LOWEST" "[I" "TaylorModels") ∈ FW := fw_ix 552 (by decide +kernel) rfl
theorem kw_569 : (Jvm.Cond.methodLink "TaylorModels$Model" (62 : Nat) ({ cls := "java/lang/Math", name := "min", desc := "(JJ)J" } : Jvm.MethodName)) ∈ FW := fw_ix 615 (by decide +kernel) rfl
theorem kw_575 : (Jvm.Cond.methodLink "TaylorModels$Model" (64 : Nat) ({ cls := "java/lang/Math", name := "max", desc := "(JJ)J" } : Jvm.MethodName)) ∈ FW := fw_ix 621 (by decide +kernel) rfl
theorem kw_101 : (Jvm.Cond.fieldLink "TaylorModels$Arithmetic" (52 : Nat) "TaylorModels$Arithmetic" "low" "J") ∈ FW := fw_ix 147 (by decide +kernel) rfl
theorem kw_594 : (Jvm.Cond.methodLink "TaylorModels$Arithmetic" (104 : Nat) ({ cls := "java/lang/Math", name := "min", desc := "(JJ)J" } : Jvm.MethodName)) ∈ FW := fw_ix 640 (by decide +kernel) rfl
theorem kw_102 : (Jvm.Cond.fieldLink "TaylorModels$Arithmetic" (53 : Nat) "TaylorModels$Arithmetic" "high" "J") ∈ FW := fw_ix 148 (by decide +kernel) rfl
theorem kw_479 : (Jvm.Cond.methodLink "TaylorModels$Arithmetic" (107 : Nat) ({ cls := "java/lang/Math", name := "max", desc := "(JJ)J" } : Jvm.MethodName)) ∈ FW := fw_ix 525 (by decide +kernel) rfl
theorem kw_503 : (Jvm.Cond.methodLink "TaylorModels$Model" (44 : Nat) ({ cls := "java/lang/Math", name := "floorDiv", desc := "(JJ)J" } : Jvm.MethodName)) ∈ FW := fw_ix 549 (by decide +kernel) rfl
theorem kw_508 : (Jvm.Cond.methodLink "TaylorModels$Model" (54 : Nat) ({ cls := "java/lang/Math", name := "min", desc := "(II)I" } : Jvm.MethodName)) ∈ FW := fw_ix 554 (by decide +kernel) rfl
theorem kw_509 : (Jvm.Cond.static ({ cls := "java/lang/Math", name := "min", desc := "(II)I" } : Jvm.MethodName)) ∈ FW := fw_ix 555 (by decide +kernel) rfl
theorem kw_510 : (Jvm.Cond.code ({ cls := "java/lang/Math", name := "min", desc := "(II)I" } : Jvm.MethodName) prog_18_method_69_code (2 : Nat) (Option.some Jvm.ClassFile.FieldType.int)) ∈ FW := fw_ix 556 (by decide +kernel) rfl
theorem kw_580 : (Jvm.Cond.methodLink "TaylorModels$Arithmetic" (48 : Nat) ({ cls := "TaylorModels$Arithmetic", name := "collectProducts", desc := "(LTaylorModels$Model;LTaylorModels$Model;)V" } : Jvm.MethodName)) ∈ FW := fw_ix 626 (by decide +kernel) rfl
theorem kw_585 : (Jvm.Cond.methodLink "TaylorModels$Arithmetic" (54 : Nat) ({ cls := "java/lang/Math", name := "max", desc := "(II)I" } : Jvm.MethodName)) ∈ FW := fw_ix 631 (by decide +kernel) rfl
theorem kw_586 : (Jvm.Cond.static ({ cls := "java/lang/Math", name := "max", desc := "(II)I" } : Jvm.MethodName)) ∈ FW := fw_ix 632 (by decide +kernel) rfl
theorem kw_587 : (Jvm.Cond.code ({ cls := "java/lang/Math", name := "max", desc := "(II)I" } : Jvm.MethodName) prog_18_method_65_code (2 : Nat) (Option.some Jvm.ClassFile.FieldType.int)) ∈ FW := fw_ix 633 (by decide +kernel) rfl
theorem kw_511 : (Jvm.Cond.methodLinkNest "TaylorModels$Arithmetic" (60 : Nat) ({ cls := "TaylorModels", name := "lowestOf", desc := "(II)I" } : Jvm.MethodName) "TaylorModels") ∈ FW := fw_ix 557 (by decide +kernel) rfl
theorem kw_514 : (Jvm.Cond.methodLinkNest "TaylorModels$Arithmetic" (63 : Nat) ({ cls := "TaylorModels", name := "rangeLow", desc := "(JI)J" } : Jvm.MethodName) "TaylorModels") ∈ FW := fw_ix 560 (by decide +kernel) rfl
theorem kw_521 : (Jvm.Cond.methodLinkNest "TaylorModels$Arithmetic" (67 : Nat) ({ cls := "TaylorModels", name := "rangeHigh", desc := "(JI)J" } : Jvm.MethodName) "TaylorModels") ∈ FW := fw_ix 567 (by decide +kernel) rfl
theorem kw_588 : (Jvm.Cond.methodLink "TaylorModels$Arithmetic" (70 : Nat) ({ cls := "TaylorModels$Model", name := "spreadLow", desc := "()J" } : Jvm.MethodName)) ∈ FW := fw_ix 634 (by decide +kernel) rfl
theorem kw_589 : (Jvm.Cond.methodLink "TaylorModels$Arithmetic" (74 : Nat) ({ cls := "TaylorModels$Model", name := "spreadHigh", desc := "()J" } : Jvm.MethodName)) ∈ FW := fw_ix 635 (by decide +kernel) rfl
theorem kw_590 : (Jvm.Cond.methodLink "TaylorModels$Arithmetic" (77 : Nat) ({ cls := "TaylorModels$Arithmetic", name := "addIntervalProduct", desc := "(JJJJ)V" } : Jvm.MethodName)) ∈ FW := fw_ix 636 (by decide +kernel) rfl
theorem kw_595 : (Jvm.Cond.constantLong "TaylorModels$Arithmetic" (81 : Nat) (1000 : Int64)) ∈ FW := fw_ix 641 (by decide +kernel) rfl
theorem kw_520 : (Jvm.Cond.methodLink "TaylorModels$Arithmetic" (83 : Nat) ({ cls := "java/lang/Math", name := "floorDiv", desc := "(JJ)J" } : Jvm.MethodName)) ∈ FW := fw_ix 566 (by decide +kernel) rfl
theorem kw_499 : (Jvm.Cond.methodLink "TaylorModels$Arithmetic" (94 : Nat) ({ cls := "TaylorModels$Model", name := "putQuotient", desc := "(IJJ)V" } : Jvm.MethodName)) ∈ FW := fw_ix 545 (by decide +kernel) rfl
theorem kw_565 : (Jvm.Cond.methodLink "TaylorModels$Model" (67 : Nat) ({ cls := "TaylorModels$Model", name := "spreadLow", desc := "()J" } : Jvm.MethodName)) ∈ FW := fw_ix 611 (by decide +kernel) rfl
theorem kw_570 : (Jvm.Cond.constantLong "TaylorModels$Model" (74 : Nat) (-1000 : Int64)) ∈ FW := fw_ix 616 (by decide +kernel) rfl
theorem kw_571 : (Jvm.Cond.methodLink "TaylorModels$Model" (71 : Nat) ({ cls := "TaylorModels$Model", name := "spreadHigh", desc := "()J" } : Jvm.MethodName)) ∈ FW := fw_ix 617 (by decide +kernel) rfl
theorem kw_455 : (Jvm.Cond.constantLong "TaylorModels$Model" (32 : Nat) (1000 : Int64)) ∈ FW := fw_ix 501 (by decide +kernel) rfl
theorem kw_452 : (Jvm.Cond.methodLink "TaylorModels$Model" (15 : Nat) ({ cls := "java/util/Arrays", name := "fill", desc := "([JJ)V" } : Jvm.MethodName)) ∈ FW := fw_ix 498 (by decide +kernel) rfl
theorem kw_256 : (Jvm.Cond.methodLink "TaylorModels$Model" (38 : Nat) ({ cls := "java/lang/System", name := "arraycopy", desc := "(Ljava/lang/Object;ILjava/lang/Object;II)V" } : Jvm.MethodName)) ∈ FW := fw_ix 302 (by decide +kernel) rfl
theorem kw_258 : (Jvm.Cond.native ({ cls := "java/lang/System", name := "arraycopy", desc := "(Ljava/lang/Object;ILjava/lang/Object;II)V" } : Jvm.MethodName)) ∈ FW := fw_ix 304 (by decide +kernel) rfl
theorem kw_257 : (Jvm.Cond.static ({ cls := "java/lang/System", name := "arraycopy", desc := "(Ljava/lang/Object;ILjava/lang/Object;II)V" } : Jvm.MethodName)) ∈ FW := fw_ix 303 (by decide +kernel) rfl
theorem kw_18 : (Jvm.Cond.initialized "java/lang/System") ∈ FW := fw_ix 64 (by decide +kernel) rfl
theorem kw_561 : (Jvm.Cond.methodLink "TaylorModels$Arithmetic" (109 : Nat) ({ cls := "TaylorModels$Model", name := "staysInSquare", desc := "()Z" } : Jvm.MethodName)) ∈ FW := fw_ix 607 (by decide +kernel) rfl
theorem kw_104 : (Jvm.Cond.fieldLink "TaylorModels$Arithmetic" (22 : Nat) "TaylorModels$Arithmetic" "whole" "LTaylorModels$Model;") ∈ FW := fw_ix 150 (by decide +kernel) rfl
theorem kw_475 : (Jvm.Cond.methodLink "TaylorModels$Arithmetic" (112 : Nat) ({ cls := "TaylorModels$Model", name := "becomeConstant", desc := "(J)V" } : Jvm.MethodName)) ∈ FW := fw_ix 521 (by decide +kernel) rfl
theorem kw_103 : (Jvm.Cond.fieldLink "TaylorModels$Arithmetic" (18 : Nat) "TaylorModels$Arithmetic" "part" "LTaylorModels$Model;") ∈ FW := fw_ix 149 (by decide +kernel) rfl
theorem kw_576 : (Jvm.Cond.methodLink "TaylorModels$Arithmetic" (116 : Nat) ({ cls := "TaylorModels$Arithmetic", name := "multiplyModels", desc := "(LTaylorModels$Model;LTaylorModels$Model;LTaylorModels$Model;)Z" } : Jvm.MethodName)) ∈ FW := fw_ix 622 (by decide +kernel) rfl
theorem kw_596 : (Jvm.Cond.methodLink "TaylorModels$Arithmetic" (120 : Nat) ({ cls := "TaylorModels$Arithmetic", name := "addModels", desc := "(LTaylorModels$Model;LTaylorModels$Model;LTaylorModels$Model;)Z" } : Jvm.MethodName)) ∈ FW := fw_ix 642 (by decide +kernel) rfl
theorem kw_525 : (Jvm.Cond.methodLink "TaylorModels$Arithmetic" (123 : Nat) ({ cls := "TaylorModels$Model", name := "copyFrom", desc := "(LTaylorModels$Model;)V" } : Jvm.MethodName)) ∈ FW := fw_ix 571 (by decide +kernel) rfl
theorem kw_497 : (Jvm.Cond.fieldLink "TaylorModels" (260 : Nat) "TaylorModels" "FIRST_SLOT_OF_X_POWER" "[I") ∈ FW := fw_ix 543 (by decide +kernel) rfl
theorem kw_494 : (Jvm.Cond.methodLinkNest "TaylorModels$Arithmetic" (138 : Nat) ({ cls := "TaylorModels", name := "slotOf", desc := "(II)I" } : Jvm.MethodName) "TaylorModels") ∈ FW := fw_ix 540 (by decide +kernel) rfl
theorem kw_476 : (Jvm.Cond.methodLink "TaylorModels$Arithmetic" (127 : Nat) ({ cls := "java/lang/Math", name := "abs", desc := "(J)J" } : Jvm.MethodName)) ∈ FW := fw_ix 522 (by decide +kernel) rfl
theorem kw_477 : (Jvm.Cond.static ({ cls := "java/lang/Math", name := "abs", desc := "(J)J" } : Jvm.MethodName)) ∈ FW := fw_ix 523 (by decide +kernel) rfl
theorem kw_478 : (Jvm.Cond.code ({ cls := "java/lang/Math", name := "abs", desc := "(J)J" } : Jvm.MethodName) prog_18_method_61_code (2 : Nat) (Option.some Jvm.ClassFile.FieldType.long)) ∈ FW := fw_ix 524 (by decide +kernel) rfl
theorem kw_482 : (Jvm.Cond.methodLink "TaylorModels$Arithmetic" (131 : Nat) ({ cls := "TaylorModels$Model", name := "widen", desc := "(J)V" } : Jvm.MethodName)) ∈ FW := fw_ix 528 (by decide +kernel) rfl
theorem kw_490 : (Jvm.Cond.methodLink "TaylorModels$Arithmetic" (134 : Nat) ({ cls := "TaylorModels$Arithmetic", name := "integrateTerm", desc := "(JIII)V" } : Jvm.MethodName)) ∈ FW := fw_ix 536 (by decide +kernel) rfl
theorem kw_105 : (Jvm.Cond.fieldLink "TaylorModels$Arithmetic" (25 : Nat) "TaylorModels$Arithmetic" "speed" "LTaylorModels$Model;") ∈ FW := fw_ix 151 (by decide +kernel) rfl
theorem kw_106 : (Jvm.Cond.fieldLink "TaylorModels$Arithmetic" (28 : Nat) "TaylorModels$Arithmetic" "nextX" "LTaylorModels$Model;") ∈ FW := fw_ix 152 (by decide +kernel) rfl
theorem kw_847 : (Jvm.Cond.methodLink "TaylorModels$Arithmetic" (141 : Nat) ({ cls := "TaylorModels$Arithmetic", name := "composeModels", desc := "(LTaylorModels$Model;LTaylorModels$Model;LTaylorModels$Model;LTaylorModels$Model;)Z" } : Jvm.MethodName)) ∈ FW := fw_ix 893 (by decide +kernel) rfl
theorem kw_107 : (Jvm.Cond.fieldLink "TaylorModels$Arithmetic" (31 : Nat) "TaylorModels$Arithmetic" "nextY" "LTaylorModels$Model;") ∈ FW := fw_ix 153 (by decide +kernel) rfl
theorem kw_65 : (Jvm.Cond.fieldLink "TaylorModels$Models" (18 : Nat) "TaylorModels$Models" "mask" "I") ∈ FW := fw_ix 111 (by decide +kernel) rfl
theorem kw_61 : (Jvm.Cond.fieldLink "TaylorModels$Models" (11 : Nat) "TaylorModels$Models" "rows" "[LTaylorModels$Model;") ∈ FW := fw_ix 107 (by decide +kernel) rfl
theorem kw_252 : (Jvm.Cond.methodLink "TaylorModels$Models" (28 : Nat) ({ cls := "TaylorModels$Model", name := "copyFrom", desc := "(LTaylorModels$Model;)V" } : Jvm.MethodName)) ∈ FW := fw_ix 298 (by decide +kernel) rfl
theorem kw_82 : (Jvm.Cond.fieldLink "TaylorModels$History" (18 : Nat) "TaylorModels$History" "next" "I") ∈ FW := fw_ix 128 (by decide +kernel) rfl
theorem kw_81 : (Jvm.Cond.fieldLink "TaylorModels$History" (11 : Nat) "TaylorModels$History" "ring" "[LTaylorModels$Models;") ∈ FW := fw_ix 127 (by decide +kernel) rfl
theorem kw_248 : (Jvm.Cond.methodLink "TaylorModels$History" (22 : Nat) ({ cls := "TaylorModels$Models", name := "copyFrom", desc := "(LTaylorModels$Models;)V" } : Jvm.MethodName)) ∈ FW := fw_ix 294 (by decide +kernel) rfl
theorem kw_83 : (Jvm.Cond.fieldLink "TaylorModels$History" (26 : Nat) "TaylorModels$History" "count" "I") ∈ FW := fw_ix 129 (by decide +kernel) rfl
theorem kw_620 : (Jvm.Cond.methodLink "TaylorModels$History" (29 : Nat) ({ cls := "java/lang/Math", name := "min", desc := "(II)I" } : Jvm.MethodName)) ∈ FW := fw_ix 666 (by decide +kernel) rfl
theorem kw_448 : (Jvm.Cond.methodLink "TaylorModels$Model" (28 : Nat) ({ cls := "TaylorModels$Model", name := "becomeConstant", desc := "(J)V" } : Jvm.MethodName)) ∈ FW := fw_ix 494 (by decide +kernel) rfl
theorem kw_456 : (Jvm.Cond.methodLink "TaylorModels$Model" (34 : Nat) ({ cls := "TaylorModels$Model", name := "setCoefficientAt", desc := "(IJ)V" } : Jvm.MethodName)) ∈ FW := fw_ix 502 (by decide +kernel) rfl
theorem kw_732 : (Jvm.Cond.fieldLinkNest "TaylorModels$Model" (76 : Nat) "TaylorModels" "X_POWER" "[I" "TaylorModels") ∈ FW := fw_ix 778 (by decide +kernel) rfl
theorem kw_733 : (Jvm.Cond.fieldLinkNest "TaylorModels$Model" (79 : Nat) "TaylorModels" "Y_POWER" "[I" "TaylorModels") ∈ FW := fw_ix 779 (by decide +kernel) rfl
theorem kw_747 : (Jvm.Cond.methodLink "TaylorModels$Model" (82 : Nat) ({ cls := "java/lang/Math", name := "max", desc := "(II)I" } : Jvm.MethodName)) ∈ FW := fw_ix 793 (by decide +kernel) rfl
theorem kw_759 : (Jvm.Cond.methodLinkNest "TaylorModels$Model" (84 : Nat) ({ cls := "TaylorModels", name := "rangeLow", desc := "(JI)J" } : Jvm.MethodName) "TaylorModels") ∈ FW := fw_ix 805 (by decide +kernel) rfl
theorem kw_760 : (Jvm.Cond.methodLinkNest "TaylorModels$Model" (88 : Nat) ({ cls := "TaylorModels", name := "rangeHigh", desc := "(JI)J" } : Jvm.MethodName) "TaylorModels") ∈ FW := fw_ix 806 (by decide +kernel) rfl
theorem kw_861 : (Jvm.Cond.methodLink "TaylorModels$Model" (91 : Nat) ({ cls := "java/lang/Math", name := "abs", desc := "(J)J" } : Jvm.MethodName)) ∈ FW := fw_ix 907 (by decide +kernel) rfl
theorem kw_271 : (Jvm.Cond.constantLong "TaylorModels$Model" (95 : Nat) (31 : Int64)) ∈ FW := fw_ix 317 (by decide +kernel) rfl
theorem kw_626 : (Jvm.Cond.methodLink "TaylorModels$Models" (22 : Nat) ({ cls := "java/lang/Integer", name := "bitCount", desc := "(I)I" } : Jvm.MethodName)) ∈ FW := fw_ix 672 (by decide +kernel) rfl
theorem kw_143 : (Jvm.Cond.fieldLink "TaylorModels$SetupText" (32 : Nat) "TaylorModels$SetupText" "current" "I") ∈ FW := fw_ix 189 (by decide +kernel) rfl
theorem kw_142 : (Jvm.Cond.fieldLink "TaylorModels$SetupText" (29 : Nat) "TaylorModels$SetupText" "last" "I") ∈ FW := fw_ix 188 (by decide +kernel) rfl
theorem kw_148 : (Jvm.Cond.fieldLink "TaylorModels$SetupText" (44 : Nat) "TaylorModels$SetupText" "first" "I") ∈ FW := fw_ix 194 (by decide +kernel) rfl
theorem kw_145 : (Jvm.Cond.fieldLink "TaylorModels$SetupText" (38 : Nat) "TaylorModels$SetupText" "start" "I") ∈ FW := fw_ix 191 (by decide +kernel) rfl
theorem kw_137 : (Jvm.Cond.fieldLink "TaylorModels$SetupText" (9 : Nat) "TaylorModels$SetupText" "bytes" "[I") ∈ FW := fw_ix 183 (by decide +kernel) rfl
theorem kw_140 : (Jvm.Cond.fieldLink "TaylorModels$SetupText" (15 : Nat) "TaylorModels$SetupText" "starts" "[I") ∈ FW := fw_ix 186 (by decide +kernel) rfl
theorem kw_141 : (Jvm.Cond.fieldLink "TaylorModels$SetupText" (18 : Nat) "TaylorModels$SetupText" "ends" "[I") ∈ FW := fw_ix 187 (by decide +kernel) rfl
theorem kw_146 : (Jvm.Cond.fieldLink "TaylorModels$SetupText" (41 : Nat) "TaylorModels$SetupText" "end" "I") ∈ FW := fw_ix 192 (by decide +kernel) rfl
theorem kw_357 : (Jvm.Cond.methodLink "TaylorModels$SetupText" (25 : Nat) ({ cls := "TaylorModels$SetupText", name := "kindOf", desc := "(I)I" } : Jvm.MethodName)) ∈ FW := fw_ix 403 (by decide +kernel) rfl
theorem kw_360 : (Jvm.Cond.methodLink "TaylorModels$SetupText" (35 : Nat) ({ cls := "TaylorModels$SetupText", name := "advance", desc := "()V" } : Jvm.MethodName)) ∈ FW := fw_ix 406 (by decide +kernel) rfl
theorem kw_369 : (Jvm.Cond.methodLink "TaylorModels$SetupText" (47 : Nat) ({ cls := "java/lang/String", name := "length", desc := "()I" } : Jvm.MethodName)) ∈ FW := fw_ix 415 (by decide +kernel) rfl
theorem kw_379 : (Jvm.Cond.methodLink "TaylorModels$SetupText" (53 : Nat) ({ cls := "java/lang/String", name := "charAt", desc := "(I)C" } : Jvm.MethodName)) ∈ FW := fw_ix 425 (by decide +kernel) rfl
theorem kw_184 : (Jvm.Cond.fieldLink "TaylorModels$SetupReader" (90 : Nat) "TaylorModels$SetupReader" "error" "I") ∈ FW := fw_ix 230 (by decide +kernel) rfl
theorem kw_175 : (Jvm.Cond.fieldLink "TaylorModels$SetupReader" (14 : Nat) "TaylorModels$SetupReader" "text" "LTaylorModels$SetupText;") ∈ FW := fw_ix 221 (by decide +kernel) rfl
theorem kw_147 : (Jvm.Cond.fieldLink "TaylorModels$SetupReader" (72 : Nat) "TaylorModels$SetupText" "first" "I") ∈ FW := fw_ix 193 (by decide +kernel) rfl
theorem kw_421 : (Jvm.Cond.methodLink "TaylorModels$SetupReader" (66 : Nat) ({ cls := "TaylorModels$SetupText", name := "advance", desc := "()V" } : Jvm.MethodName)) ∈ FW := fw_ix 467 (by decide +kernel) rfl
theorem kw_417 : (Jvm.Cond.methodLink "TaylorModels$SetupReader" (62 : Nat) ({ cls := "TaylorModels$SetupReader", name := "fail", desc := "(I)Z" } : Jvm.MethodName)) ∈ FW := fw_ix 463 (by decide +kernel) rfl
theorem kw_548 : (Jvm.Cond.constant "TaylorModels$SetupText" (57 : Nat) (1000000 : Int32)) ∈ FW := fw_ix 594 (by decide +kernel) rfl
theorem kw_549 : (Jvm.Cond.methodLink "TaylorModels$SetupText" (58 : Nat) ({ cls := "java/lang/Math", name := "min", desc := "(II)I" } : Jvm.MethodName)) ∈ FW := fw_ix 595 (by decide +kernel) rfl
theorem kw_540 : (Jvm.Cond.methodLink "TaylorModels$SetupReader" (106 : Nat) ({ cls := "TaylorModels$SetupText", name := "isNumber", desc := "()Z" } : Jvm.MethodName)) ∈ FW := fw_ix 586 (by decide +kernel) rfl
theorem kw_544 : (Jvm.Cond.methodLink "TaylorModels$SetupReader" (96 : Nat) ({ cls := "TaylorModels$SetupText", name := "number", desc := "()I" } : Jvm.MethodName)) ∈ FW := fw_ix 590 (by decide +kernel) rfl
theorem kw_550 : (Jvm.Cond.constant "TaylorModels$SetupReader" (109 : Nat) (100000 : Int32)) ∈ FW := fw_ix 596 (by decide +kernel) rfl
theorem kw_536 : (Jvm.Cond.methodLink "TaylorModels$SetupReader" (93 : Nat) ({ cls := "TaylorModels$SetupReader", name := "checkNumber", desc := "()Z" } : Jvm.MethodName)) ∈ FW := fw_ix 582 (by decide +kernel) rfl
theorem kw_551 : (Jvm.Cond.methodLink "TaylorModels$SetupReader" (165 : Nat) ({ cls := "TaylorModels$Model", name := "becomeConstant", desc := "(J)V" } : Jvm.MethodName)) ∈ FW := fw_ix 597 (by decide +kernel) rfl
theorem kw_466 : (Jvm.Cond.methodLink "TaylorModels$SetupReader" (168 : Nat) ({ cls := "TaylorModels$SetupReader", name := "open", desc := "(II)Z" } : Jvm.MethodName)) ∈ FW := fw_ix 512 (by decide +kernel) rfl
theorem kw_430 : (Jvm.Cond.methodLink "TaylorModels$SetupReader" (79 : Nat) ({ cls := "TaylorModels$SetupReader", name := "readSum", desc := "(I)Z" } : Jvm.MethodName)) ∈ FW := fw_ix 476 (by decide +kernel) rfl
theorem kw_422 : (Jvm.Cond.methodLink "TaylorModels$SetupReader" (69 : Nat) ({ cls := "TaylorModels$SetupReader", name := "take", desc := "(I)Z" } : Jvm.MethodName)) ∈ FW := fw_ix 468 (by decide +kernel) rfl
theorem kw_183 : (Jvm.Cond.fieldLink "TaylorModels$SetupReader" (44 : Nat) "TaylorModels$SetupReader" "arguments" "[LTaylorModels$Model;") ∈ FW := fw_ix 229 (by decide +kernel) rfl
theorem kw_180 : (Jvm.Cond.fieldLink "TaylorModels$SetupReader" (34 : Nat) "TaylorModels$SetupReader" "sums" "[LTaylorModels$Model;") ∈ FW := fw_ix 226 (by decide +kernel) rfl
theorem kw_470 : (Jvm.Cond.methodLink "TaylorModels$SetupReader" (113 : Nat) ({ cls := "TaylorModels$Model", name := "copyFrom", desc := "(LTaylorModels$Model;)V" } : Jvm.MethodName)) ∈ FW := fw_ix 516 (by decide +kernel) rfl
theorem kw_182 : (Jvm.Cond.fieldLink "TaylorModels$SetupReader" (41 : Nat) "TaylorModels$SetupReader" "factors" "[LTaylorModels$Model;") ∈ FW := fw_ix 228 (by decide +kernel) rfl
theorem kw_365 : (Jvm.Cond.methodLink "TaylorModels$SetupReader" (58 : Nat) ({ cls := "TaylorModels$SetupText", name := "isWord", desc := "(Ljava/lang/String;)Z" } : Jvm.MethodName)) ∈ FW := fw_ix 411 (by decide +kernel) rfl
theorem kw_444 : (Jvm.Cond.methodLink "TaylorModels$SetupReader" (134 : Nat) ({ cls := "TaylorModels$Model", name := "becomeVariable", desc := "(I)V" } : Jvm.MethodName)) ∈ FW := fw_ix 490 (by decide +kernel) rfl
theorem kw_462 : (Jvm.Cond.methodLink "TaylorModels$SetupReader" (141 : Nat) ({ cls := "TaylorModels$SetupReader", name := "readParenthesis", desc := "(I)Z" } : Jvm.MethodName)) ∈ FW := fw_ix 508 (by decide +kernel) rfl
theorem kw_179 : (Jvm.Cond.fieldLink "TaylorModels$SetupReader" (28 : Nat) "TaylorModels$SetupReader" "arithmetic" "LTaylorModels$Arithmetic;") ∈ FW := fw_ix 225 (by decide +kernel) rfl
theorem kw_471 : (Jvm.Cond.methodLink "TaylorModels$SetupReader" (144 : Nat) ({ cls := "TaylorModels$Arithmetic", name := "integrateModel", desc := "(LTaylorModels$Model;LTaylorModels$Model;I)Z" } : Jvm.MethodName)) ∈ FW := fw_ix 517 (by decide +kernel) rfl
theorem kw_426 : (Jvm.Cond.methodLink "TaylorModels$SetupReader" (75 : Nat) ({ cls := "TaylorModels$SetupText", name := "name", desc := "()I" } : Jvm.MethodName)) ∈ FW := fw_ix 472 (by decide +kernel) rfl
theorem kw_177 : (Jvm.Cond.fieldLink "TaylorModels$SetupReader" (21 : Nat) "TaylorModels$SetupReader" "draft" "LTaylorModels$Models;") ∈ FW := fw_ix 223 (by decide +kernel) rfl
theorem kw_552 : (Jvm.Cond.methodLink "TaylorModels$SetupReader" (152 : Nat) ({ cls := "TaylorModels$Models", name := "has", desc := "(I)Z" } : Jvm.MethodName)) ∈ FW := fw_ix 598 (by decide +kernel) rfl
theorem kw_62 : (Jvm.Cond.fieldLink "TaylorModels$SetupReader" (155 : Nat) "TaylorModels$Models" "rows" "[LTaylorModels$Model;") ∈ FW := fw_ix 108 (by decide +kernel) rfl
theorem kw_553 : (Jvm.Cond.methodLink "TaylorModels$SetupReader" (158 : Nat) ({ cls := "TaylorModels$SetupReader", name := "readBrackets", desc := "(I)Z" } : Jvm.MethodName)) ∈ FW := fw_ix 599 (by decide +kernel) rfl
theorem kw_557 : (Jvm.Cond.methodLink "TaylorModels$SetupReader" (161 : Nat) ({ cls := "TaylorModels$Arithmetic", name := "composeModels", desc := "(LTaylorModels$Model;LTaylorModels$Model;LTaylorModels$Model;LTaylorModels$Model;)Z" } : Jvm.MethodName)) ∈ FW := fw_ix 603 (by decide +kernel) rfl
theorem kw_532 : (Jvm.Cond.methodLink "TaylorModels$SetupReader" (148 : Nat) ({ cls := "TaylorModels$SetupReader", name := "readConstant", desc := "(LTaylorModels$Model;)Z" } : Jvm.MethodName)) ∈ FW := fw_ix 578 (by decide +kernel) rfl
theorem kw_438 : (Jvm.Cond.methodLink "TaylorModels$SetupReader" (124 : Nat) ({ cls := "TaylorModels$SetupReader", name := "readFactor", desc := "(I)Z" } : Jvm.MethodName)) ∈ FW := fw_ix 484 (by decide +kernel) rfl
theorem kw_181 : (Jvm.Cond.fieldLink "TaylorModels$SetupReader" (38 : Nat) "TaylorModels$SetupReader" "terms" "[LTaylorModels$Model;") ∈ FW := fw_ix 227 (by decide +kernel) rfl
theorem kw_600 : (Jvm.Cond.methodLink "TaylorModels$SetupReader" (127 : Nat) ({ cls := "TaylorModels$Arithmetic", name := "multiplyModels", desc := "(LTaylorModels$Model;LTaylorModels$Model;LTaylorModels$Model;)Z" } : Jvm.MethodName)) ∈ FW := fw_ix 646 (by decide +kernel) rfl
theorem kw_434 : (Jvm.Cond.methodLink "TaylorModels$SetupReader" (110 : Nat) ({ cls := "TaylorModels$SetupReader", name := "readTerm", desc := "(I)Z" } : Jvm.MethodName)) ∈ FW := fw_ix 480 (by decide +kernel) rfl
theorem kw_602 : (Jvm.Cond.methodLink "TaylorModels$SetupReader" (121 : Nat) ({ cls := "TaylorModels$Arithmetic", name := "subtractModels", desc := "(LTaylorModels$Model;LTaylorModels$Model;LTaylorModels$Model;)Z" } : Jvm.MethodName)) ∈ FW := fw_ix 648 (by decide +kernel) rfl
theorem kw_601 : (Jvm.Cond.methodLink "TaylorModels$SetupReader" (117 : Nat) ({ cls := "TaylorModels$Arithmetic", name := "addModels", desc := "(LTaylorModels$Model;LTaylorModels$Model;LTaylorModels$Model;)Z" } : Jvm.MethodName)) ∈ FW := fw_ix 647 (by decide +kernel) rfl
theorem kw_610 : (Jvm.Cond.methodLink "TaylorModels$SetupReader" (99 : Nat) ({ cls := "TaylorModels$Model", name := "widen", desc := "(J)V" } : Jvm.MethodName)) ∈ FW := fw_ix 656 (by decide +kernel) rfl
theorem kw_611 : (Jvm.Cond.methodLink "TaylorModels$SetupReader" (103 : Nat) ({ cls := "TaylorModels$Model", name := "fits", desc := "()Z" } : Jvm.MethodName)) ∈ FW := fw_ix 657 (by decide +kernel) rfl
theorem kw_64 : (Jvm.Cond.fieldLink "TaylorModels$SetupReader" (48 : Nat) "TaylorModels$Models" "mask" "I") ∈ FW := fw_ix 110 (by decide +kernel) rfl
theorem kw_353 : (Jvm.Cond.methodLink "TaylorModels$SetupReader" (52 : Nat) ({ cls := "TaylorModels$SetupText", name := "split", desc := "(I)V" } : Jvm.MethodName)) ∈ FW := fw_ix 399 (by decide +kernel) rfl
theorem kw_606 : (Jvm.Cond.methodLink "TaylorModels$SetupReader" (82 : Nat) ({ cls := "TaylorModels$SetupReader", name := "readUncertainty", desc := "()Z" } : Jvm.MethodName)) ∈ FW := fw_ix 652 (by decide +kernel) rfl
theorem kw_612 : (Jvm.Cond.methodLink "TaylorModels$SetupReader" (86 : Nat) ({ cls := "TaylorModels$Models", name := "define", desc := "(ILTaylorModels$Model;)V" } : Jvm.MethodName)) ∈ FW := fw_ix 658 (by decide +kernel) rfl
theorem kw_138 : (Jvm.Cond.fieldLink "TaylorModels$SetupText" (21 : Nat) "TaylorModels$SetupText" "filled" "I") ∈ FW := fw_ix 184 (by decide +kernel) rfl
theorem kw_208 : (Jvm.Cond.fieldLink "TaylorModels" (33 : Nat) "TaylorModels" "reader" "LTaylorModels$SetupReader;") ∈ FW := fw_ix 254 (by decide +kernel) rfl
theorem kw_176 : (Jvm.Cond.fieldLink "TaylorModels" (48 : Nat) "TaylorModels$SetupReader" "text" "LTaylorModels$SetupText;") ∈ FW := fw_ix 222 (by decide +kernel) rfl
theorem kw_139 : (Jvm.Cond.fieldLink "TaylorModels" (52 : Nat) "TaylorModels$SetupText" "filled" "I") ∈ FW := fw_ix 185 (by decide +kernel) rfl
theorem kw_228 : (Jvm.Cond.methodLink "TaylorModels" (57 : Nat) ({ cls := "TaylorModels$SetupText", name := "putWord", desc := "(I)V" } : Jvm.MethodName)) ∈ FW := fw_ix 274 (by decide +kernel) rfl
theorem kw_280 : (Jvm.Cond.classLink "TaylorModels" (61 : Nat) "java/lang/IllegalArgumentException") ∈ FW := fw_ix 326 (by decide +kernel) rfl
theorem kw_12 : (Jvm.Cond.initialized "java/lang/IllegalArgumentException") ∈ FW := fw_ix 58 (by decide +kernel) rfl
theorem kw_349 : (Jvm.Cond.methodLink "TaylorModels" (68 : Nat) ({ cls := "TaylorModels$SetupReader", name := "readSetup", desc := "(I)Z" } : Jvm.MethodName)) ∈ FW := fw_ix 395 (by decide +kernel) rfl
theorem kw_210 : (Jvm.Cond.fieldLink "TaylorModels" (44 : Nat) "TaylorModels" "errorStart" "I") ∈ FW := fw_ix 256 (by decide +kernel) rfl
theorem kw_206 : (Jvm.Cond.fieldLink "TaylorModels" (19 : Nat) "TaylorModels" "history" "LTaylorModels$History;") ∈ FW := fw_ix 252 (by decide +kernel) rfl
theorem kw_205 : (Jvm.Cond.fieldLink "TaylorModels" (10 : Nat) "TaylorModels" "models" "LTaylorModels$Models;") ∈ FW := fw_ix 251 (by decide +kernel) rfl
theorem kw_616 : (Jvm.Cond.methodLink "TaylorModels" (78 : Nat) ({ cls := "TaylorModels$History", name := "remember", desc := "(LTaylorModels$Models;)V" } : Jvm.MethodName)) ∈ FW := fw_ix 662 (by decide +kernel) rfl
theorem kw_178 : (Jvm.Cond.fieldLink "TaylorModels" (82 : Nat) "TaylorModels$SetupReader" "draft" "LTaylorModels$Models;") ∈ FW := fw_ix 224 (by decide +kernel) rfl
theorem kw_621 : (Jvm.Cond.methodLink "TaylorModels" (85 : Nat) ({ cls := "TaylorModels$Models", name := "copyFrom", desc := "(LTaylorModels$Models;)V" } : Jvm.MethodName)) ∈ FW := fw_ix 667 (by decide +kernel) rfl
theorem kw_622 : (Jvm.Cond.methodLink "TaylorModels" (88 : Nat) ({ cls := "TaylorModels$Models", name := "count", desc := "()I" } : Jvm.MethodName)) ∈ FW := fw_ix 668 (by decide +kernel) rfl
theorem kw_144 : (Jvm.Cond.fieldLink "TaylorModels" (72 : Nat) "TaylorModels$SetupText" "start" "I") ∈ FW := fw_ix 190 (by decide +kernel) rfl
theorem kw_185 : (Jvm.Cond.fieldLink "TaylorModels" (75 : Nat) "TaylorModels$SetupReader" "error" "I") ∈ FW := fw_ix 231 (by decide +kernel) rfl
theorem kw_66 : (Jvm.Cond.fieldLink "TaylorModels" (92 : Nat) "TaylorModels$Models" "mask" "I") ∈ FW := fw_ix 112 (by decide +kernel) rfl
theorem kw_644 : (Jvm.Cond.classLink "TaylorModels" (232 : Nat) "java/lang/IndexOutOfBoundsException") ∈ FW := fw_ix 690 (by decide +kernel) rfl
theorem kw_21 : (Jvm.Cond.initialized "java/lang/IndexOutOfBoundsException") ∈ FW := fw_ix 67 (by decide +kernel) rfl
theorem kw_263 : (Jvm.Cond.methodLink "TaylorModels" (212 : Nat) ({ cls := "TaylorModels$Models", name := "has", desc := "(I)Z" } : Jvm.MethodName)) ∈ FW := fw_ix 309 (by decide +kernel) rfl
theorem kw_63 : (Jvm.Cond.fieldLink "TaylorModels" (224 : Nat) "TaylorModels$Models" "rows" "[LTaylorModels$Model;") ∈ FW := fw_ix 109 (by decide +kernel) rfl
theorem kw_664 : (Jvm.Cond.classLink "TaylorModels" (237 : Nat) "java/util/NoSuchElementException") ∈ FW := fw_ix 710 (by decide +kernel) rfl
theorem kw_22 : (Jvm.Cond.initialized "java/util/NoSuchElementException") ∈ FW := fw_ix 68 (by decide +kernel) rfl
theorem kw_683 : (Jvm.Cond.methodLink "TaylorModels" (242 : Nat) ({ cls := "TaylorModels", name := "slotOf", desc := "(II)I" } : Jvm.MethodName)) ∈ FW := fw_ix 729 (by decide +kernel) rfl
theorem kw_641 : (Jvm.Cond.methodLink "TaylorModels" (95 : Nat) ({ cls := "TaylorModels", name := "requireIndex", desc := "(I)V" } : Jvm.MethodName)) ∈ FW := fw_ix 687 (by decide +kernel) rfl
theorem kw_660 : (Jvm.Cond.methodLink "TaylorModels" (98 : Nat) ({ cls := "TaylorModels", name := "requireDefined", desc := "(I)LTaylorModels$Model;" } : Jvm.MethodName)) ∈ FW := fw_ix 706 (by decide +kernel) rfl
theorem kw_680 : (Jvm.Cond.methodLink "TaylorModels" (102 : Nat) ({ cls := "TaylorModels", name := "requireSlot", desc := "(II)I" } : Jvm.MethodName)) ∈ FW := fw_ix 726 (by decide +kernel) rfl
theorem kw_685 : (Jvm.Cond.methodLink "TaylorModels" (106 : Nat) ({ cls := "TaylorModels$Model", name := "coefficientAt", desc := "(I)J" } : Jvm.MethodName)) ∈ FW := fw_ix 731 (by decide +kernel) rfl
theorem kw_696 : (Jvm.Cond.methodLink "TaylorModels" (110 : Nat) ({ cls := "TaylorModels", name := "requireZeroOrOne", desc := "(I)V" } : Jvm.MethodName)) ∈ FW := fw_ix 742 (by decide +kernel) rfl
theorem kw_52 : (Jvm.Cond.fieldLink "TaylorModels" (117 : Nat) "TaylorModels$Model" "high" "J") ∈ FW := fw_ix 98 (by decide +kernel) rfl
theorem kw_49 : (Jvm.Cond.fieldLink "TaylorModels" (113 : Nat) "TaylorModels$Model" "low" "J") ∈ FW := fw_ix 95 (by decide +kernel) rfl
theorem kw_711 : (Jvm.Cond.methodLink "TaylorModels" (124 : Nat) ({ cls := "TaylorModels$Model", name := "boundHigh", desc := "()J" } : Jvm.MethodName)) ∈ FW := fw_ix 757 (by decide +kernel) rfl
theorem kw_707 : (Jvm.Cond.methodLink "TaylorModels" (120 : Nat) ({ cls := "TaylorModels$Model", name := "boundLow", desc := "()J" } : Jvm.MethodName)) ∈ FW := fw_ix 753 (by decide +kernel) rfl
theorem kw_722 : (Jvm.Cond.constantLong "TaylorModels" (127 : Nat) (-1000 : Int64)) ∈ FW := fw_ix 768 (by decide +kernel) rfl
theorem kw_723 : (Jvm.Cond.constantLong "TaylorModels" (129 : Nat) (1000 : Int64)) ∈ FW := fw_ix 769 (by decide +kernel) rfl
theorem kw_724 : (Jvm.Cond.methodLink "TaylorModels" (131 : Nat) ({ cls := "TaylorModels", name := "requireBetween", desc := "(JJJ)V" } : Jvm.MethodName)) ∈ FW := fw_ix 770 (by decide +kernel) rfl
theorem kw_728 : (Jvm.Cond.methodLink "TaylorModels" (135 : Nat) ({ cls := "TaylorModels$Model", name := "valueInBillionths", desc := "(JJ)J" } : Jvm.MethodName)) ∈ FW := fw_ix 774 (by decide +kernel) rfl
theorem kw_734 : (Jvm.Cond.constantLong "TaylorModels" (139 : Nat) (1000000000 : Int64)) ∈ FW := fw_ix 780 (by decide +kernel) rfl
theorem kw_735 : (Jvm.Cond.methodLink "TaylorModels" (141 : Nat) ({ cls := "java/lang/Math", name := "floorDiv", desc := "(JJ)J" } : Jvm.MethodName)) ∈ FW := fw_ix 781 (by decide +kernel) rfl
theorem kw_743 : (Jvm.Cond.methodLink "TaylorModels" (146 : Nat) ({ cls := "TaylorModels$Model", name := "highestDegree", desc := "()I" } : Jvm.MethodName)) ∈ FW := fw_ix 789 (by decide +kernel) rfl
theorem kw_755 : (Jvm.Cond.methodLink "TaylorModels" (149 : Nat) ({ cls := "TaylorModels$Model", name := "contains", desc := "(LTaylorModels$Model;)Z" } : Jvm.MethodName)) ∈ FW := fw_ix 801 (by decide +kernel) rfl
theorem kw_768 : (Jvm.Cond.methodLink "TaylorModels" (153 : Nat) ({ cls := "TaylorModels$Model", name := "staysInSquare", desc := "()Z" } : Jvm.MethodName)) ∈ FW := fw_ix 814 (by decide +kernel) rfl
theorem kw_207 : (Jvm.Cond.fieldLink "TaylorModels" (26 : Nat) "TaylorModels" "arithmetic" "LTaylorModels$Arithmetic;") ∈ FW := fw_ix 253 (by decide +kernel) rfl
theorem kw_209 : (Jvm.Cond.fieldLink "TaylorModels" (40 : Nat) "TaylorModels" "result" "LTaylorModels$Model;") ∈ FW := fw_ix 255 (by decide +kernel) rfl
theorem kw_769 : (Jvm.Cond.methodLink "TaylorModels" (157 : Nat) ({ cls := "TaylorModels$Arithmetic", name := "composeModels", desc := "(LTaylorModels$Model;LTaylorModels$Model;LTaylorModels$Model;LTaylorModels$Model;)Z" } : Jvm.MethodName)) ∈ FW := fw_ix 815 (by decide +kernel) rfl
theorem kw_799 : (Jvm.Cond.methodLink "TaylorModels" (256 : Nat) ({ cls := "TaylorModels$Models", name := "define", desc := "(ILTaylorModels$Model;)V" } : Jvm.MethodName)) ∈ FW := fw_ix 845 (by decide +kernel) rfl
theorem kw_800 : (Jvm.Cond.methodLink "TaylorModels" (209 : Nat) ({ cls := "TaylorModels$Model", name := "width", desc := "()I" } : Jvm.MethodName)) ∈ FW := fw_ix 846 (by decide +kernel) rfl
theorem kw_783 : (Jvm.Cond.classLink "TaylorModels" (251 : Nat) "java/lang/IllegalStateException") ∈ FW := fw_ix 829 (by decide +kernel) rfl
theorem kw_23 : (Jvm.Cond.initialized "java/lang/IllegalStateException") ∈ FW := fw_ix 69 (by decide +kernel) rfl
theorem kw_778 : (Jvm.Cond.methodLink "TaylorModels" (161 : Nat) ({ cls := "TaylorModels$Arithmetic", name := "addModels", desc := "(LTaylorModels$Model;LTaylorModels$Model;LTaylorModels$Model;)Z" } : Jvm.MethodName)) ∈ FW := fw_ix 824 (by decide +kernel) rfl
theorem kw_779 : (Jvm.Cond.methodLink "TaylorModels" (165 : Nat) ({ cls := "TaylorModels", name := "settle", desc := "(IZ)I" } : Jvm.MethodName)) ∈ FW := fw_ix 825 (by decide +kernel) rfl
theorem kw_811 : (Jvm.Cond.methodLink "TaylorModels" (169 : Nat) ({ cls := "TaylorModels$Arithmetic", name := "subtractModels", desc := "(LTaylorModels$Model;LTaylorModels$Model;LTaylorModels$Model;)Z" } : Jvm.MethodName)) ∈ FW := fw_ix 857 (by decide +kernel) rfl
theorem kw_819 : (Jvm.Cond.methodLink "TaylorModels" (172 : Nat) ({ cls := "TaylorModels$Arithmetic", name := "multiplyModels", desc := "(LTaylorModels$Model;LTaylorModels$Model;LTaylorModels$Model;)Z" } : Jvm.MethodName)) ∈ FW := fw_ix 865 (by decide +kernel) rfl
theorem kw_834 : (Jvm.Cond.methodLink "TaylorModels" (175 : Nat) ({ cls := "TaylorModels$Arithmetic", name := "integrateModel", desc := "(LTaylorModels$Model;LTaylorModels$Model;I)Z" } : Jvm.MethodName)) ∈ FW := fw_ix 880 (by decide +kernel) rfl
theorem kw_842 : (Jvm.Cond.constantLong "TaylorModels" (179 : Nat) (20 : Int64)) ∈ FW := fw_ix 888 (by decide +kernel) rfl
theorem kw_843 : (Jvm.Cond.methodLink "TaylorModels" (181 : Nat) ({ cls := "TaylorModels$Arithmetic", name := "moveModels", desc := "(LTaylorModels$Model;LTaylorModels$Model;LTaylorModels$Model;LTaylorModels$Model;J)Z" } : Jvm.MethodName)) ∈ FW := fw_ix 889 (by decide +kernel) rfl
theorem kw_855 : (Jvm.Cond.methodLink "TaylorModels" (185 : Nat) ({ cls := "TaylorModels$Model", name := "copyFrom", desc := "(LTaylorModels$Model;)V" } : Jvm.MethodName)) ∈ FW := fw_ix 901 (by decide +kernel) rfl
theorem kw_856 : (Jvm.Cond.constantLong "TaylorModels" (188 : Nat) (100000000 : Int64)) ∈ FW := fw_ix 902 (by decide +kernel) rfl
theorem kw_857 : (Jvm.Cond.methodLink "TaylorModels" (190 : Nat) ({ cls := "TaylorModels$Model", name := "sweepUpTo", desc := "(J)I" } : Jvm.MethodName)) ∈ FW := fw_ix 903 (by decide +kernel) rfl
theorem kw_862 : (Jvm.Cond.methodLink "TaylorModels" (194 : Nat) ({ cls := "TaylorModels$Model", name := "fits", desc := "()Z" } : Jvm.MethodName)) ∈ FW := fw_ix 908 (by decide +kernel) rfl
theorem kw_870 : (Jvm.Cond.constantLong "TaylorModels" (197 : Nat) (2 : Int64)) ∈ FW := fw_ix 916 (by decide +kernel) rfl
theorem kw_871 : (Jvm.Cond.methodLink "TaylorModels" (199 : Nat) ({ cls := "TaylorModels$Model", name := "becomeConstant", desc := "(J)V" } : Jvm.MethodName)) ∈ FW := fw_ix 917 (by decide +kernel) rfl
theorem kw_872 : (Jvm.Cond.methodLink "TaylorModels" (203 : Nat) ({ cls := "TaylorModels$Model", name := "setCoefficientAt", desc := "(IJ)V" } : Jvm.MethodName)) ∈ FW := fw_ix 918 (by decide +kernel) rfl
theorem kw_880 : (Jvm.Cond.constantLong "TaylorModels" (207 : Nat) (-100000000 : Int64)) ∈ FW := fw_ix 926 (by decide +kernel) rfl
theorem kw_895 : (Jvm.Cond.methodLink "TaylorModels" (215 : Nat) ({ cls := "TaylorModels$Models", name := "remove", desc := "(I)V" } : Jvm.MethodName)) ∈ FW := fw_ix 941 (by decide +kernel) rfl
theorem kw_244 : (Jvm.Cond.methodLink "TaylorModels" (218 : Nat) ({ cls := "TaylorModels$History", name := "restore", desc := "(LTaylorModels$Models;)Z" } : Jvm.MethodName)) ∈ FW := fw_ix 290 (by decide +kernel) rfl
theorem kw_84 : (Jvm.Cond.fieldLink "TaylorModels" (222 : Nat) "TaylorModels$History" "count" "I") ∈ FW := fw_ix 130 (by decide +kernel) rfl
theorem kw_267 : (Jvm.Cond.methodLink "TaylorModels" (228 : Nat) ({ cls := "TaylorModels$Model", name := "addToChecksum", desc := "(J)J" } : Jvm.MethodName)) ∈ FW := fw_ix 313 (by decide +kernel) rfl
theorem kw_909 : (Jvm.Cond.fieldLink "TaylorModelsModel" (79 : Nat) "TaylorModelsModel" "thrown" "I") ∈ FW := fw_ix 955 (by decide +kernel) rfl
theorem kw_1119 : (Jvm.Cond.methodLink "TaylorModelsModel" (82 : Nat) ({ cls := "TaylorModelsModel", name := "down", desc := "(JJ)J" } : Jvm.MethodName)) ∈ FW := fw_ix 1165 (by decide +kernel) rfl
theorem kw_1116 : (Jvm.Cond.methodLink "TaylorModelsModel" (86 : Nat) ({ cls := "TaylorModelsModel", name := "smaller", desc := "(JJ)J" } : Jvm.MethodName)) ∈ FW := fw_ix 1162 (by decide +kernel) rfl
theorem kw_1113 : (Jvm.Cond.methodLink "TaylorModelsModel" (89 : Nat) ({ cls := "TaylorModelsModel", name := "low", desc := "(JII)J" } : Jvm.MethodName)) ∈ FW := fw_ix 1159 (by decide +kernel) rfl
theorem kw_1107 : (Jvm.Cond.methodLink "TaylorModelsModel" (93 : Nat) ({ cls := "TaylorModelsModel", name := "iOf", desc := "(I)I" } : Jvm.MethodName)) ∈ FW := fw_ix 1153 (by decide +kernel) rfl
theorem kw_1110 : (Jvm.Cond.methodLink "TaylorModelsModel" (97 : Nat) ({ cls := "TaylorModelsModel", name := "jOf", desc := "(I)I" } : Jvm.MethodName)) ∈ FW := fw_ix 1156 (by decide +kernel) rfl
theorem kw_1122 : (Jvm.Cond.methodLink "TaylorModelsModel" (100 : Nat) ({ cls := "TaylorModelsModel", name := "high", desc := "(JII)J" } : Jvm.MethodName)) ∈ FW := fw_ix 1168 (by decide +kernel) rfl
theorem kw_1134 : (Jvm.Cond.constantLong "TaylorModelsModel" (103 : Nat) (-100000000 : Int64)) ∈ FW := fw_ix 1180 (by decide +kernel) rfl
theorem kw_1135 : (Jvm.Cond.constantLong "TaylorModelsModel" (105 : Nat) (100000000 : Int64)) ∈ FW := fw_ix 1181 (by decide +kernel) rfl
theorem kw_1158 : (Jvm.Cond.methodLink "TaylorModelsModel" (107 : Nat) ({ cls := "TaylorModelsModel", name := "spreadLow", desc := "([J)J" } : Jvm.MethodName)) ∈ FW := fw_ix 1204 (by decide +kernel) rfl
theorem kw_1161 : (Jvm.Cond.constantLong "TaylorModelsModel" (111 : Nat) (-1000 : Int64)) ∈ FW := fw_ix 1207 (by decide +kernel) rfl
theorem kw_1162 : (Jvm.Cond.methodLink "TaylorModelsModel" (113 : Nat) ({ cls := "TaylorModelsModel", name := "spreadHigh", desc := "([J)J" } : Jvm.MethodName)) ∈ FW := fw_ix 1208 (by decide +kernel) rfl
theorem kw_1096 : (Jvm.Cond.constantLong "TaylorModelsModel" (116 : Nat) (1000 : Int64)) ∈ FW := fw_ix 1142 (by decide +kernel) rfl
theorem kw_1131 : (Jvm.Cond.methodLink "TaylorModelsModel" (118 : Nat) ({ cls := "TaylorModelsModel", name := "isSmall", desc := "([J)Z" } : Jvm.MethodName)) ∈ FW := fw_ix 1177 (by decide +kernel) rfl
theorem kw_1128 : (Jvm.Cond.methodLink "TaylorModelsModel" (122 : Nat) ({ cls := "TaylorModelsModel", name := "greater", desc := "(JJ)J" } : Jvm.MethodName)) ∈ FW := fw_ix 1174 (by decide +kernel) rfl
theorem kw_921 : (Jvm.Cond.fieldLink "TaylorModelsModel" (28 : Nat) "TaylorModelsModel" "products" "[J") ∈ FW := fw_ix 967 (by decide +kernel) rfl
theorem kw_1169 : (Jvm.Cond.methodLink "TaylorModelsModel" (125 : Nat) ({ cls := "TaylorModelsModel", name := "layProducts", desc := "([J[J)V" } : Jvm.MethodName)) ∈ FW := fw_ix 1215 (by decide +kernel) rfl
theorem kw_922 : (Jvm.Cond.fieldLink "TaylorModelsModel" (32 : Nat) "TaylorModelsModel" "product" "[J") ∈ FW := fw_ix 968 (by decide +kernel) rfl
theorem kw_1066 : (Jvm.Cond.methodLink "TaylorModelsModel" (129 : Nat) ({ cls := "TaylorModelsModel", name := "clearRow", desc := "([J)V" } : Jvm.MethodName)) ∈ FW := fw_ix 1112 (by decide +kernel) rfl
theorem kw_1093 : (Jvm.Cond.methodLink "TaylorModelsModel" (133 : Nat) ({ cls := "TaylorModelsModel", name := "place", desc := "(II)I" } : Jvm.MethodName)) ∈ FW := fw_ix 1139 (by decide +kernel) rfl
theorem kw_1173 : (Jvm.Cond.methodLink "TaylorModelsModel" (137 : Nat) ({ cls := "TaylorModelsModel", name := "leastProduct", desc := "(JJJJ)J" } : Jvm.MethodName)) ∈ FW := fw_ix 1219 (by decide +kernel) rfl
theorem kw_1176 : (Jvm.Cond.methodLink "TaylorModelsModel" (141 : Nat) ({ cls := "TaylorModelsModel", name := "greatestProduct", desc := "(JJJJ)J" } : Jvm.MethodName)) ∈ FW := fw_ix 1222 (by decide +kernel) rfl
theorem kw_1125 : (Jvm.Cond.methodLink "TaylorModelsModel" (144 : Nat) ({ cls := "TaylorModelsModel", name := "up", desc := "(JJ)J" } : Jvm.MethodName)) ∈ FW := fw_ix 1171 (by decide +kernel) rfl
theorem kw_1089 : (Jvm.Cond.methodLink "TaylorModelsModel" (147 : Nat) ({ cls := "TaylorModelsModel", name := "copyRow", desc := "([J[J)V" } : Jvm.MethodName)) ∈ FW := fw_ix 1135 (by decide +kernel) rfl
theorem kw_1155 : (Jvm.Cond.methodLink "TaylorModelsModel" (150 : Nat) ({ cls := "TaylorModelsModel", name := "isWithin", desc := "([J)Z" } : Jvm.MethodName)) ∈ FW := fw_ix 1201 (by decide +kernel) rfl
theorem kw_923 : (Jvm.Cond.fieldLink "TaylorModelsModel" (35 : Nat) "TaylorModelsModel" "composed" "[J") ∈ FW := fw_ix 969 (by decide +kernel) rfl
theorem kw_924 : (Jvm.Cond.fieldLink "TaylorModelsModel" (38 : Nat) "TaylorModelsModel" "power" "[J") ∈ FW := fw_ix 970 (by decide +kernel) rfl
theorem kw_1165 : (Jvm.Cond.methodLink "TaylorModelsModel" (153 : Nat) ({ cls := "TaylorModelsModel", name := "productOf", desc := "([J[J[J)Z" } : Jvm.MethodName)) ∈ FW := fw_ix 1211 (by decide +kernel) rfl
theorem kw_1179 : (Jvm.Cond.methodLink "TaylorModelsModel" (157 : Nat) ({ cls := "TaylorModelsModel", name := "sumOf", desc := "([J[JI[J)Z" } : Jvm.MethodName)) ∈ FW := fw_ix 1225 (by decide +kernel) rfl
theorem kw_925 : (Jvm.Cond.fieldLink "TaylorModelsModel" (41 : Nat) "TaylorModelsModel" "integral" "[J") ∈ FW := fw_ix 971 (by decide +kernel) rfl
theorem kw_911 : (Jvm.Cond.fieldLink "TaylorModelsModel" (161 : Nat) "TaylorModelsModel" "bufferLength" "I") ∈ FW := fw_ix 957 (by decide +kernel) rfl
theorem kw_910 : (Jvm.Cond.fieldLink "TaylorModelsModel" (9 : Nat) "TaylorModelsModel" "buffer" "[I") ∈ FW := fw_ix 956 (by decide +kernel) rfl
theorem kw_912 : (Jvm.Cond.fieldLink "TaylorModelsModel" (164 : Nat) "TaylorModelsModel" "textLength" "I") ∈ FW := fw_ix 958 (by decide +kernel) rfl
theorem kw_913 : (Jvm.Cond.fieldLink "TaylorModelsModel" (167 : Nat) "TaylorModelsModel" "position" "I") ∈ FW := fw_ix 959 (by decide +kernel) rfl
theorem kw_1032 : (Jvm.Cond.methodLink "TaylorModelsModel" (170 : Nat) ({ cls := "TaylorModelsModel", name := "byteAt", desc := "(I)I" } : Jvm.MethodName)) ∈ FW := fw_ix 1078 (by decide +kernel) rfl
theorem kw_914 : (Jvm.Cond.fieldLink "TaylorModelsModel" (173 : Nat) "TaylorModelsModel" "error" "I") ∈ FW := fw_ix 960 (by decide +kernel) rfl
theorem kw_915 : (Jvm.Cond.fieldLink "TaylorModelsModel" (176 : Nat) "TaylorModelsModel" "errorAt" "I") ∈ FW := fw_ix 961 (by decide +kernel) rfl
theorem kw_1012 : (Jvm.Cond.methodLink "TaylorModelsModel" (179 : Nat) ({ cls := "TaylorModelsModel", name := "in", desc := "(III)Z" } : Jvm.MethodName)) ∈ FW := fw_ix 1058 (by decide +kernel) rfl
theorem kw_1024 : (Jvm.Cond.methodLink "TaylorModelsModel" (183 : Nat) ({ cls := "TaylorModelsModel", name := "isGood", desc := "()Z" } : Jvm.MethodName)) ∈ FW := fw_ix 1070 (by decide +kernel) rfl
theorem kw_1028 : (Jvm.Cond.methodLink "TaylorModelsModel" (187 : Nat) ({ cls := "TaylorModelsModel", name := "next", desc := "()I" } : Jvm.MethodName)) ∈ FW := fw_ix 1074 (by decide +kernel) rfl
theorem kw_1036 : (Jvm.Cond.methodLink "TaylorModelsModel" (191 : Nat) ({ cls := "java/lang/String", name := "length", desc := "()I" } : Jvm.MethodName)) ∈ FW := fw_ix 1082 (by decide +kernel) rfl
theorem kw_1037 : (Jvm.Cond.methodLink "TaylorModelsModel" (196 : Nat) ({ cls := "java/lang/String", name := "charAt", desc := "(I)C" } : Jvm.MethodName)) ∈ FW := fw_ix 1083 (by decide +kernel) rfl
theorem kw_1038 : (Jvm.Cond.methodLink "TaylorModelsModel" (200 : Nat) ({ cls := "TaylorModelsModel", name := "report", desc := "(II)V" } : Jvm.MethodName)) ∈ FW := fw_ix 1084 (by decide +kernel) rfl
theorem kw_1069 : (Jvm.Cond.methodLink "TaylorModelsModel" (204 : Nat) ({ cls := "TaylorModelsModel", name := "isDigit", desc := "(I)Z" } : Jvm.MethodName)) ∈ FW := fw_ix 1115 (by decide +kernel) rfl
theorem kw_926 : (Jvm.Cond.fieldLink "TaylorModelsModel" (208 : Nat) "TaylorModelsModel" "numberStart" "I") ∈ FW := fw_ix 972 (by decide +kernel) rfl
theorem kw_1077 : (Jvm.Cond.constant "TaylorModelsModel" (211 : Nat) (1000000 : Int32)) ∈ FW := fw_ix 1123 (by decide +kernel) rfl
theorem kw_1078 : (Jvm.Cond.methodLink "TaylorModelsModel" (212 : Nat) ({ cls := "TaylorModelsModel", name := "min", desc := "(II)I" } : Jvm.MethodName)) ∈ FW := fw_ix 1124 (by decide +kernel) rfl
theorem kw_932 : (Jvm.Cond.fieldLink "TaylorModelsModel" (215 : Nat) "TaylorModelsModel" "nesting" "I") ∈ FW := fw_ix 978 (by decide +kernel) rfl
theorem kw_1042 : (Jvm.Cond.methodLink "TaylorModelsModel" (218 : Nat) ({ cls := "TaylorModelsModel", name := "expect", desc := "(I)V" } : Jvm.MethodName)) ∈ FW := fw_ix 1088 (by decide +kernel) rfl
theorem kw_1081 : (Jvm.Cond.methodLink "TaylorModelsModel" (230 : Nat) ({ cls := "TaylorModelsModel", name := "open", desc := "(I)V" } : Jvm.MethodName)) ∈ FW := fw_ix 1127 (by decide +kernel) rfl
theorem kw_1054 : (Jvm.Cond.methodLink "TaylorModelsModel" (233 : Nat) ({ cls := "TaylorModelsModel", name := "sum", desc := "(I)V" } : Jvm.MethodName)) ∈ FW := fw_ix 1100 (by decide +kernel) rfl
theorem kw_1085 : (Jvm.Cond.methodLink "TaylorModelsModel" (236 : Nat) ({ cls := "TaylorModelsModel", name := "close", desc := "(I)V" } : Jvm.MethodName)) ∈ FW := fw_ix 1131 (by decide +kernel) rfl
theorem kw_927 : (Jvm.Cond.fieldLink "TaylorModelsModel" (46 : Nat) "TaylorModelsModel" "sums" "[[J") ∈ FW := fw_ix 973 (by decide +kernel) rfl
theorem kw_929 : (Jvm.Cond.fieldLink "TaylorModelsModel" (52 : Nat) "TaylorModelsModel" "factors" "[[J") ∈ FW := fw_ix 975 (by decide +kernel) rfl
theorem kw_1103 : (Jvm.Cond.methodLink "TaylorModelsModel" (247 : Nat) ({ cls := "TaylorModelsModel", name := "integralOf", desc := "([JI[J)Z" } : Jvm.MethodName)) ∈ FW := fw_ix 1149 (by decide +kernel) rfl
theorem kw_1136 : (Jvm.Cond.methodLink "TaylorModelsModel" (243 : Nat) ({ cls := "TaylorModelsModel", name := "refuse", desc := "(Z)V" } : Jvm.MethodName)) ∈ FW := fw_ix 1182 (by decide +kernel) rfl
theorem kw_918 : (Jvm.Cond.fieldLink "TaylorModelsModel" (20 : Nat) "TaylorModelsModel" "draft" "[I") ∈ FW := fw_ix 964 (by decide +kernel) rfl
theorem kw_1145 : (Jvm.Cond.methodLink "TaylorModelsModel" (222 : Nat) ({ cls := "TaylorModelsModel", name := "isDefined", desc := "([II)Z" } : Jvm.MethodName)) ∈ FW := fw_ix 1191 (by decide +kernel) rfl
theorem kw_930 : (Jvm.Cond.fieldLink "TaylorModelsModel" (55 : Nat) "TaylorModelsModel" "firsts" "[[J") ∈ FW := fw_ix 976 (by decide +kernel) rfl
theorem kw_931 : (Jvm.Cond.fieldLink "TaylorModelsModel" (58 : Nat) "TaylorModelsModel" "named" "[J") ∈ FW := fw_ix 977 (by decide +kernel) rfl
theorem kw_1148 : (Jvm.Cond.methodLink "TaylorModelsModel" (226 : Nat) ({ cls := "TaylorModelsModel", name := "take", desc := "([II[J)V" } : Jvm.MethodName)) ∈ FW := fw_ix 1194 (by decide +kernel) rfl
theorem kw_1151 : (Jvm.Cond.methodLink "TaylorModelsModel" (239 : Nat) ({ cls := "TaylorModelsModel", name := "compositionOf", desc := "([J[J[J[J)I" } : Jvm.MethodName)) ∈ FW := fw_ix 1197 (by decide +kernel) rfl
theorem kw_1020 : (Jvm.Cond.methodLink "TaylorModelsModel" (257 : Nat) ({ cls := "TaylorModelsModel", name := "takeWord", desc := "(Ljava/lang/String;)Z" } : Jvm.MethodName)) ∈ FW := fw_ix 1066 (by decide +kernel) rfl
theorem kw_1050 : (Jvm.Cond.methodLink "TaylorModelsModel" (270 : Nat) ({ cls := "TaylorModelsModel", name := "takeName", desc := "()I" } : Jvm.MethodName)) ∈ FW := fw_ix 1096 (by decide +kernel) rfl
theorem kw_1141 : (Jvm.Cond.methodLink "TaylorModelsModel" (273 : Nat) ({ cls := "TaylorModelsModel", name := "readNamed", desc := "(III)V" } : Jvm.MethodName)) ∈ FW := fw_ix 1187 (by decide +kernel) rfl
theorem kw_1099 : (Jvm.Cond.methodLink "TaylorModelsModel" (265 : Nat) ({ cls := "TaylorModelsModel", name := "readIntegral", desc := "(II)V" } : Jvm.MethodName)) ∈ FW := fw_ix 1145 (by decide +kernel) rfl
theorem kw_1072 : (Jvm.Cond.constant "TaylorModelsModel" (251 : Nat) (100000 : Int32)) ∈ FW := fw_ix 1118 (by decide +kernel) rfl
theorem kw_1073 : (Jvm.Cond.methodLink "TaylorModelsModel" (252 : Nat) ({ cls := "TaylorModelsModel", name := "number", desc := "(II)I" } : Jvm.MethodName)) ∈ FW := fw_ix 1119 (by decide +kernel) rfl
theorem kw_1062 : (Jvm.Cond.methodLink "TaylorModelsModel" (277 : Nat) ({ cls := "TaylorModelsModel", name := "factor", desc := "(I)V" } : Jvm.MethodName)) ∈ FW := fw_ix 1108 (by decide +kernel) rfl
theorem kw_928 : (Jvm.Cond.fieldLink "TaylorModelsModel" (49 : Nat) "TaylorModelsModel" "terms" "[[J") ∈ FW := fw_ix 974 (by decide +kernel) rfl
theorem kw_1058 : (Jvm.Cond.methodLink "TaylorModelsModel" (280 : Nat) ({ cls := "TaylorModelsModel", name := "term", desc := "(I)V" } : Jvm.MethodName)) ∈ FW := fw_ix 1104 (by decide +kernel) rfl
theorem kw_1182 : (Jvm.Cond.methodLink "TaylorModelsModel" (283 : Nat) ({ cls := "TaylorModelsModel", name := "give", desc := "([J[II)V" } : Jvm.MethodName)) ∈ FW := fw_ix 1228 (by decide +kernel) rfl
theorem kw_920 : (Jvm.Cond.fieldLink "TaylorModelsModel" (322 : Nat) "TaylorModelsModel" "undoDepth" "I") ∈ FW := fw_ix 966 (by decide +kernel) rfl
theorem kw_917 : (Jvm.Cond.fieldLink "TaylorModelsModel" (17 : Nat) "TaylorModelsModel" "data" "[I") ∈ FW := fw_ix 963 (by decide +kernel) rfl
theorem kw_919 : (Jvm.Cond.fieldLink "TaylorModelsModel" (25 : Nat) "TaylorModelsModel" "history" "[[I") ∈ FW := fw_ix 965 (by decide +kernel) rfl
theorem kw_1189 : (Jvm.Cond.methodLink "TaylorModelsModel" (299 : Nat) ({ cls := "TaylorModelsModel", name := "copy", desc := "([I[I)V" } : Jvm.MethodName)) ∈ FW := fw_ix 1235 (by decide +kernel) rfl
theorem kw_1015 : (Jvm.Cond.methodLink "TaylorModelsModel" (287 : Nat) ({ cls := "TaylorModelsModel", name := "fails", desc := "(ZI)Z" } : Jvm.MethodName)) ∈ FW := fw_ix 1061 (by decide +kernel) rfl
theorem kw_1046 : (Jvm.Cond.methodLink "TaylorModelsModel" (293 : Nat) ({ cls := "TaylorModelsModel", name := "statement", desc := "()V" } : Jvm.MethodName)) ∈ FW := fw_ix 1092 (by decide +kernel) rfl
theorem kw_916 : (Jvm.Cond.fieldLink "TaylorModelsModel" (13 : Nat) "TaylorModelsModel" "errorOffset" "I") ∈ FW := fw_ix 962 (by decide +kernel) rfl
theorem kw_1185 : (Jvm.Cond.methodLink "TaylorModelsModel" (296 : Nat) ({ cls := "TaylorModelsModel", name := "remember", desc := "()V" } : Jvm.MethodName)) ∈ FW := fw_ix 1231 (by decide +kernel) rfl
theorem kw_1208 : (Jvm.Cond.methodLink "TaylorModelsModel" (303 : Nat) ({ cls := "TaylorModelsModel", name := "noIndex", desc := "(I)Z" } : Jvm.MethodName)) ∈ FW := fw_ix 1254 (by decide +kernel) rfl
theorem kw_1204 : (Jvm.Cond.methodLink "TaylorModelsModel" (306 : Nat) ({ cls := "TaylorModelsModel", name := "noModel", desc := "(I)Z" } : Jvm.MethodName)) ∈ FW := fw_ix 1250 (by decide +kernel) rfl
theorem kw_933 : (Jvm.Cond.fieldLink "TaylorModelsModel" (61 : Nat) "TaylorModelsModel" "one" "[J") ∈ FW := fw_ix 979 (by decide +kernel) rfl
theorem kw_934 : (Jvm.Cond.fieldLink "TaylorModelsModel" (64 : Nat) "TaylorModelsModel" "two" "[J") ∈ FW := fw_ix 980 (by decide +kernel) rfl
theorem kw_1212 : (Jvm.Cond.methodLink "TaylorModelsModel" (309 : Nat) ({ cls := "TaylorModelsModel", name := "isPlace", desc := "(II)Z" } : Jvm.MethodName)) ∈ FW := fw_ix 1258 (by decide +kernel) rfl
theorem kw_1227 : (Jvm.Cond.methodLink "TaylorModelsModel" (313 : Nat) ({ cls := "TaylorModelsModel", name := "power", desc := "(JI)J" } : Jvm.MethodName)) ∈ FW := fw_ix 1273 (by decide +kernel) rfl
theorem kw_1238 : (Jvm.Cond.methodLink "TaylorModelsModel" (316 : Nat) ({ cls := "TaylorModelsModel", name := "noPair", desc := "(II)Z" } : Jvm.MethodName)) ∈ FW := fw_ix 1284 (by decide +kernel) rfl
theorem kw_935 : (Jvm.Cond.fieldLink "TaylorModelsModel" (67 : Nat) "TaylorModelsModel" "three" "[J") ∈ FW := fw_ix 981 (by decide +kernel) rfl
theorem kw_1246 : (Jvm.Cond.methodLink "TaylorModelsModel" (319 : Nat) ({ cls := "TaylorModelsModel", name := "noThree", desc := "(III)Z" } : Jvm.MethodName)) ∈ FW := fw_ix 1292 (by decide +kernel) rfl
theorem kw_936 : (Jvm.Cond.fieldLink "TaylorModelsModel" (70 : Nat) "TaylorModelsModel" "result" "[J") ∈ FW := fw_ix 982 (by decide +kernel) rfl
theorem kw_1254 : (Jvm.Cond.methodLink "TaylorModelsModel" (325 : Nat) ({ cls := "TaylorModelsModel", name := "becomes", desc := "(I)I" } : Jvm.MethodName)) ∈ FW := fw_ix 1300 (by decide +kernel) rfl
theorem kw_937 : (Jvm.Cond.fieldLink "TaylorModelsModel" (73 : Nat) "TaylorModelsModel" "nextX" "[J") ∈ FW := fw_ix 983 (by decide +kernel) rfl
theorem kw_1278 : (Jvm.Cond.methodLink "TaylorModelsModel" (328 : Nat) ({ cls := "TaylorModelsModel", name := "stepOf", desc := "(III[J)Z" } : Jvm.MethodName)) ∈ FW := fw_ix 1324 (by decide +kernel) rfl
theorem kw_938 : (Jvm.Cond.fieldLink "TaylorModelsModel" (76 : Nat) "TaylorModelsModel" "nextY" "[J") ∈ FW := fw_ix 984 (by decide +kernel) rfl
theorem kw_1286 : (Jvm.Cond.constant "TaylorModelsModel" (332 : Nat) (100000000 : Int32)) ∈ FW := fw_ix 1332 (by decide +kernel) rfl
theorem kw_1291 : (Jvm.Cond.constantLong "TaylorModelsModel" (333 : Nat) (2 : Int64)) ∈ FW := fw_ix 1337 (by decide +kernel) rfl
theorem kw_1296 : (Jvm.Cond.methodLink "TaylorModelsModel" (335 : Nat) ({ cls := "TaylorModelsModel", name := "isValue", desc := "(I)Z" } : Jvm.MethodName)) ∈ FW := fw_ix 1342 (by decide +kernel) rfl
theorem kw_1315 : (Jvm.Cond.constantLong "TaylorModelsModel" (338 : Nat) (31 : Int64)) ∈ FW := fw_ix 1361 (by decide +kernel) rfl
theorem kw_44 : (Jvm.Cond.methodLink "TaylorModels$Model" (3 : Nat) ({ cls := "java/lang/Object", name := "<init>", desc := "()V" } : Jvm.MethodName)) ∈ FW := fw_ix 90 (by decide +kernel) rfl
theorem kw_30 : (Jvm.Cond.instanceMethod ({ cls := "java/lang/Object", name := "<init>", desc := "()V" } : Jvm.MethodName)) ∈ FW := fw_ix 76 (by decide +kernel) rfl
theorem kw_31 : (Jvm.Cond.code ({ cls := "java/lang/Object", name := "<init>", desc := "()V" } : Jvm.MethodName) object_method_1_code (1 : Nat) (Option.none : Option Jvm.ClassFile.FieldType)) ∈ FW := fw_ix 77 (by decide +kernel) rfl
theorem kw_37 : (Jvm.Cond.methodLink "TaylorModels$Models" (3 : Nat) ({ cls := "java/lang/Object", name := "<init>", desc := "()V" } : Jvm.MethodName)) ∈ FW := fw_ix 83 (by decide +kernel) rfl
theorem kw_38 : (Jvm.Cond.classLink "TaylorModels$Models" (9 : Nat) "TaylorModels$Model") ∈ FW := fw_ix 84 (by decide +kernel) rfl
theorem kw_40 : (Jvm.Cond.instantiable "TaylorModels$Model" (3 : Nat)) ∈ FW := fw_ix 86 (by decide +kernel) rfl
theorem kw_3 : (Jvm.Cond.initialized "TaylorModels$Model") ∈ FW := fw_ix 49 (by decide +kernel) rfl
theorem kw_41 : (Jvm.Cond.methodLinkNest "TaylorModels$Models" (17 : Nat) ({ cls := "TaylorModels$Model", name := "<init>", desc := "()V" } : Jvm.MethodName) "TaylorModels") ∈ FW := fw_ix 87 (by decide +kernel) rfl
theorem kw_77 : (Jvm.Cond.methodLink "TaylorModels$History" (3 : Nat) ({ cls := "java/lang/Object", name := "<init>", desc := "()V" } : Jvm.MethodName)) ∈ FW := fw_ix 123 (by decide +kernel) rfl
theorem kw_78 : (Jvm.Cond.classLink "TaylorModels$History" (9 : Nat) "TaylorModels$Models") ∈ FW := fw_ix 124 (by decide +kernel) rfl
theorem kw_33 : (Jvm.Cond.instantiable "TaylorModels$Models" (2 : Nat)) ∈ FW := fw_ix 79 (by decide +kernel) rfl
theorem kw_2 : (Jvm.Cond.initialized "TaylorModels$Models") ∈ FW := fw_ix 48 (by decide +kernel) rfl
theorem kw_80 : (Jvm.Cond.methodLink "TaylorModels$History" (17 : Nat) ({ cls := "TaylorModels$Models", name := "<init>", desc := "()V" } : Jvm.MethodName)) ∈ FW := fw_ix 126 (by decide +kernel) rfl
theorem kw_97 : (Jvm.Cond.methodLink "TaylorModels$Arithmetic" (3 : Nat) ({ cls := "java/lang/Object", name := "<init>", desc := "()V" } : Jvm.MethodName)) ∈ FW := fw_ix 143 (by decide +kernel) rfl
theorem kw_98 : (Jvm.Cond.classLink "TaylorModels$Arithmetic" (15 : Nat) "TaylorModels$Model") ∈ FW := fw_ix 144 (by decide +kernel) rfl
theorem kw_99 : (Jvm.Cond.methodLinkNest "TaylorModels$Arithmetic" (17 : Nat) ({ cls := "TaylorModels$Model", name := "<init>", desc := "()V" } : Jvm.MethodName) "TaylorModels") ∈ FW := fw_ix 145 (by decide +kernel) rfl
theorem kw_136 : (Jvm.Cond.methodLink "TaylorModels$SetupText" (3 : Nat) ({ cls := "java/lang/Object", name := "<init>", desc := "()V" } : Jvm.MethodName)) ∈ FW := fw_ix 182 (by decide +kernel) rfl
theorem kw_130 : (Jvm.Cond.methodLink "TaylorModels$SetupReader" (5 : Nat) ({ cls := "java/lang/Object", name := "<init>", desc := "()V" } : Jvm.MethodName)) ∈ FW := fw_ix 176 (by decide +kernel) rfl
theorem kw_131 : (Jvm.Cond.classLink "TaylorModels$SetupReader" (11 : Nat) "TaylorModels$SetupText") ∈ FW := fw_ix 177 (by decide +kernel) rfl
theorem kw_132 : (Jvm.Cond.instantiable "TaylorModels$SetupText" (9 : Nat)) ∈ FW := fw_ix 178 (by decide +kernel) rfl
theorem kw_7 : (Jvm.Cond.initialized "TaylorModels$SetupText") ∈ FW := fw_ix 53 (by decide +kernel) rfl
theorem kw_133 : (Jvm.Cond.methodLinkNest "TaylorModels$SetupReader" (13 : Nat) ({ cls := "TaylorModels$SetupText", name := "<init>", desc := "()V" } : Jvm.MethodName) "TaylorModels") ∈ FW := fw_ix 179 (by decide +kernel) rfl
theorem kw_169 : (Jvm.Cond.classLink "TaylorModels$SetupReader" (18 : Nat) "TaylorModels$Models") ∈ FW := fw_ix 215 (by decide +kernel) rfl
theorem kw_170 : (Jvm.Cond.methodLink "TaylorModels$SetupReader" (20 : Nat) ({ cls := "TaylorModels$Models", name := "<init>", desc := "()V" } : Jvm.MethodName)) ∈ FW := fw_ix 216 (by decide +kernel) rfl
theorem kw_171 : (Jvm.Cond.classLink "TaylorModels$SetupReader" (25 : Nat) "TaylorModels$Arithmetic") ∈ FW := fw_ix 217 (by decide +kernel) rfl
theorem kw_93 : (Jvm.Cond.instantiable "TaylorModels$Arithmetic" (8 : Nat)) ∈ FW := fw_ix 139 (by decide +kernel) rfl
theorem kw_5 : (Jvm.Cond.initialized "TaylorModels$Arithmetic") ∈ FW := fw_ix 51 (by decide +kernel) rfl
theorem kw_172 : (Jvm.Cond.methodLinkNest "TaylorModels$SetupReader" (27 : Nat) ({ cls := "TaylorModels$Arithmetic", name := "<init>", desc := "()V" } : Jvm.MethodName) "TaylorModels") ∈ FW := fw_ix 218 (by decide +kernel) rfl
theorem kw_173 : (Jvm.Cond.classLink "TaylorModels$SetupReader" (32 : Nat) "TaylorModels$Model") ∈ FW := fw_ix 219 (by decide +kernel) rfl
theorem kw_174 : (Jvm.Cond.methodLinkNest "TaylorModels$SetupReader" (47 : Nat) ({ cls := "TaylorModels$Model", name := "<init>", desc := "()V" } : Jvm.MethodName) "TaylorModels") ∈ FW := fw_ix 220 (by decide +kernel) rfl
theorem kw_29 : (Jvm.Cond.methodLink "TaylorModels" (1 : Nat) ({ cls := "java/lang/Object", name := "<init>", desc := "()V" } : Jvm.MethodName)) ∈ FW := fw_ix 75 (by decide +kernel) rfl
theorem kw_32 : (Jvm.Cond.classLink "TaylorModels" (7 : Nat) "TaylorModels$Models") ∈ FW := fw_ix 78 (by decide +kernel) rfl
theorem kw_34 : (Jvm.Cond.methodLink "TaylorModels" (9 : Nat) ({ cls := "TaylorModels$Models", name := "<init>", desc := "()V" } : Jvm.MethodName)) ∈ FW := fw_ix 80 (by decide +kernel) rfl
theorem kw_72 : (Jvm.Cond.classLink "TaylorModels" (16 : Nat) "TaylorModels$History") ∈ FW := fw_ix 118 (by decide +kernel) rfl
theorem kw_73 : (Jvm.Cond.instantiable "TaylorModels$History" (3 : Nat)) ∈ FW := fw_ix 119 (by decide +kernel) rfl
theorem kw_4 : (Jvm.Cond.initialized "TaylorModels$History") ∈ FW := fw_ix 50 (by decide +kernel) rfl
theorem kw_74 : (Jvm.Cond.methodLink "TaylorModels" (18 : Nat) ({ cls := "TaylorModels$History", name := "<init>", desc := "()V" } : Jvm.MethodName)) ∈ FW := fw_ix 120 (by decide +kernel) rfl
theorem kw_92 : (Jvm.Cond.classLink "TaylorModels" (23 : Nat) "TaylorModels$Arithmetic") ∈ FW := fw_ix 138 (by decide +kernel) rfl
theorem kw_94 : (Jvm.Cond.methodLinkNest "TaylorModels" (25 : Nat) ({ cls := "TaylorModels$Arithmetic", name := "<init>", desc := "()V" } : Jvm.MethodName) "TaylorModels") ∈ FW := fw_ix 140 (by decide +kernel) rfl
theorem kw_125 : (Jvm.Cond.classLink "TaylorModels" (30 : Nat) "TaylorModels$SetupReader") ∈ FW := fw_ix 171 (by decide +kernel) rfl
theorem kw_126 : (Jvm.Cond.instantiable "TaylorModels$SetupReader" (8 : Nat)) ∈ FW := fw_ix 172 (by decide +kernel) rfl
theorem kw_6 : (Jvm.Cond.initialized "TaylorModels$SetupReader") ∈ FW := fw_ix 52 (by decide +kernel) rfl
theorem kw_127 : (Jvm.Cond.methodLink "TaylorModels" (32 : Nat) ({ cls := "TaylorModels$SetupReader", name := "<init>", desc := "()V" } : Jvm.MethodName)) ∈ FW := fw_ix 173 (by decide +kernel) rfl
theorem kw_203 : (Jvm.Cond.classLink "TaylorModels" (37 : Nat) "TaylorModels$Model") ∈ FW := fw_ix 249 (by decide +kernel) rfl
theorem kw_204 : (Jvm.Cond.methodLinkNest "TaylorModels" (39 : Nat) ({ cls := "TaylorModels$Model", name := "<init>", desc := "()V" } : Jvm.MethodName) "TaylorModels") ∈ FW := fw_ix 250 (by decide +kernel) rfl
theorem kw_904 : (Jvm.Cond.methodLink "TaylorModelsModel" (3 : Nat) ({ cls := "java/lang/Object", name := "<init>", desc := "()V" } : Jvm.MethodName)) ∈ FW := fw_ix 950 (by decide +kernel) rfl
theorem kw_905 : (Jvm.Cond.classLink "TaylorModelsModel" (23 : Nat) "[[I") ∈ FW := fw_ix 951 (by decide +kernel) rfl
theorem kw_907 : (Jvm.Cond.classLink "TaylorModelsModel" (44 : Nat) "[[J") ∈ FW := fw_ix 953 (by decide +kernel) rfl
theorem kw_42 : (Jvm.Cond.instanceMethod ({ cls := "TaylorModels$Model", name := "<init>", desc := "()V" } : Jvm.MethodName)) ∈ FW := fw_ix 88 (by decide +kernel) rfl
theorem kw_43 : (Jvm.Cond.code ({ cls := "TaylorModels$Model", name := "<init>", desc := "()V" } : Jvm.MethodName) prog_4_method_1_code (1 : Nat) (Option.none : Option Jvm.ClassFile.FieldType)) ∈ FW := fw_ix 89 (by decide +kernel) rfl
theorem kw_35 : (Jvm.Cond.instanceMethod ({ cls := "TaylorModels$Models", name := "<init>", desc := "()V" } : Jvm.MethodName)) ∈ FW := fw_ix 81 (by decide +kernel) rfl
theorem kw_36 : (Jvm.Cond.code ({ cls := "TaylorModels$Models", name := "<init>", desc := "()V" } : Jvm.MethodName) prog_5_method_1_code (2 : Nat) (Option.none : Option Jvm.ClassFile.FieldType)) ∈ FW := fw_ix 82 (by decide +kernel) rfl
theorem kw_134 : (Jvm.Cond.instanceMethod ({ cls := "TaylorModels$SetupText", name := "<init>", desc := "()V" } : Jvm.MethodName)) ∈ FW := fw_ix 180 (by decide +kernel) rfl
theorem kw_135 : (Jvm.Cond.code ({ cls := "TaylorModels$SetupText", name := "<init>", desc := "()V" } : Jvm.MethodName) prog_7_method_1_code (1 : Nat) (Option.none : Option Jvm.ClassFile.FieldType)) ∈ FW := fw_ix 181 (by decide +kernel) rfl
theorem kw_95 : (Jvm.Cond.instanceMethod ({ cls := "TaylorModels$Arithmetic", name := "<init>", desc := "()V" } : Jvm.MethodName)) ∈ FW := fw_ix 141 (by decide +kernel) rfl
theorem kw_96 : (Jvm.Cond.code ({ cls := "TaylorModels$Arithmetic", name := "<init>", desc := "()V" } : Jvm.MethodName) prog_2_method_1_code (1 : Nat) (Option.none : Option Jvm.ClassFile.FieldType)) ∈ FW := fw_ix 142 (by decide +kernel) rfl
theorem kw_75 : (Jvm.Cond.instanceMethod ({ cls := "TaylorModels$History", name := "<init>", desc := "()V" } : Jvm.MethodName)) ∈ FW := fw_ix 121 (by decide +kernel) rfl
theorem kw_76 : (Jvm.Cond.code ({ cls := "TaylorModels$History", name := "<init>", desc := "()V" } : Jvm.MethodName) prog_3_method_1_code (2 : Nat) (Option.none : Option Jvm.ClassFile.FieldType)) ∈ FW := fw_ix 122 (by decide +kernel) rfl
theorem kw_128 : (Jvm.Cond.instanceMethod ({ cls := "TaylorModels$SetupReader", name := "<init>", desc := "()V" } : Jvm.MethodName)) ∈ FW := fw_ix 174 (by decide +kernel) rfl
theorem kw_129 : (Jvm.Cond.code ({ cls := "TaylorModels$SetupReader", name := "<init>", desc := "()V" } : Jvm.MethodName) prog_6_method_1_code (2 : Nat) (Option.none : Option Jvm.ClassFile.FieldType)) ∈ FW := fw_ix 175 (by decide +kernel) rfl
theorem kw_27 : (Jvm.Cond.instanceMethod ({ cls := "TaylorModels", name := "<init>", desc := "()V" } : Jvm.MethodName)) ∈ FW := fw_ix 73 (by decide +kernel) rfl
theorem kw_1 : (Jvm.Cond.initialized "TaylorModels") ∈ FW := fw_ix 47 (by decide +kernel) rfl
theorem kw_28 : (Jvm.Cond.code ({ cls := "TaylorModels", name := "<init>", desc := "()V" } : Jvm.MethodName) prog_1_method_1_code (1 : Nat) (Option.none : Option Jvm.ClassFile.FieldType)) ∈ FW := fw_ix 74 (by decide +kernel) rfl
theorem kw_902 : (Jvm.Cond.instanceMethod ({ cls := "TaylorModelsModel", name := "<init>", desc := "()V" } : Jvm.MethodName)) ∈ FW := fw_ix 948 (by decide +kernel) rfl
theorem kw_8 : (Jvm.Cond.initialized "TaylorModelsModel") ∈ FW := fw_ix 54 (by decide +kernel) rfl
theorem kw_903 : (Jvm.Cond.code ({ cls := "TaylorModelsModel", name := "<init>", desc := "()V" } : Jvm.MethodName) prog_9_method_1_code (1 : Nat) (Option.none : Option Jvm.ClassFile.FieldType)) ∈ FW := fw_ix 949 (by decide +kernel) rfl
theorem kw_377 : (Jvm.Cond.fieldLink "java/lang/String" (38 : Nat) "java/lang/String" "COMPACT_STRINGS" "Z") ∈ FW := fw_ix 423 (by decide +kernel) rfl
theorem kw_393 : (Jvm.Cond.fieldLink "java/lang/String" (1053 : Nat) "jdk/internal/util/Preconditions" "SIOOBE_FORMATTER" "Ljava/util/function/BiFunction;") ∈ FW := fw_ix 439 (by decide +kernel) rfl
theorem kw_1331 : (Jvm.Cond.fieldLink "java/lang/String" (9 : Nat) "java/lang/String" "value" "[B") ∈ FW := fw_ix 1377 (by decide +kernel) rfl
theorem kw_1332 : (Jvm.Cond.fieldLink "java/lang/String" (15 : Nat) "java/lang/String" "coder" "B") ∈ FW := fw_ix 1378 (by decide +kernel) rfl
theorem kw_373 : (Jvm.Cond.methodLink "java/lang/String" (335 : Nat) ({ cls := "java/lang/String", name := "coder", desc := "()B" } : Jvm.MethodName)) ∈ FW := fw_ix 419 (by decide +kernel) rfl
theorem kw_383 : (Jvm.Cond.methodLink "java/lang/String" (492 : Nat) ({ cls := "java/lang/String", name := "isLatin1", desc := "()Z" } : Jvm.MethodName)) ∈ FW := fw_ix 429 (by decide +kernel) rfl
theorem kw_387 : (Jvm.Cond.methodLink "java/lang/String" (495 : Nat) ({ cls := "java/lang/StringLatin1", name := "charAt", desc := "([BI)C" } : Jvm.MethodName)) ∈ FW := fw_ix 433 (by decide +kernel) rfl
theorem kw_390 : (Jvm.Cond.methodLink "java/lang/StringLatin1" (9 : Nat) ({ cls := "java/lang/String", name := "checkIndex", desc := "(II)V" } : Jvm.MethodName)) ∈ FW := fw_ix 436 (by decide +kernel) rfl
theorem kw_395 : (Jvm.Cond.methodLink "java/lang/String" (1059 : Nat) ({ cls := "jdk/internal/util/Preconditions", name := "checkIndex", desc := "(IILjava/util/function/BiFunction;)I" } : Jvm.MethodName)) ∈ FW := fw_ix 441 (by decide +kernel) rfl
theorem kw_108 : (Jvm.Cond.laysFinal "TaylorModels$Arithmetic" "TaylorModels$Arithmetic" "products" "[J") ∈ FW := fw_ix 154 (by decide +kernel) rfl
theorem kw_110 : (Jvm.Cond.lays "TaylorModels$Arithmetic" "TaylorModels$Arithmetic" "low" "J") ∈ FW := fw_ix 156 (by decide +kernel) rfl
theorem kw_112 : (Jvm.Cond.lays "TaylorModels$Arithmetic" "TaylorModels$Arithmetic" "high" "J") ∈ FW := fw_ix 158 (by decide +kernel) rfl
theorem kw_114 : (Jvm.Cond.laysFinal "TaylorModels$Arithmetic" "TaylorModels$Arithmetic" "part" "LTaylorModels$Model;") ∈ FW := fw_ix 160 (by decide +kernel) rfl
theorem kw_116 : (Jvm.Cond.laysFinal "TaylorModels$Arithmetic" "TaylorModels$Arithmetic" "whole" "LTaylorModels$Model;") ∈ FW := fw_ix 162 (by decide +kernel) rfl
theorem kw_118 : (Jvm.Cond.laysFinal "TaylorModels$Arithmetic" "TaylorModels$Arithmetic" "speed" "LTaylorModels$Model;") ∈ FW := fw_ix 164 (by decide +kernel) rfl
theorem kw_120 : (Jvm.Cond.laysFinal "TaylorModels$Arithmetic" "TaylorModels$Arithmetic" "nextX" "LTaylorModels$Model;") ∈ FW := fw_ix 166 (by decide +kernel) rfl
theorem kw_122 : (Jvm.Cond.laysFinal "TaylorModels$Arithmetic" "TaylorModels$Arithmetic" "nextY" "LTaylorModels$Model;") ∈ FW := fw_ix 168 (by decide +kernel) rfl
theorem kw_85 : (Jvm.Cond.laysFinal "TaylorModels$History" "TaylorModels$History" "ring" "[LTaylorModels$Models;") ∈ FW := fw_ix 131 (by decide +kernel) rfl
theorem kw_87 : (Jvm.Cond.lays "TaylorModels$History" "TaylorModels$History" "next" "I") ∈ FW := fw_ix 133 (by decide +kernel) rfl
theorem kw_89 : (Jvm.Cond.lays "TaylorModels$History" "TaylorModels$History" "count" "I") ∈ FW := fw_ix 135 (by decide +kernel) rfl
theorem kw_53 : (Jvm.Cond.laysFinal "TaylorModels$Model" "TaylorModels$Model" "coefficients" "[J") ∈ FW := fw_ix 99 (by decide +kernel) rfl
theorem kw_55 : (Jvm.Cond.lays "TaylorModels$Model" "TaylorModels$Model" "low" "J") ∈ FW := fw_ix 101 (by decide +kernel) rfl
theorem kw_57 : (Jvm.Cond.lays "TaylorModels$Model" "TaylorModels$Model" "high" "J") ∈ FW := fw_ix 103 (by decide +kernel) rfl
theorem kw_67 : (Jvm.Cond.laysFinal "TaylorModels$Models" "TaylorModels$Models" "rows" "[LTaylorModels$Model;") ∈ FW := fw_ix 113 (by decide +kernel) rfl
theorem kw_69 : (Jvm.Cond.lays "TaylorModels$Models" "TaylorModels$Models" "mask" "I") ∈ FW := fw_ix 115 (by decide +kernel) rfl
theorem kw_186 : (Jvm.Cond.laysFinal "TaylorModels$SetupReader" "TaylorModels$SetupReader" "text" "LTaylorModels$SetupText;") ∈ FW := fw_ix 232 (by decide +kernel) rfl
theorem kw_188 : (Jvm.Cond.laysFinal "TaylorModels$SetupReader" "TaylorModels$SetupReader" "draft" "LTaylorModels$Models;") ∈ FW := fw_ix 234 (by decide +kernel) rfl
theorem kw_190 : (Jvm.Cond.laysFinal "TaylorModels$SetupReader" "TaylorModels$SetupReader" "arithmetic" "LTaylorModels$Arithmetic;") ∈ FW := fw_ix 236 (by decide +kernel) rfl
theorem kw_192 : (Jvm.Cond.laysFinal "TaylorModels$SetupReader" "TaylorModels$SetupReader" "sums" "[LTaylorModels$Model;") ∈ FW := fw_ix 238 (by decide +kernel) rfl
theorem kw_194 : (Jvm.Cond.laysFinal "TaylorModels$SetupReader" "TaylorModels$SetupReader" "terms" "[LTaylorModels$Model;") ∈ FW := fw_ix 240 (by decide +kernel) rfl
theorem kw_196 : (Jvm.Cond.laysFinal "TaylorModels$SetupReader" "TaylorModels$SetupReader" "factors" "[LTaylorModels$Model;") ∈ FW := fw_ix 242 (by decide +kernel) rfl
theorem kw_198 : (Jvm.Cond.laysFinal "TaylorModels$SetupReader" "TaylorModels$SetupReader" "arguments" "[LTaylorModels$Model;") ∈ FW := fw_ix 244 (by decide +kernel) rfl
theorem kw_200 : (Jvm.Cond.lays "TaylorModels$SetupReader" "TaylorModels$SetupReader" "error" "I") ∈ FW := fw_ix 246 (by decide +kernel) rfl
theorem kw_149 : (Jvm.Cond.laysFinal "TaylorModels$SetupText" "TaylorModels$SetupText" "bytes" "[I") ∈ FW := fw_ix 195 (by decide +kernel) rfl
theorem kw_151 : (Jvm.Cond.lays "TaylorModels$SetupText" "TaylorModels$SetupText" "filled" "I") ∈ FW := fw_ix 197 (by decide +kernel) rfl
theorem kw_153 : (Jvm.Cond.laysFinal "TaylorModels$SetupText" "TaylorModels$SetupText" "starts" "[I") ∈ FW := fw_ix 199 (by decide +kernel) rfl
theorem kw_155 : (Jvm.Cond.laysFinal "TaylorModels$SetupText" "TaylorModels$SetupText" "ends" "[I") ∈ FW := fw_ix 201 (by decide +kernel) rfl
theorem kw_157 : (Jvm.Cond.lays "TaylorModels$SetupText" "TaylorModels$SetupText" "last" "I") ∈ FW := fw_ix 203 (by decide +kernel) rfl
theorem kw_159 : (Jvm.Cond.lays "TaylorModels$SetupText" "TaylorModels$SetupText" "current" "I") ∈ FW := fw_ix 205 (by decide +kernel) rfl
theorem kw_161 : (Jvm.Cond.lays "TaylorModels$SetupText" "TaylorModels$SetupText" "start" "I") ∈ FW := fw_ix 207 (by decide +kernel) rfl
theorem kw_163 : (Jvm.Cond.lays "TaylorModels$SetupText" "TaylorModels$SetupText" "end" "I") ∈ FW := fw_ix 209 (by decide +kernel) rfl
theorem kw_165 : (Jvm.Cond.lays "TaylorModels$SetupText" "TaylorModels$SetupText" "first" "I") ∈ FW := fw_ix 211 (by decide +kernel) rfl
theorem kw_211 : (Jvm.Cond.laysFinal "TaylorModels" "TaylorModels" "models" "LTaylorModels$Models;") ∈ FW := fw_ix 257 (by decide +kernel) rfl
theorem kw_213 : (Jvm.Cond.laysFinal "TaylorModels" "TaylorModels" "history" "LTaylorModels$History;") ∈ FW := fw_ix 259 (by decide +kernel) rfl
theorem kw_215 : (Jvm.Cond.laysFinal "TaylorModels" "TaylorModels" "arithmetic" "LTaylorModels$Arithmetic;") ∈ FW := fw_ix 261 (by decide +kernel) rfl
theorem kw_217 : (Jvm.Cond.laysFinal "TaylorModels" "TaylorModels" "reader" "LTaylorModels$SetupReader;") ∈ FW := fw_ix 263 (by decide +kernel) rfl
theorem kw_219 : (Jvm.Cond.laysFinal "TaylorModels" "TaylorModels" "result" "LTaylorModels$Model;") ∈ FW := fw_ix 265 (by decide +kernel) rfl
theorem kw_221 : (Jvm.Cond.lays "TaylorModels" "TaylorModels" "errorStart" "I") ∈ FW := fw_ix 267 (by decide +kernel) rfl
theorem kw_939 : (Jvm.Cond.lays "TaylorModelsModel" "TaylorModelsModel" "thrown" "I") ∈ FW := fw_ix 985 (by decide +kernel) rfl
theorem kw_941 : (Jvm.Cond.laysFinal "TaylorModelsModel" "TaylorModelsModel" "buffer" "[I") ∈ FW := fw_ix 987 (by decide +kernel) rfl
theorem kw_943 : (Jvm.Cond.lays "TaylorModelsModel" "TaylorModelsModel" "bufferLength" "I") ∈ FW := fw_ix 989 (by decide +kernel) rfl
theorem kw_945 : (Jvm.Cond.lays "TaylorModelsModel" "TaylorModelsModel" "textLength" "I") ∈ FW := fw_ix 991 (by decide +kernel) rfl
theorem kw_947 : (Jvm.Cond.lays "TaylorModelsModel" "TaylorModelsModel" "position" "I") ∈ FW := fw_ix 993 (by decide +kernel) rfl
theorem kw_949 : (Jvm.Cond.lays "TaylorModelsModel" "TaylorModelsModel" "error" "I") ∈ FW := fw_ix 995 (by decide +kernel) rfl
theorem kw_951 : (Jvm.Cond.lays "TaylorModelsModel" "TaylorModelsModel" "errorAt" "I") ∈ FW := fw_ix 997 (by decide +kernel) rfl
theorem kw_953 : (Jvm.Cond.lays "TaylorModelsModel" "TaylorModelsModel" "errorOffset" "I") ∈ FW := fw_ix 999 (by decide +kernel) rfl
theorem kw_955 : (Jvm.Cond.laysFinal "TaylorModelsModel" "TaylorModelsModel" "data" "[I") ∈ FW := fw_ix 1001 (by decide +kernel) rfl
theorem kw_957 : (Jvm.Cond.laysFinal "TaylorModelsModel" "TaylorModelsModel" "draft" "[I") ∈ FW := fw_ix 1003 (by decide +kernel) rfl
theorem kw_959 : (Jvm.Cond.laysFinal "TaylorModelsModel" "TaylorModelsModel" "history" "[[I") ∈ FW := fw_ix 1005 (by decide +kernel) rfl
theorem kw_961 : (Jvm.Cond.lays "TaylorModelsModel" "TaylorModelsModel" "undoDepth" "I") ∈ FW := fw_ix 1007 (by decide +kernel) rfl
theorem kw_963 : (Jvm.Cond.laysFinal "TaylorModelsModel" "TaylorModelsModel" "products" "[J") ∈ FW := fw_ix 1009 (by decide +kernel) rfl
theorem kw_965 : (Jvm.Cond.laysFinal "TaylorModelsModel" "TaylorModelsModel" "product" "[J") ∈ FW := fw_ix 1011 (by decide +kernel) rfl
theorem kw_967 : (Jvm.Cond.laysFinal "TaylorModelsModel" "TaylorModelsModel" "composed" "[J") ∈ FW := fw_ix 1013 (by decide +kernel) rfl
theorem kw_969 : (Jvm.Cond.laysFinal "TaylorModelsModel" "TaylorModelsModel" "power" "[J") ∈ FW := fw_ix 1015 (by decide +kernel) rfl
theorem kw_971 : (Jvm.Cond.laysFinal "TaylorModelsModel" "TaylorModelsModel" "integral" "[J") ∈ FW := fw_ix 1017 (by decide +kernel) rfl
theorem kw_973 : (Jvm.Cond.lays "TaylorModelsModel" "TaylorModelsModel" "numberStart" "I") ∈ FW := fw_ix 1019 (by decide +kernel) rfl
theorem kw_975 : (Jvm.Cond.laysFinal "TaylorModelsModel" "TaylorModelsModel" "sums" "[[J") ∈ FW := fw_ix 1021 (by decide +kernel) rfl
theorem kw_977 : (Jvm.Cond.laysFinal "TaylorModelsModel" "TaylorModelsModel" "terms" "[[J") ∈ FW := fw_ix 1023 (by decide +kernel) rfl
theorem kw_979 : (Jvm.Cond.laysFinal "TaylorModelsModel" "TaylorModelsModel" "factors" "[[J") ∈ FW := fw_ix 1025 (by decide +kernel) rfl
theorem kw_981 : (Jvm.Cond.laysFinal "TaylorModelsModel" "TaylorModelsModel" "firsts" "[[J") ∈ FW := fw_ix 1027 (by decide +kernel) rfl
theorem kw_983 : (Jvm.Cond.laysFinal "TaylorModelsModel" "TaylorModelsModel" "named" "[J") ∈ FW := fw_ix 1029 (by decide +kernel) rfl
theorem kw_985 : (Jvm.Cond.lays "TaylorModelsModel" "TaylorModelsModel" "nesting" "I") ∈ FW := fw_ix 1031 (by decide +kernel) rfl
theorem kw_987 : (Jvm.Cond.laysFinal "TaylorModelsModel" "TaylorModelsModel" "one" "[J") ∈ FW := fw_ix 1033 (by decide +kernel) rfl
theorem kw_989 : (Jvm.Cond.laysFinal "TaylorModelsModel" "TaylorModelsModel" "two" "[J") ∈ FW := fw_ix 1035 (by decide +kernel) rfl
theorem kw_991 : (Jvm.Cond.laysFinal "TaylorModelsModel" "TaylorModelsModel" "three" "[J") ∈ FW := fw_ix 1037 (by decide +kernel) rfl
theorem kw_993 : (Jvm.Cond.laysFinal "TaylorModelsModel" "TaylorModelsModel" "result" "[J") ∈ FW := fw_ix 1039 (by decide +kernel) rfl
theorem kw_995 : (Jvm.Cond.laysFinal "TaylorModelsModel" "TaylorModelsModel" "nextX" "[J") ∈ FW := fw_ix 1041 (by decide +kernel) rfl
theorem kw_997 : (Jvm.Cond.laysFinal "TaylorModelsModel" "TaylorModelsModel" "nextY" "[J") ∈ FW := fw_ix 1043 (by decide +kernel) rfl
theorem kw_527 : (Jvm.Cond.instanceMethod ({ cls := "TaylorModels$Model", name := "fits", desc := "()Z" } : Jvm.MethodName)) ∈ FW := fw_ix 573 (by decide +kernel) rfl
theorem kw_528 : (Jvm.Cond.selects "TaylorModels$Model" ({ cls := "TaylorModels$Model", name := "fits", desc := "()Z" } : Jvm.MethodName) ({ cls := "TaylorModels$Model", name := "fits", desc := "()Z" } : Jvm.MethodName)) ∈ FW := fw_ix 574 (by decide +kernel) rfl
theorem kw_529 : (Jvm.Cond.code ({ cls := "TaylorModels$Model", name := "fits", desc := "()Z" } : Jvm.MethodName) prog_4_method_10_code (2 : Nat) (Option.some Jvm.ClassFile.FieldType.boolean)) ∈ FW := fw_ix 575 (by decide +kernel) rfl
theorem kw_453 : (Jvm.Cond.static ({ cls := "java/util/Arrays", name := "fill", desc := "([JJ)V" } : Jvm.MethodName)) ∈ FW := fw_ix 499 (by decide +kernel) rfl
theorem kw_17 : (Jvm.Cond.initialized "java/util/Arrays") ∈ FW := fw_ix 63 (by decide +kernel) rfl
theorem kw_454 : (Jvm.Cond.code ({ cls := "java/util/Arrays", name := "fill", desc := "([JJ)V" } : Jvm.MethodName) prog_27_method_101_code (5 : Nat) (Option.none : Option Jvm.ClassFile.FieldType)) ∈ FW := fw_ix 500 (by decide +kernel) rfl
theorem kw_504 : (Jvm.Cond.static ({ cls := "java/lang/Math", name := "floorDiv", desc := "(JJ)J" } : Jvm.MethodName)) ∈ FW := fw_ix 550 (by decide +kernel) rfl
theorem kw_505 : (Jvm.Cond.code ({ cls := "java/lang/Math", name := "floorDiv", desc := "(JJ)J" } : Jvm.MethodName) prog_18_method_49_code (6 : Nat) (Option.some Jvm.ClassFile.FieldType.long)) ∈ FW := fw_ix 551 (by decide +kernel) rfl
theorem kw_582 : (Jvm.Cond.instanceMethod ({ cls := "TaylorModels$Arithmetic", name := "collectProducts", desc := "(LTaylorModels$Model;LTaylorModels$Model;)V" } : Jvm.MethodName)) ∈ FW := fw_ix 628 (by decide +kernel) rfl
theorem kp_12 : (Jvm.Cond.selects "TaylorModels$Arithmetic" ⟨"TaylorModels$Arithmetic", "collectProducts", "(LTaylorModels$Model;LTaylorModels$Model;)V"⟩ ⟨"TaylorModels$Arithmetic", "collectProducts", "(LTaylorModels$Model;LTaylorModels$Model;)V"⟩) ∈ FW := fw_ix 12 (by decide +kernel) rfl
theorem kw_583 : (Jvm.Cond.code ({ cls := "TaylorModels$Arithmetic", name := "collectProducts", desc := "(LTaylorModels$Model;LTaylorModels$Model;)V" } : Jvm.MethodName) prog_2_method_5_code (6 : Nat) (Option.none : Option Jvm.ClassFile.FieldType)) ∈ FW := fw_ix 629 (by decide +kernel) rfl
theorem kw_512 : (Jvm.Cond.static ({ cls := "TaylorModels", name := "lowestOf", desc := "(II)I" } : Jvm.MethodName)) ∈ FW := fw_ix 558 (by decide +kernel) rfl
theorem kw_513 : (Jvm.Cond.code ({ cls := "TaylorModels", name := "lowestOf", desc := "(II)I" } : Jvm.MethodName) prog_1_method_33_code (2 : Nat) (Option.some Jvm.ClassFile.FieldType.int)) ∈ FW := fw_ix 559 (by decide +kernel) rfl
theorem kw_515 : (Jvm.Cond.static ({ cls := "TaylorModels", name := "rangeLow", desc := "(JI)J" } : Jvm.MethodName)) ∈ FW := fw_ix 561 (by decide +kernel) rfl
theorem kw_516 : (Jvm.Cond.code ({ cls := "TaylorModels", name := "rangeLow", desc := "(JI)J" } : Jvm.MethodName) prog_1_method_34_code (3 : Nat) (Option.some Jvm.ClassFile.FieldType.long)) ∈ FW := fw_ix 562 (by decide +kernel) rfl
theorem kw_522 : (Jvm.Cond.static ({ cls := "TaylorModels", name := "rangeHigh", desc := "(JI)J" } : Jvm.MethodName)) ∈ FW := fw_ix 568 (by decide +kernel) rfl
theorem kw_523 : (Jvm.Cond.code ({ cls := "TaylorModels", name := "rangeHigh", desc := "(JI)J" } : Jvm.MethodName) prog_1_method_35_code (3 : Nat) (Option.some Jvm.ClassFile.FieldType.long)) ∈ FW := fw_ix 569 (by decide +kernel) rfl
theorem kw_566 : (Jvm.Cond.instanceMethod ({ cls := "TaylorModels$Model", name := "spreadLow", desc := "()J" } : Jvm.MethodName)) ∈ FW := fw_ix 612 (by decide +kernel) rfl
theorem kw_567 : (Jvm.Cond.selects "TaylorModels$Model" ({ cls := "TaylorModels$Model", name := "spreadLow", desc := "()J" } : Jvm.MethodName) ({ cls := "TaylorModels$Model", name := "spreadLow", desc := "()J" } : Jvm.MethodName)) ∈ FW := fw_ix 613 (by decide +kernel) rfl
theorem kw_568 : (Jvm.Cond.code ({ cls := "TaylorModels$Model", name := "spreadLow", desc := "()J" } : Jvm.MethodName) prog_4_method_11_code (4 : Nat) (Option.some Jvm.ClassFile.FieldType.long)) ∈ FW := fw_ix 614 (by decide +kernel) rfl
theorem kw_572 : (Jvm.Cond.instanceMethod ({ cls := "TaylorModels$Model", name := "spreadHigh", desc := "()J" } : Jvm.MethodName)) ∈ FW := fw_ix 618 (by decide +kernel) rfl
theorem kw_573 : (Jvm.Cond.selects "TaylorModels$Model" ({ cls := "TaylorModels$Model", name := "spreadHigh", desc := "()J" } : Jvm.MethodName) ({ cls := "TaylorModels$Model", name := "spreadHigh", desc := "()J" } : Jvm.MethodName)) ∈ FW := fw_ix 619 (by decide +kernel) rfl
theorem kw_574 : (Jvm.Cond.code ({ cls := "TaylorModels$Model", name := "spreadHigh", desc := "()J" } : Jvm.MethodName) prog_4_method_12_code (4 : Nat) (Option.some Jvm.ClassFile.FieldType.long)) ∈ FW := fw_ix 620 (by decide +kernel) rfl
theorem kw_592 : (Jvm.Cond.instanceMethod ({ cls := "TaylorModels$Arithmetic", name := "addIntervalProduct", desc := "(JJJJ)V" } : Jvm.MethodName)) ∈ FW := fw_ix 638 (by decide +kernel) rfl
theorem kp_13 : (Jvm.Cond.selects "TaylorModels$Arithmetic" ⟨"TaylorModels$Arithmetic", "addIntervalProduct", "(JJJJ)V"⟩ ⟨"TaylorModels$Arithmetic", "addIntervalProduct", "(JJJJ)V"⟩) ∈ FW := fw_ix 13 (by decide +kernel) rfl
theorem kw_593 : (Jvm.Cond.code ({ cls := "TaylorModels$Arithmetic", name := "addIntervalProduct", desc := "(JJJJ)V" } : Jvm.MethodName) prog_2_method_6_code (17 : Nat) (Option.none : Option Jvm.ClassFile.FieldType)) ∈ FW := fw_ix 639 (by decide +kernel) rfl
theorem kw_500 : (Jvm.Cond.instanceMethod ({ cls := "TaylorModels$Model", name := "putQuotient", desc := "(IJJ)V" } : Jvm.MethodName)) ∈ FW := fw_ix 546 (by decide +kernel) rfl
theorem kw_501 : (Jvm.Cond.selects "TaylorModels$Model" ({ cls := "TaylorModels$Model", name := "putQuotient", desc := "(IJJ)V" } : Jvm.MethodName) ({ cls := "TaylorModels$Model", name := "putQuotient", desc := "(IJJ)V" } : Jvm.MethodName)) ∈ FW := fw_ix 547 (by decide +kernel) rfl
theorem kw_502 : (Jvm.Cond.code ({ cls := "TaylorModels$Model", name := "putQuotient", desc := "(IJJ)V" } : Jvm.MethodName) prog_4_method_7_code (8 : Nat) (Option.none : Option Jvm.ClassFile.FieldType)) ∈ FW := fw_ix 548 (by decide +kernel) rfl
theorem kw_562 : (Jvm.Cond.instanceMethod ({ cls := "TaylorModels$Model", name := "staysInSquare", desc := "()Z" } : Jvm.MethodName)) ∈ FW := fw_ix 608 (by decide +kernel) rfl
theorem kw_563 : (Jvm.Cond.selects "TaylorModels$Model" ({ cls := "TaylorModels$Model", name := "staysInSquare", desc := "()Z" } : Jvm.MethodName) ({ cls := "TaylorModels$Model", name := "staysInSquare", desc := "()Z" } : Jvm.MethodName)) ∈ FW := fw_ix 609 (by decide +kernel) rfl
theorem kw_564 : (Jvm.Cond.code ({ cls := "TaylorModels$Model", name := "staysInSquare", desc := "()Z" } : Jvm.MethodName) prog_4_method_15_code (1 : Nat) (Option.some Jvm.ClassFile.FieldType.boolean)) ∈ FW := fw_ix 610 (by decide +kernel) rfl
theorem kw_449 : (Jvm.Cond.instanceMethod ({ cls := "TaylorModels$Model", name := "becomeConstant", desc := "(J)V" } : Jvm.MethodName)) ∈ FW := fw_ix 495 (by decide +kernel) rfl
theorem kw_450 : (Jvm.Cond.selects "TaylorModels$Model" ({ cls := "TaylorModels$Model", name := "becomeConstant", desc := "(J)V" } : Jvm.MethodName) ({ cls := "TaylorModels$Model", name := "becomeConstant", desc := "(J)V" } : Jvm.MethodName)) ∈ FW := fw_ix 496 (by decide +kernel) rfl
theorem kw_451 : (Jvm.Cond.code ({ cls := "TaylorModels$Model", name := "becomeConstant", desc := "(J)V" } : Jvm.MethodName) prog_4_method_2_code (3 : Nat) (Option.none : Option Jvm.ClassFile.FieldType)) ∈ FW := fw_ix 497 (by decide +kernel) rfl
theorem kw_577 : (Jvm.Cond.instanceMethod ({ cls := "TaylorModels$Arithmetic", name := "multiplyModels", desc := "(LTaylorModels$Model;LTaylorModels$Model;LTaylorModels$Model;)Z" } : Jvm.MethodName)) ∈ FW := fw_ix 623 (by decide +kernel) rfl
theorem kw_578 : (Jvm.Cond.selects "TaylorModels$Arithmetic" ({ cls := "TaylorModels$Arithmetic", name := "multiplyModels", desc := "(LTaylorModels$Model;LTaylorModels$Model;LTaylorModels$Model;)Z" } : Jvm.MethodName) ({ cls := "TaylorModels$Arithmetic", name := "multiplyModels", desc := "(LTaylorModels$Model;LTaylorModels$Model;LTaylorModels$Model;)Z" } : Jvm.MethodName)) ∈ FW := fw_ix 624 (by decide +kernel) rfl
theorem kw_579 : (Jvm.Cond.code ({ cls := "TaylorModels$Arithmetic", name := "multiplyModels", desc := "(LTaylorModels$Model;LTaylorModels$Model;LTaylorModels$Model;)Z" } : Jvm.MethodName) prog_2_method_4_code (9 : Nat) (Option.some Jvm.ClassFile.FieldType.boolean)) ∈ FW := fw_ix 625 (by decide +kernel) rfl
theorem kw_597 : (Jvm.Cond.instanceMethod ({ cls := "TaylorModels$Arithmetic", name := "addModels", desc := "(LTaylorModels$Model;LTaylorModels$Model;LTaylorModels$Model;)Z" } : Jvm.MethodName)) ∈ FW := fw_ix 643 (by decide +kernel) rfl
theorem kw_598 : (Jvm.Cond.selects "TaylorModels$Arithmetic" ({ cls := "TaylorModels$Arithmetic", name := "addModels", desc := "(LTaylorModels$Model;LTaylorModels$Model;LTaylorModels$Model;)Z" } : Jvm.MethodName) ({ cls := "TaylorModels$Arithmetic", name := "addModels", desc := "(LTaylorModels$Model;LTaylorModels$Model;LTaylorModels$Model;)Z" } : Jvm.MethodName)) ∈ FW := fw_ix 644 (by decide +kernel) rfl
theorem kw_599 : (Jvm.Cond.code ({ cls := "TaylorModels$Arithmetic", name := "addModels", desc := "(LTaylorModels$Model;LTaylorModels$Model;LTaylorModels$Model;)Z" } : Jvm.MethodName) prog_2_method_2_code (5 : Nat) (Option.some Jvm.ClassFile.FieldType.boolean)) ∈ FW := fw_ix 645 (by decide +kernel) rfl
theorem kw_253 : (Jvm.Cond.instanceMethod ({ cls := "TaylorModels$Model", name := "copyFrom", desc := "(LTaylorModels$Model;)V" } : Jvm.MethodName)) ∈ FW := fw_ix 299 (by decide +kernel) rfl
theorem kw_254 : (Jvm.Cond.selects "TaylorModels$Model" ({ cls := "TaylorModels$Model", name := "copyFrom", desc := "(LTaylorModels$Model;)V" } : Jvm.MethodName) ({ cls := "TaylorModels$Model", name := "copyFrom", desc := "(LTaylorModels$Model;)V" } : Jvm.MethodName)) ∈ FW := fw_ix 300 (by decide +kernel) rfl
theorem kw_255 : (Jvm.Cond.code ({ cls := "TaylorModels$Model", name := "copyFrom", desc := "(LTaylorModels$Model;)V" } : Jvm.MethodName) prog_4_method_4_code (2 : Nat) (Option.none : Option Jvm.ClassFile.FieldType)) ∈ FW := fw_ix 301 (by decide +kernel) rfl
theorem kw_495 : (Jvm.Cond.static ({ cls := "TaylorModels", name := "slotOf", desc := "(II)I" } : Jvm.MethodName)) ∈ FW := fw_ix 541 (by decide +kernel) rfl
theorem kw_496 : (Jvm.Cond.code ({ cls := "TaylorModels", name := "slotOf", desc := "(II)I" } : Jvm.MethodName) prog_1_method_32_code (2 : Nat) (Option.some Jvm.ClassFile.FieldType.int)) ∈ FW := fw_ix 542 (by decide +kernel) rfl
theorem kw_483 : (Jvm.Cond.instanceMethod ({ cls := "TaylorModels$Model", name := "widen", desc := "(J)V" } : Jvm.MethodName)) ∈ FW := fw_ix 529 (by decide +kernel) rfl
theorem kw_484 : (Jvm.Cond.selects "TaylorModels$Model" ({ cls := "TaylorModels$Model", name := "widen", desc := "(J)V" } : Jvm.MethodName) ({ cls := "TaylorModels$Model", name := "widen", desc := "(J)V" } : Jvm.MethodName)) ∈ FW := fw_ix 530 (by decide +kernel) rfl
theorem kw_485 : (Jvm.Cond.code ({ cls := "TaylorModels$Model", name := "widen", desc := "(J)V" } : Jvm.MethodName) prog_4_method_8_code (3 : Nat) (Option.none : Option Jvm.ClassFile.FieldType)) ∈ FW := fw_ix 531 (by decide +kernel) rfl
theorem kw_492 : (Jvm.Cond.instanceMethod ({ cls := "TaylorModels$Arithmetic", name := "integrateTerm", desc := "(JIII)V" } : Jvm.MethodName)) ∈ FW := fw_ix 538 (by decide +kernel) rfl
theorem kp_8 : (Jvm.Cond.selects "TaylorModels$Arithmetic" ⟨"TaylorModels$Arithmetic", "integrateTerm", "(JIII)V"⟩ ⟨"TaylorModels$Arithmetic", "integrateTerm", "(JIII)V"⟩) ∈ FW := fw_ix 8 (by decide +kernel) rfl
theorem kw_493 : (Jvm.Cond.code ({ cls := "TaylorModels$Arithmetic", name := "integrateTerm", desc := "(JIII)V" } : Jvm.MethodName) prog_2_method_9_code (8 : Nat) (Option.none : Option Jvm.ClassFile.FieldType)) ∈ FW := fw_ix 539 (by decide +kernel) rfl
theorem kw_558 : (Jvm.Cond.instanceMethod ({ cls := "TaylorModels$Arithmetic", name := "composeModels", desc := "(LTaylorModels$Model;LTaylorModels$Model;LTaylorModels$Model;LTaylorModels$Model;)Z" } : Jvm.MethodName)) ∈ FW := fw_ix 604 (by decide +kernel) rfl
theorem kw_559 : (Jvm.Cond.selects "TaylorModels$Arithmetic" ({ cls := "TaylorModels$Arithmetic", name := "composeModels", desc := "(LTaylorModels$Model;LTaylorModels$Model;LTaylorModels$Model;LTaylorModels$Model;)Z" } : Jvm.MethodName) ({ cls := "TaylorModels$Arithmetic", name := "composeModels", desc := "(LTaylorModels$Model;LTaylorModels$Model;LTaylorModels$Model;LTaylorModels$Model;)Z" } : Jvm.MethodName)) ∈ FW := fw_ix 605 (by decide +kernel) rfl
theorem kw_560 : (Jvm.Cond.code ({ cls := "TaylorModels$Arithmetic", name := "composeModels", desc := "(LTaylorModels$Model;LTaylorModels$Model;LTaylorModels$Model;LTaylorModels$Model;)Z" } : Jvm.MethodName) prog_2_method_7_code (7 : Nat) (Option.some Jvm.ClassFile.FieldType.boolean)) ∈ FW := fw_ix 606 (by decide +kernel) rfl
theorem kw_249 : (Jvm.Cond.instanceMethod ({ cls := "TaylorModels$Models", name := "copyFrom", desc := "(LTaylorModels$Models;)V" } : Jvm.MethodName)) ∈ FW := fw_ix 295 (by decide +kernel) rfl
theorem kw_250 : (Jvm.Cond.selects "TaylorModels$Models" ({ cls := "TaylorModels$Models", name := "copyFrom", desc := "(LTaylorModels$Models;)V" } : Jvm.MethodName) ({ cls := "TaylorModels$Models", name := "copyFrom", desc := "(LTaylorModels$Models;)V" } : Jvm.MethodName)) ∈ FW := fw_ix 296 (by decide +kernel) rfl
theorem kw_251 : (Jvm.Cond.code ({ cls := "TaylorModels$Models", name := "copyFrom", desc := "(LTaylorModels$Models;)V" } : Jvm.MethodName) prog_5_method_6_code (3 : Nat) (Option.none : Option Jvm.ClassFile.FieldType)) ∈ FW := fw_ix 297 (by decide +kernel) rfl
theorem kw_457 : (Jvm.Cond.instanceMethod ({ cls := "TaylorModels$Model", name := "setCoefficientAt", desc := "(IJ)V" } : Jvm.MethodName)) ∈ FW := fw_ix 503 (by decide +kernel) rfl
theorem kw_458 : (Jvm.Cond.selects "TaylorModels$Model" ({ cls := "TaylorModels$Model", name := "setCoefficientAt", desc := "(IJ)V" } : Jvm.MethodName) ({ cls := "TaylorModels$Model", name := "setCoefficientAt", desc := "(IJ)V" } : Jvm.MethodName)) ∈ FW := fw_ix 504 (by decide +kernel) rfl
theorem kw_459 : (Jvm.Cond.code ({ cls := "TaylorModels$Model", name := "setCoefficientAt", desc := "(IJ)V" } : Jvm.MethodName) prog_4_method_6_code (4 : Nat) (Option.none : Option Jvm.ClassFile.FieldType)) ∈ FW := fw_ix 505 (by decide +kernel) rfl
theorem kw_627 : (Jvm.Cond.static ({ cls := "java/lang/Integer", name := "bitCount", desc := "(I)I" } : Jvm.MethodName)) ∈ FW := fw_ix 673 (by decide +kernel) rfl
theorem kw_20 : (Jvm.Cond.initialized "java/lang/Integer") ∈ FW := fw_ix 66 (by decide +kernel) rfl
theorem kw_628 : (Jvm.Cond.code ({ cls := "java/lang/Integer", name := "bitCount", desc := "(I)I" } : Jvm.MethodName) prog_17_method_49_code (1 : Nat) (Option.some Jvm.ClassFile.FieldType.int)) ∈ FW := fw_ix 674 (by decide +kernel) rfl
theorem kw_358 : (Jvm.Cond.static ({ cls := "TaylorModels$SetupText", name := "kindOf", desc := "(I)I" } : Jvm.MethodName)) ∈ FW := fw_ix 404 (by decide +kernel) rfl
theorem kw_359 : (Jvm.Cond.code ({ cls := "TaylorModels$SetupText", name := "kindOf", desc := "(I)I" } : Jvm.MethodName) prog_7_method_4_code (1 : Nat) (Option.some Jvm.ClassFile.FieldType.int)) ∈ FW := fw_ix 405 (by decide +kernel) rfl
theorem kw_361 : (Jvm.Cond.instanceMethod ({ cls := "TaylorModels$SetupText", name := "advance", desc := "()V" } : Jvm.MethodName)) ∈ FW := fw_ix 407 (by decide +kernel) rfl
theorem kw_362 : (Jvm.Cond.selects "TaylorModels$SetupText" ({ cls := "TaylorModels$SetupText", name := "advance", desc := "()V" } : Jvm.MethodName) ({ cls := "TaylorModels$SetupText", name := "advance", desc := "()V" } : Jvm.MethodName)) ∈ FW := fw_ix 408 (by decide +kernel) rfl
theorem kw_363 : (Jvm.Cond.code ({ cls := "TaylorModels$SetupText", name := "advance", desc := "()V" } : Jvm.MethodName) prog_7_method_5_code (1 : Nat) (Option.none : Option Jvm.ClassFile.FieldType)) ∈ FW := fw_ix 409 (by decide +kernel) rfl
theorem kw_419 : (Jvm.Cond.instanceMethod ({ cls := "TaylorModels$SetupReader", name := "fail", desc := "(I)Z" } : Jvm.MethodName)) ∈ FW := fw_ix 465 (by decide +kernel) rfl
theorem kp_1 : (Jvm.Cond.selects "TaylorModels$SetupReader" ⟨"TaylorModels$SetupReader", "fail", "(I)Z"⟩ ⟨"TaylorModels$SetupReader", "fail", "(I)Z"⟩) ∈ FW := fw_ix 1 (by decide +kernel) rfl
theorem kw_420 : (Jvm.Cond.code ({ cls := "TaylorModels$SetupReader", name := "fail", desc := "(I)Z" } : Jvm.MethodName) prog_6_method_3_code (2 : Nat) (Option.some Jvm.ClassFile.FieldType.boolean)) ∈ FW := fw_ix 466 (by decide +kernel) rfl
theorem kw_541 : (Jvm.Cond.instanceMethod ({ cls := "TaylorModels$SetupText", name := "isNumber", desc := "()Z" } : Jvm.MethodName)) ∈ FW := fw_ix 587 (by decide +kernel) rfl
theorem kw_542 : (Jvm.Cond.selects "TaylorModels$SetupText" ({ cls := "TaylorModels$SetupText", name := "isNumber", desc := "()Z" } : Jvm.MethodName) ({ cls := "TaylorModels$SetupText", name := "isNumber", desc := "()Z" } : Jvm.MethodName)) ∈ FW := fw_ix 588 (by decide +kernel) rfl
theorem kw_543 : (Jvm.Cond.code ({ cls := "TaylorModels$SetupText", name := "isNumber", desc := "()Z" } : Jvm.MethodName) prog_7_method_8_code (1 : Nat) (Option.some Jvm.ClassFile.FieldType.boolean)) ∈ FW := fw_ix 589 (by decide +kernel) rfl
theorem kw_545 : (Jvm.Cond.instanceMethod ({ cls := "TaylorModels$SetupText", name := "number", desc := "()I" } : Jvm.MethodName)) ∈ FW := fw_ix 591 (by decide +kernel) rfl
theorem kw_546 : (Jvm.Cond.selects "TaylorModels$SetupText" ({ cls := "TaylorModels$SetupText", name := "number", desc := "()I" } : Jvm.MethodName) ({ cls := "TaylorModels$SetupText", name := "number", desc := "()I" } : Jvm.MethodName)) ∈ FW := fw_ix 592 (by decide +kernel) rfl
theorem kw_547 : (Jvm.Cond.code ({ cls := "TaylorModels$SetupText", name := "number", desc := "()I" } : Jvm.MethodName) prog_7_method_9_code (3 : Nat) (Option.some Jvm.ClassFile.FieldType.int)) ∈ FW := fw_ix 593 (by decide +kernel) rfl
theorem kw_538 : (Jvm.Cond.instanceMethod ({ cls := "TaylorModels$SetupReader", name := "checkNumber", desc := "()Z" } : Jvm.MethodName)) ∈ FW := fw_ix 584 (by decide +kernel) rfl
theorem kp_10 : (Jvm.Cond.selects "TaylorModels$SetupReader" ⟨"TaylorModels$SetupReader", "checkNumber", "()Z"⟩ ⟨"TaylorModels$SetupReader", "checkNumber", "()Z"⟩) ∈ FW := fw_ix 10 (by decide +kernel) rfl
theorem kw_539 : (Jvm.Cond.code ({ cls := "TaylorModels$SetupReader", name := "checkNumber", desc := "()Z" } : Jvm.MethodName) prog_6_method_7_code (1 : Nat) (Option.some Jvm.ClassFile.FieldType.boolean)) ∈ FW := fw_ix 585 (by decide +kernel) rfl
theorem kw_468 : (Jvm.Cond.instanceMethod ({ cls := "TaylorModels$SetupReader", name := "open", desc := "(II)Z" } : Jvm.MethodName)) ∈ FW := fw_ix 514 (by decide +kernel) rfl
theorem kp_7 : (Jvm.Cond.selects "TaylorModels$SetupReader" ⟨"TaylorModels$SetupReader", "open", "(II)Z"⟩ ⟨"TaylorModels$SetupReader", "open", "(II)Z"⟩) ∈ FW := fw_ix 7 (by decide +kernel) rfl
theorem kw_469 : (Jvm.Cond.code ({ cls := "TaylorModels$SetupReader", name := "open", desc := "(II)Z" } : Jvm.MethodName) prog_6_method_5_code (3 : Nat) (Option.some Jvm.ClassFile.FieldType.boolean)) ∈ FW := fw_ix 515 (by decide +kernel) rfl
theorem kw_432 : (Jvm.Cond.instanceMethod ({ cls := "TaylorModels$SetupReader", name := "readSum", desc := "(I)Z" } : Jvm.MethodName)) ∈ FW := fw_ix 478 (by decide +kernel) rfl
theorem kp_3 : (Jvm.Cond.selects "TaylorModels$SetupReader" ⟨"TaylorModels$SetupReader", "readSum", "(I)Z"⟩ ⟨"TaylorModels$SetupReader", "readSum", "(I)Z"⟩) ∈ FW := fw_ix 3 (by decide +kernel) rfl
theorem kw_433 : (Jvm.Cond.code ({ cls := "TaylorModels$SetupReader", name := "readSum", desc := "(I)Z" } : Jvm.MethodName) prog_6_method_8_code (6 : Nat) (Option.some Jvm.ClassFile.FieldType.boolean)) ∈ FW := fw_ix 479 (by decide +kernel) rfl
theorem kw_424 : (Jvm.Cond.instanceMethod ({ cls := "TaylorModels$SetupReader", name := "take", desc := "(I)Z" } : Jvm.MethodName)) ∈ FW := fw_ix 470 (by decide +kernel) rfl
theorem kp_2 : (Jvm.Cond.selects "TaylorModels$SetupReader" ⟨"TaylorModels$SetupReader", "take", "(I)Z"⟩ ⟨"TaylorModels$SetupReader", "take", "(I)Z"⟩) ∈ FW := fw_ix 2 (by decide +kernel) rfl
theorem kw_425 : (Jvm.Cond.code ({ cls := "TaylorModels$SetupReader", name := "take", desc := "(I)Z" } : Jvm.MethodName) prog_6_method_4_code (2 : Nat) (Option.some Jvm.ClassFile.FieldType.boolean)) ∈ FW := fw_ix 471 (by decide +kernel) rfl
theorem kw_366 : (Jvm.Cond.instanceMethod ({ cls := "TaylorModels$SetupText", name := "isWord", desc := "(Ljava/lang/String;)Z" } : Jvm.MethodName)) ∈ FW := fw_ix 412 (by decide +kernel) rfl
theorem kw_367 : (Jvm.Cond.selects "TaylorModels$SetupText" ({ cls := "TaylorModels$SetupText", name := "isWord", desc := "(Ljava/lang/String;)Z" } : Jvm.MethodName) ({ cls := "TaylorModels$SetupText", name := "isWord", desc := "(Ljava/lang/String;)Z" } : Jvm.MethodName)) ∈ FW := fw_ix 413 (by decide +kernel) rfl
theorem kw_368 : (Jvm.Cond.code ({ cls := "TaylorModels$SetupText", name := "isWord", desc := "(Ljava/lang/String;)Z" } : Jvm.MethodName) prog_7_method_6_code (3 : Nat) (Option.some Jvm.ClassFile.FieldType.boolean)) ∈ FW := fw_ix 414 (by decide +kernel) rfl
theorem kw_445 : (Jvm.Cond.instanceMethod ({ cls := "TaylorModels$Model", name := "becomeVariable", desc := "(I)V" } : Jvm.MethodName)) ∈ FW := fw_ix 491 (by decide +kernel) rfl
theorem kw_446 : (Jvm.Cond.selects "TaylorModels$Model" ({ cls := "TaylorModels$Model", name := "becomeVariable", desc := "(I)V" } : Jvm.MethodName) ({ cls := "TaylorModels$Model", name := "becomeVariable", desc := "(I)V" } : Jvm.MethodName)) ∈ FW := fw_ix 492 (by decide +kernel) rfl
theorem kw_447 : (Jvm.Cond.code ({ cls := "TaylorModels$Model", name := "becomeVariable", desc := "(I)V" } : Jvm.MethodName) prog_4_method_3_code (2 : Nat) (Option.none : Option Jvm.ClassFile.FieldType)) ∈ FW := fw_ix 493 (by decide +kernel) rfl
theorem kw_464 : (Jvm.Cond.instanceMethod ({ cls := "TaylorModels$SetupReader", name := "readParenthesis", desc := "(I)Z" } : Jvm.MethodName)) ∈ FW := fw_ix 510 (by decide +kernel) rfl
theorem kp_6 : (Jvm.Cond.selects "TaylorModels$SetupReader" ⟨"TaylorModels$SetupReader", "readParenthesis", "(I)Z"⟩ ⟨"TaylorModels$SetupReader", "readParenthesis", "(I)Z"⟩) ∈ FW := fw_ix 6 (by decide +kernel) rfl
theorem kw_465 : (Jvm.Cond.code ({ cls := "TaylorModels$SetupReader", name := "readParenthesis", desc := "(I)Z" } : Jvm.MethodName) prog_6_method_12_code (2 : Nat) (Option.some Jvm.ClassFile.FieldType.boolean)) ∈ FW := fw_ix 511 (by decide +kernel) rfl
theorem kw_472 : (Jvm.Cond.instanceMethod ({ cls := "TaylorModels$Arithmetic", name := "integrateModel", desc := "(LTaylorModels$Model;LTaylorModels$Model;I)Z" } : Jvm.MethodName)) ∈ FW := fw_ix 518 (by decide +kernel) rfl
theorem kw_473 : (Jvm.Cond.selects "TaylorModels$Arithmetic" ({ cls := "TaylorModels$Arithmetic", name := "integrateModel", desc := "(LTaylorModels$Model;LTaylorModels$Model;I)Z" } : Jvm.MethodName) ({ cls := "TaylorModels$Arithmetic", name := "integrateModel", desc := "(LTaylorModels$Model;LTaylorModels$Model;I)Z" } : Jvm.MethodName)) ∈ FW := fw_ix 519 (by decide +kernel) rfl
theorem kw_474 : (Jvm.Cond.code ({ cls := "TaylorModels$Arithmetic", name := "integrateModel", desc := "(LTaylorModels$Model;LTaylorModels$Model;I)Z" } : Jvm.MethodName) prog_2_method_8_code (7 : Nat) (Option.some Jvm.ClassFile.FieldType.boolean)) ∈ FW := fw_ix 520 (by decide +kernel) rfl
theorem kw_427 : (Jvm.Cond.instanceMethod ({ cls := "TaylorModels$SetupText", name := "name", desc := "()I" } : Jvm.MethodName)) ∈ FW := fw_ix 473 (by decide +kernel) rfl
theorem kw_428 : (Jvm.Cond.selects "TaylorModels$SetupText" ({ cls := "TaylorModels$SetupText", name := "name", desc := "()I" } : Jvm.MethodName) ({ cls := "TaylorModels$SetupText", name := "name", desc := "()I" } : Jvm.MethodName)) ∈ FW := fw_ix 474 (by decide +kernel) rfl
theorem kw_429 : (Jvm.Cond.code ({ cls := "TaylorModels$SetupText", name := "name", desc := "()I" } : Jvm.MethodName) prog_7_method_7_code (2 : Nat) (Option.some Jvm.ClassFile.FieldType.int)) ∈ FW := fw_ix 475 (by decide +kernel) rfl
theorem kw_264 : (Jvm.Cond.instanceMethod ({ cls := "TaylorModels$Models", name := "has", desc := "(I)Z" } : Jvm.MethodName)) ∈ FW := fw_ix 310 (by decide +kernel) rfl
theorem kw_265 : (Jvm.Cond.selects "TaylorModels$Models" ({ cls := "TaylorModels$Models", name := "has", desc := "(I)Z" } : Jvm.MethodName) ({ cls := "TaylorModels$Models", name := "has", desc := "(I)Z" } : Jvm.MethodName)) ∈ FW := fw_ix 311 (by decide +kernel) rfl
theorem kw_266 : (Jvm.Cond.code ({ cls := "TaylorModels$Models", name := "has", desc := "(I)Z" } : Jvm.MethodName) prog_5_method_2_code (2 : Nat) (Option.some Jvm.ClassFile.FieldType.boolean)) ∈ FW := fw_ix 312 (by decide +kernel) rfl
theorem kw_555 : (Jvm.Cond.instanceMethod ({ cls := "TaylorModels$SetupReader", name := "readBrackets", desc := "(I)Z" } : Jvm.MethodName)) ∈ FW := fw_ix 601 (by decide +kernel) rfl
theorem kp_11 : (Jvm.Cond.selects "TaylorModels$SetupReader" ⟨"TaylorModels$SetupReader", "readBrackets", "(I)Z"⟩ ⟨"TaylorModels$SetupReader", "readBrackets", "(I)Z"⟩) ∈ FW := fw_ix 11 (by decide +kernel) rfl
theorem kw_556 : (Jvm.Cond.code ({ cls := "TaylorModels$SetupReader", name := "readBrackets", desc := "(I)Z" } : Jvm.MethodName) prog_6_method_13_code (2 : Nat) (Option.some Jvm.ClassFile.FieldType.boolean)) ∈ FW := fw_ix 602 (by decide +kernel) rfl
theorem kw_534 : (Jvm.Cond.instanceMethod ({ cls := "TaylorModels$SetupReader", name := "readConstant", desc := "(LTaylorModels$Model;)Z" } : Jvm.MethodName)) ∈ FW := fw_ix 580 (by decide +kernel) rfl
theorem kp_9 : (Jvm.Cond.selects "TaylorModels$SetupReader" ⟨"TaylorModels$SetupReader", "readConstant", "(LTaylorModels$Model;)Z"⟩ ⟨"TaylorModels$SetupReader", "readConstant", "(LTaylorModels$Model;)Z"⟩) ∈ FW := fw_ix 9 (by decide +kernel) rfl
theorem kw_535 : (Jvm.Cond.code ({ cls := "TaylorModels$SetupReader", name := "readConstant", desc := "(LTaylorModels$Model;)Z" } : Jvm.MethodName) prog_6_method_11_code (2 : Nat) (Option.some Jvm.ClassFile.FieldType.boolean)) ∈ FW := fw_ix 581 (by decide +kernel) rfl
theorem kw_440 : (Jvm.Cond.instanceMethod ({ cls := "TaylorModels$SetupReader", name := "readFactor", desc := "(I)Z" } : Jvm.MethodName)) ∈ FW := fw_ix 486 (by decide +kernel) rfl
theorem kp_5 : (Jvm.Cond.selects "TaylorModels$SetupReader" ⟨"TaylorModels$SetupReader", "readFactor", "(I)Z"⟩ ⟨"TaylorModels$SetupReader", "readFactor", "(I)Z"⟩) ∈ FW := fw_ix 5 (by decide +kernel) rfl
theorem kw_441 : (Jvm.Cond.code ({ cls := "TaylorModels$SetupReader", name := "readFactor", desc := "(I)Z" } : Jvm.MethodName) prog_6_method_10_code (4 : Nat) (Option.some Jvm.ClassFile.FieldType.boolean)) ∈ FW := fw_ix 487 (by decide +kernel) rfl
theorem kw_436 : (Jvm.Cond.instanceMethod ({ cls := "TaylorModels$SetupReader", name := "readTerm", desc := "(I)Z" } : Jvm.MethodName)) ∈ FW := fw_ix 482 (by decide +kernel) rfl
theorem kp_4 : (Jvm.Cond.selects "TaylorModels$SetupReader" ⟨"TaylorModels$SetupReader", "readTerm", "(I)Z"⟩ ⟨"TaylorModels$SetupReader", "readTerm", "(I)Z"⟩) ∈ FW := fw_ix 4 (by decide +kernel) rfl
theorem kw_437 : (Jvm.Cond.code ({ cls := "TaylorModels$SetupReader", name := "readTerm", desc := "(I)Z" } : Jvm.MethodName) prog_6_method_9_code (4 : Nat) (Option.some Jvm.ClassFile.FieldType.boolean)) ∈ FW := fw_ix 483 (by decide +kernel) rfl
theorem kw_603 : (Jvm.Cond.instanceMethod ({ cls := "TaylorModels$Arithmetic", name := "subtractModels", desc := "(LTaylorModels$Model;LTaylorModels$Model;LTaylorModels$Model;)Z" } : Jvm.MethodName)) ∈ FW := fw_ix 649 (by decide +kernel) rfl
theorem kw_604 : (Jvm.Cond.selects "TaylorModels$Arithmetic" ({ cls := "TaylorModels$Arithmetic", name := "subtractModels", desc := "(LTaylorModels$Model;LTaylorModels$Model;LTaylorModels$Model;)Z" } : Jvm.MethodName) ({ cls := "TaylorModels$Arithmetic", name := "subtractModels", desc := "(LTaylorModels$Model;LTaylorModels$Model;LTaylorModels$Model;)Z" } : Jvm.MethodName)) ∈ FW := fw_ix 650 (by decide +kernel) rfl
theorem kw_605 : (Jvm.Cond.code ({ cls := "TaylorModels$Arithmetic", name := "subtractModels", desc := "(LTaylorModels$Model;LTaylorModels$Model;LTaylorModels$Model;)Z" } : Jvm.MethodName) prog_2_method_3_code (8 : Nat) (Option.some Jvm.ClassFile.FieldType.boolean)) ∈ FW := fw_ix 651 (by decide +kernel) rfl
theorem kw_354 : (Jvm.Cond.instanceMethod ({ cls := "TaylorModels$SetupText", name := "split", desc := "(I)V" } : Jvm.MethodName)) ∈ FW := fw_ix 400 (by decide +kernel) rfl
theorem kw_355 : (Jvm.Cond.selects "TaylorModels$SetupText" ({ cls := "TaylorModels$SetupText", name := "split", desc := "(I)V" } : Jvm.MethodName) ({ cls := "TaylorModels$SetupText", name := "split", desc := "(I)V" } : Jvm.MethodName)) ∈ FW := fw_ix 401 (by decide +kernel) rfl
theorem kw_356 : (Jvm.Cond.code ({ cls := "TaylorModels$SetupText", name := "split", desc := "(I)V" } : Jvm.MethodName) prog_7_method_3_code (6 : Nat) (Option.none : Option Jvm.ClassFile.FieldType)) ∈ FW := fw_ix 402 (by decide +kernel) rfl
theorem kw_608 : (Jvm.Cond.instanceMethod ({ cls := "TaylorModels$SetupReader", name := "readUncertainty", desc := "()Z" } : Jvm.MethodName)) ∈ FW := fw_ix 654 (by decide +kernel) rfl
theorem kp_14 : (Jvm.Cond.selects "TaylorModels$SetupReader" ⟨"TaylorModels$SetupReader", "readUncertainty", "()Z"⟩ ⟨"TaylorModels$SetupReader", "readUncertainty", "()Z"⟩) ∈ FW := fw_ix 14 (by decide +kernel) rfl
theorem kw_609 : (Jvm.Cond.code ({ cls := "TaylorModels$SetupReader", name := "readUncertainty", desc := "()Z" } : Jvm.MethodName) prog_6_method_6_code (1 : Nat) (Option.some Jvm.ClassFile.FieldType.boolean)) ∈ FW := fw_ix 655 (by decide +kernel) rfl
theorem kw_613 : (Jvm.Cond.instanceMethod ({ cls := "TaylorModels$Models", name := "define", desc := "(ILTaylorModels$Model;)V" } : Jvm.MethodName)) ∈ FW := fw_ix 659 (by decide +kernel) rfl
theorem kw_614 : (Jvm.Cond.selects "TaylorModels$Models" ({ cls := "TaylorModels$Models", name := "define", desc := "(ILTaylorModels$Model;)V" } : Jvm.MethodName) ({ cls := "TaylorModels$Models", name := "define", desc := "(ILTaylorModels$Model;)V" } : Jvm.MethodName)) ∈ FW := fw_ix 660 (by decide +kernel) rfl
theorem kw_615 : (Jvm.Cond.code ({ cls := "TaylorModels$Models", name := "define", desc := "(ILTaylorModels$Model;)V" } : Jvm.MethodName) prog_5_method_4_code (3 : Nat) (Option.none : Option Jvm.ClassFile.FieldType)) ∈ FW := fw_ix 661 (by decide +kernel) rfl
theorem kw_229 : (Jvm.Cond.instanceMethod ({ cls := "TaylorModels$SetupText", name := "putWord", desc := "(I)V" } : Jvm.MethodName)) ∈ FW := fw_ix 275 (by decide +kernel) rfl
theorem kw_230 : (Jvm.Cond.selects "TaylorModels$SetupText" ({ cls := "TaylorModels$SetupText", name := "putWord", desc := "(I)V" } : Jvm.MethodName) ({ cls := "TaylorModels$SetupText", name := "putWord", desc := "(I)V" } : Jvm.MethodName)) ∈ FW := fw_ix 276 (by decide +kernel) rfl
theorem kw_231 : (Jvm.Cond.code ({ cls := "TaylorModels$SetupText", name := "putWord", desc := "(I)V" } : Jvm.MethodName) prog_7_method_2_code (3 : Nat) (Option.none : Option Jvm.ClassFile.FieldType)) ∈ FW := fw_ix 277 (by decide +kernel) rfl
theorem kw_350 : (Jvm.Cond.instanceMethod ({ cls := "TaylorModels$SetupReader", name := "readSetup", desc := "(I)Z" } : Jvm.MethodName)) ∈ FW := fw_ix 396 (by decide +kernel) rfl
theorem kw_351 : (Jvm.Cond.selects "TaylorModels$SetupReader" ({ cls := "TaylorModels$SetupReader", name := "readSetup", desc := "(I)Z" } : Jvm.MethodName) ({ cls := "TaylorModels$SetupReader", name := "readSetup", desc := "(I)Z" } : Jvm.MethodName)) ∈ FW := fw_ix 397 (by decide +kernel) rfl
theorem kw_352 : (Jvm.Cond.code ({ cls := "TaylorModels$SetupReader", name := "readSetup", desc := "(I)Z" } : Jvm.MethodName) prog_6_method_2_code (4 : Nat) (Option.some Jvm.ClassFile.FieldType.boolean)) ∈ FW := fw_ix 398 (by decide +kernel) rfl
theorem kw_617 : (Jvm.Cond.instanceMethod ({ cls := "TaylorModels$History", name := "remember", desc := "(LTaylorModels$Models;)V" } : Jvm.MethodName)) ∈ FW := fw_ix 663 (by decide +kernel) rfl
theorem kw_618 : (Jvm.Cond.selects "TaylorModels$History" ({ cls := "TaylorModels$History", name := "remember", desc := "(LTaylorModels$Models;)V" } : Jvm.MethodName) ({ cls := "TaylorModels$History", name := "remember", desc := "(LTaylorModels$Models;)V" } : Jvm.MethodName)) ∈ FW := fw_ix 664 (by decide +kernel) rfl
theorem kw_619 : (Jvm.Cond.code ({ cls := "TaylorModels$History", name := "remember", desc := "(LTaylorModels$Models;)V" } : Jvm.MethodName) prog_3_method_2_code (2 : Nat) (Option.none : Option Jvm.ClassFile.FieldType)) ∈ FW := fw_ix 665 (by decide +kernel) rfl
theorem kw_623 : (Jvm.Cond.instanceMethod ({ cls := "TaylorModels$Models", name := "count", desc := "()I" } : Jvm.MethodName)) ∈ FW := fw_ix 669 (by decide +kernel) rfl
theorem kw_624 : (Jvm.Cond.selects "TaylorModels$Models" ({ cls := "TaylorModels$Models", name := "count", desc := "()I" } : Jvm.MethodName) ({ cls := "TaylorModels$Models", name := "count", desc := "()I" } : Jvm.MethodName)) ∈ FW := fw_ix 670 (by decide +kernel) rfl
theorem kw_625 : (Jvm.Cond.code ({ cls := "TaylorModels$Models", name := "count", desc := "()I" } : Jvm.MethodName) prog_5_method_3_code (1 : Nat) (Option.some Jvm.ClassFile.FieldType.int)) ∈ FW := fw_ix 671 (by decide +kernel) rfl
theorem kw_642 : (Jvm.Cond.static ({ cls := "TaylorModels", name := "requireIndex", desc := "(I)V" } : Jvm.MethodName)) ∈ FW := fw_ix 688 (by decide +kernel) rfl
theorem kw_643 : (Jvm.Cond.code ({ cls := "TaylorModels", name := "requireIndex", desc := "(I)V" } : Jvm.MethodName) prog_1_method_26_code (1 : Nat) (Option.none : Option Jvm.ClassFile.FieldType)) ∈ FW := fw_ix 689 (by decide +kernel) rfl
theorem kw_662 : (Jvm.Cond.instanceMethod ({ cls := "TaylorModels", name := "requireDefined", desc := "(I)LTaylorModels$Model;" } : Jvm.MethodName)) ∈ FW := fw_ix 708 (by decide +kernel) rfl
theorem kp_15 : (Jvm.Cond.selects "TaylorModels" ⟨"TaylorModels", "requireDefined", "(I)LTaylorModels$Model;"⟩ ⟨"TaylorModels", "requireDefined", "(I)LTaylorModels$Model;"⟩) ∈ FW := fw_ix 15 (by decide +kernel) rfl
theorem kw_663 : (Jvm.Cond.code ({ cls := "TaylorModels", name := "requireDefined", desc := "(I)LTaylorModels$Model;" } : Jvm.MethodName) prog_1_method_27_code (2 : Nat) (Option.some (Jvm.ClassFile.FieldType.object "TaylorModels$Model"))) ∈ FW := fw_ix 709 (by decide +kernel) rfl
theorem kw_681 : (Jvm.Cond.static ({ cls := "TaylorModels", name := "requireSlot", desc := "(II)I" } : Jvm.MethodName)) ∈ FW := fw_ix 727 (by decide +kernel) rfl
theorem kw_682 : (Jvm.Cond.code ({ cls := "TaylorModels", name := "requireSlot", desc := "(II)I" } : Jvm.MethodName) prog_1_method_28_code (3 : Nat) (Option.some Jvm.ClassFile.FieldType.int)) ∈ FW := fw_ix 728 (by decide +kernel) rfl
theorem kw_686 : (Jvm.Cond.instanceMethod ({ cls := "TaylorModels$Model", name := "coefficientAt", desc := "(I)J" } : Jvm.MethodName)) ∈ FW := fw_ix 732 (by decide +kernel) rfl
theorem kw_687 : (Jvm.Cond.selects "TaylorModels$Model" ({ cls := "TaylorModels$Model", name := "coefficientAt", desc := "(I)J" } : Jvm.MethodName) ({ cls := "TaylorModels$Model", name := "coefficientAt", desc := "(I)J" } : Jvm.MethodName)) ∈ FW := fw_ix 733 (by decide +kernel) rfl
theorem kw_688 : (Jvm.Cond.code ({ cls := "TaylorModels$Model", name := "coefficientAt", desc := "(I)J" } : Jvm.MethodName) prog_4_method_5_code (2 : Nat) (Option.some Jvm.ClassFile.FieldType.long)) ∈ FW := fw_ix 734 (by decide +kernel) rfl
theorem kw_697 : (Jvm.Cond.static ({ cls := "TaylorModels", name := "requireZeroOrOne", desc := "(I)V" } : Jvm.MethodName)) ∈ FW := fw_ix 743 (by decide +kernel) rfl
theorem kw_698 : (Jvm.Cond.code ({ cls := "TaylorModels", name := "requireZeroOrOne", desc := "(I)V" } : Jvm.MethodName) prog_1_method_29_code (1 : Nat) (Option.none : Option Jvm.ClassFile.FieldType)) ∈ FW := fw_ix 744 (by decide +kernel) rfl
theorem kw_712 : (Jvm.Cond.instanceMethod ({ cls := "TaylorModels$Model", name := "boundHigh", desc := "()J" } : Jvm.MethodName)) ∈ FW := fw_ix 758 (by decide +kernel) rfl
theorem kw_713 : (Jvm.Cond.selects "TaylorModels$Model" ({ cls := "TaylorModels$Model", name := "boundHigh", desc := "()J" } : Jvm.MethodName) ({ cls := "TaylorModels$Model", name := "boundHigh", desc := "()J" } : Jvm.MethodName)) ∈ FW := fw_ix 759 (by decide +kernel) rfl
theorem kw_714 : (Jvm.Cond.code ({ cls := "TaylorModels$Model", name := "boundHigh", desc := "()J" } : Jvm.MethodName) prog_4_method_14_code (1 : Nat) (Option.some Jvm.ClassFile.FieldType.long)) ∈ FW := fw_ix 760 (by decide +kernel) rfl
theorem kw_708 : (Jvm.Cond.instanceMethod ({ cls := "TaylorModels$Model", name := "boundLow", desc := "()J" } : Jvm.MethodName)) ∈ FW := fw_ix 754 (by decide +kernel) rfl
theorem kw_709 : (Jvm.Cond.selects "TaylorModels$Model" ({ cls := "TaylorModels$Model", name := "boundLow", desc := "()J" } : Jvm.MethodName) ({ cls := "TaylorModels$Model", name := "boundLow", desc := "()J" } : Jvm.MethodName)) ∈ FW := fw_ix 755 (by decide +kernel) rfl
theorem kw_710 : (Jvm.Cond.code ({ cls := "TaylorModels$Model", name := "boundLow", desc := "()J" } : Jvm.MethodName) prog_4_method_13_code (1 : Nat) (Option.some Jvm.ClassFile.FieldType.long)) ∈ FW := fw_ix 756 (by decide +kernel) rfl
theorem kw_725 : (Jvm.Cond.static ({ cls := "TaylorModels", name := "requireBetween", desc := "(JJJ)V" } : Jvm.MethodName)) ∈ FW := fw_ix 771 (by decide +kernel) rfl
theorem kw_726 : (Jvm.Cond.code ({ cls := "TaylorModels", name := "requireBetween", desc := "(JJJ)V" } : Jvm.MethodName) prog_1_method_30_code (6 : Nat) (Option.none : Option Jvm.ClassFile.FieldType)) ∈ FW := fw_ix 772 (by decide +kernel) rfl
theorem kw_729 : (Jvm.Cond.instanceMethod ({ cls := "TaylorModels$Model", name := "valueInBillionths", desc := "(JJ)J" } : Jvm.MethodName)) ∈ FW := fw_ix 775 (by decide +kernel) rfl
theorem kw_730 : (Jvm.Cond.selects "TaylorModels$Model" ({ cls := "TaylorModels$Model", name := "valueInBillionths", desc := "(JJ)J" } : Jvm.MethodName) ({ cls := "TaylorModels$Model", name := "valueInBillionths", desc := "(JJ)J" } : Jvm.MethodName)) ∈ FW := fw_ix 776 (by decide +kernel) rfl
theorem kw_731 : (Jvm.Cond.code ({ cls := "TaylorModels$Model", name := "valueInBillionths", desc := "(JJ)J" } : Jvm.MethodName) prog_4_method_16_code (11 : Nat) (Option.some Jvm.ClassFile.FieldType.long)) ∈ FW := fw_ix 777 (by decide +kernel) rfl
theorem kw_744 : (Jvm.Cond.instanceMethod ({ cls := "TaylorModels$Model", name := "highestDegree", desc := "()I" } : Jvm.MethodName)) ∈ FW := fw_ix 790 (by decide +kernel) rfl
theorem kw_745 : (Jvm.Cond.selects "TaylorModels$Model" ({ cls := "TaylorModels$Model", name := "highestDegree", desc := "()I" } : Jvm.MethodName) ({ cls := "TaylorModels$Model", name := "highestDegree", desc := "()I" } : Jvm.MethodName)) ∈ FW := fw_ix 791 (by decide +kernel) rfl
theorem kw_746 : (Jvm.Cond.code ({ cls := "TaylorModels$Model", name := "highestDegree", desc := "()I" } : Jvm.MethodName) prog_4_method_17_code (3 : Nat) (Option.some Jvm.ClassFile.FieldType.int)) ∈ FW := fw_ix 792 (by decide +kernel) rfl
theorem kw_756 : (Jvm.Cond.instanceMethod ({ cls := "TaylorModels$Model", name := "contains", desc := "(LTaylorModels$Model;)Z" } : Jvm.MethodName)) ∈ FW := fw_ix 802 (by decide +kernel) rfl
theorem kw_757 : (Jvm.Cond.selects "TaylorModels$Model" ({ cls := "TaylorModels$Model", name := "contains", desc := "(LTaylorModels$Model;)Z" } : Jvm.MethodName) ({ cls := "TaylorModels$Model", name := "contains", desc := "(LTaylorModels$Model;)Z" } : Jvm.MethodName)) ∈ FW := fw_ix 803 (by decide +kernel) rfl
theorem kw_758 : (Jvm.Cond.code ({ cls := "TaylorModels$Model", name := "contains", desc := "(LTaylorModels$Model;)Z" } : Jvm.MethodName) prog_4_method_18_code (9 : Nat) (Option.some Jvm.ClassFile.FieldType.boolean)) ∈ FW := fw_ix 804 (by decide +kernel) rfl
theorem kw_801 : (Jvm.Cond.instanceMethod ({ cls := "TaylorModels$Model", name := "width", desc := "()I" } : Jvm.MethodName)) ∈ FW := fw_ix 847 (by decide +kernel) rfl
theorem kw_802 : (Jvm.Cond.selects "TaylorModels$Model" ({ cls := "TaylorModels$Model", name := "width", desc := "()I" } : Jvm.MethodName) ({ cls := "TaylorModels$Model", name := "width", desc := "()I" } : Jvm.MethodName)) ∈ FW := fw_ix 848 (by decide +kernel) rfl
theorem kw_803 : (Jvm.Cond.code ({ cls := "TaylorModels$Model", name := "width", desc := "()I" } : Jvm.MethodName) prog_4_method_9_code (1 : Nat) (Option.some Jvm.ClassFile.FieldType.int)) ∈ FW := fw_ix 849 (by decide +kernel) rfl
theorem kw_781 : (Jvm.Cond.instanceMethod ({ cls := "TaylorModels", name := "settle", desc := "(IZ)I" } : Jvm.MethodName)) ∈ FW := fw_ix 827 (by decide +kernel) rfl
theorem kp_16 : (Jvm.Cond.selects "TaylorModels" ⟨"TaylorModels", "settle", "(IZ)I"⟩ ⟨"TaylorModels", "settle", "(IZ)I"⟩) ∈ FW := fw_ix 16 (by decide +kernel) rfl
theorem kw_782 : (Jvm.Cond.code ({ cls := "TaylorModels", name := "settle", desc := "(IZ)I" } : Jvm.MethodName) prog_1_method_31_code (3 : Nat) (Option.some Jvm.ClassFile.FieldType.int)) ∈ FW := fw_ix 828 (by decide +kernel) rfl
theorem kw_844 : (Jvm.Cond.instanceMethod ({ cls := "TaylorModels$Arithmetic", name := "moveModels", desc := "(LTaylorModels$Model;LTaylorModels$Model;LTaylorModels$Model;LTaylorModels$Model;J)Z" } : Jvm.MethodName)) ∈ FW := fw_ix 890 (by decide +kernel) rfl
theorem kw_845 : (Jvm.Cond.selects "TaylorModels$Arithmetic" ({ cls := "TaylorModels$Arithmetic", name := "moveModels", desc := "(LTaylorModels$Model;LTaylorModels$Model;LTaylorModels$Model;LTaylorModels$Model;J)Z" } : Jvm.MethodName) ({ cls := "TaylorModels$Arithmetic", name := "moveModels", desc := "(LTaylorModels$Model;LTaylorModels$Model;LTaylorModels$Model;LTaylorModels$Model;J)Z" } : Jvm.MethodName)) ∈ FW := fw_ix 891 (by decide +kernel) rfl
theorem kw_846 : (Jvm.Cond.code ({ cls := "TaylorModels$Arithmetic", name := "moveModels", desc := "(LTaylorModels$Model;LTaylorModels$Model;LTaylorModels$Model;LTaylorModels$Model;J)Z" } : Jvm.MethodName) prog_2_method_10_code (7 : Nat) (Option.some Jvm.ClassFile.FieldType.boolean)) ∈ FW := fw_ix 892 (by decide +kernel) rfl
theorem kw_858 : (Jvm.Cond.instanceMethod ({ cls := "TaylorModels$Model", name := "sweepUpTo", desc := "(J)I" } : Jvm.MethodName)) ∈ FW := fw_ix 904 (by decide +kernel) rfl
theorem kw_859 : (Jvm.Cond.selects "TaylorModels$Model" ({ cls := "TaylorModels$Model", name := "sweepUpTo", desc := "(J)I" } : Jvm.MethodName) ({ cls := "TaylorModels$Model", name := "sweepUpTo", desc := "(J)I" } : Jvm.MethodName)) ∈ FW := fw_ix 905 (by decide +kernel) rfl
theorem kw_860 : (Jvm.Cond.code ({ cls := "TaylorModels$Model", name := "sweepUpTo", desc := "(J)I" } : Jvm.MethodName) prog_4_method_19_code (7 : Nat) (Option.some Jvm.ClassFile.FieldType.int)) ∈ FW := fw_ix 906 (by decide +kernel) rfl
theorem kw_896 : (Jvm.Cond.instanceMethod ({ cls := "TaylorModels$Models", name := "remove", desc := "(I)V" } : Jvm.MethodName)) ∈ FW := fw_ix 942 (by decide +kernel) rfl
theorem kw_897 : (Jvm.Cond.selects "TaylorModels$Models" ({ cls := "TaylorModels$Models", name := "remove", desc := "(I)V" } : Jvm.MethodName) ({ cls := "TaylorModels$Models", name := "remove", desc := "(I)V" } : Jvm.MethodName)) ∈ FW := fw_ix 943 (by decide +kernel) rfl
theorem kw_898 : (Jvm.Cond.code ({ cls := "TaylorModels$Models", name := "remove", desc := "(I)V" } : Jvm.MethodName) prog_5_method_5_code (2 : Nat) (Option.none : Option Jvm.ClassFile.FieldType)) ∈ FW := fw_ix 944 (by decide +kernel) rfl
theorem kw_245 : (Jvm.Cond.instanceMethod ({ cls := "TaylorModels$History", name := "restore", desc := "(LTaylorModels$Models;)Z" } : Jvm.MethodName)) ∈ FW := fw_ix 291 (by decide +kernel) rfl
theorem kw_246 : (Jvm.Cond.selects "TaylorModels$History" ({ cls := "TaylorModels$History", name := "restore", desc := "(LTaylorModels$Models;)Z" } : Jvm.MethodName) ({ cls := "TaylorModels$History", name := "restore", desc := "(LTaylorModels$Models;)Z" } : Jvm.MethodName)) ∈ FW := fw_ix 292 (by decide +kernel) rfl
theorem kw_247 : (Jvm.Cond.code ({ cls := "TaylorModels$History", name := "restore", desc := "(LTaylorModels$Models;)Z" } : Jvm.MethodName) prog_3_method_3_code (3 : Nat) (Option.some Jvm.ClassFile.FieldType.boolean)) ∈ FW := fw_ix 293 (by decide +kernel) rfl
theorem kw_268 : (Jvm.Cond.instanceMethod ({ cls := "TaylorModels$Model", name := "addToChecksum", desc := "(J)J" } : Jvm.MethodName)) ∈ FW := fw_ix 314 (by decide +kernel) rfl
theorem kw_269 : (Jvm.Cond.selects "TaylorModels$Model" ({ cls := "TaylorModels$Model", name := "addToChecksum", desc := "(J)J" } : Jvm.MethodName) ({ cls := "TaylorModels$Model", name := "addToChecksum", desc := "(J)J" } : Jvm.MethodName)) ∈ FW := fw_ix 315 (by decide +kernel) rfl
theorem kw_270 : (Jvm.Cond.code ({ cls := "TaylorModels$Model", name := "addToChecksum", desc := "(J)J" } : Jvm.MethodName) prog_4_method_20_code (6 : Nat) (Option.some Jvm.ClassFile.FieldType.long)) ∈ FW := fw_ix 316 (by decide +kernel) rfl
theorem kw_1120 : (Jvm.Cond.static ({ cls := "TaylorModelsModel", name := "down", desc := "(JJ)J" } : Jvm.MethodName)) ∈ FW := fw_ix 1166 (by decide +kernel) rfl
theorem kw_1121 : (Jvm.Cond.code ({ cls := "TaylorModelsModel", name := "down", desc := "(JJ)J" } : Jvm.MethodName) prog_9_method_17_code (4 : Nat) (Option.some Jvm.ClassFile.FieldType.long)) ∈ FW := fw_ix 1167 (by decide +kernel) rfl
theorem kw_1117 : (Jvm.Cond.static ({ cls := "TaylorModelsModel", name := "smaller", desc := "(JJ)J" } : Jvm.MethodName)) ∈ FW := fw_ix 1163 (by decide +kernel) rfl
theorem kw_1118 : (Jvm.Cond.code ({ cls := "TaylorModelsModel", name := "smaller", desc := "(JJ)J" } : Jvm.MethodName) prog_9_method_15_code (4 : Nat) (Option.some Jvm.ClassFile.FieldType.long)) ∈ FW := fw_ix 1164 (by decide +kernel) rfl
theorem kw_1114 : (Jvm.Cond.static ({ cls := "TaylorModelsModel", name := "low", desc := "(JII)J" } : Jvm.MethodName)) ∈ FW := fw_ix 1160 (by decide +kernel) rfl
theorem kw_1115 : (Jvm.Cond.code ({ cls := "TaylorModelsModel", name := "low", desc := "(JII)J" } : Jvm.MethodName) prog_9_method_19_code (4 : Nat) (Option.some Jvm.ClassFile.FieldType.long)) ∈ FW := fw_ix 1161 (by decide +kernel) rfl
theorem kw_1108 : (Jvm.Cond.static ({ cls := "TaylorModelsModel", name := "iOf", desc := "(I)I" } : Jvm.MethodName)) ∈ FW := fw_ix 1154 (by decide +kernel) rfl
theorem kw_1109 : (Jvm.Cond.code ({ cls := "TaylorModelsModel", name := "iOf", desc := "(I)I" } : Jvm.MethodName) prog_9_method_13_code (1 : Nat) (Option.some Jvm.ClassFile.FieldType.int)) ∈ FW := fw_ix 1155 (by decide +kernel) rfl
theorem kw_1111 : (Jvm.Cond.static ({ cls := "TaylorModelsModel", name := "jOf", desc := "(I)I" } : Jvm.MethodName)) ∈ FW := fw_ix 1157 (by decide +kernel) rfl
theorem kw_1112 : (Jvm.Cond.code ({ cls := "TaylorModelsModel", name := "jOf", desc := "(I)I" } : Jvm.MethodName) prog_9_method_14_code (1 : Nat) (Option.some Jvm.ClassFile.FieldType.int)) ∈ FW := fw_ix 1158 (by decide +kernel) rfl
theorem kw_1123 : (Jvm.Cond.static ({ cls := "TaylorModelsModel", name := "high", desc := "(JII)J" } : Jvm.MethodName)) ∈ FW := fw_ix 1169 (by decide +kernel) rfl
theorem kw_1124 : (Jvm.Cond.code ({ cls := "TaylorModelsModel", name := "high", desc := "(JII)J" } : Jvm.MethodName) prog_9_method_20_code (4 : Nat) (Option.some Jvm.ClassFile.FieldType.long)) ∈ FW := fw_ix 1170 (by decide +kernel) rfl
theorem kw_1159 : (Jvm.Cond.static ({ cls := "TaylorModelsModel", name := "spreadLow", desc := "([J)J" } : Jvm.MethodName)) ∈ FW := fw_ix 1205 (by decide +kernel) rfl
theorem kw_1160 : (Jvm.Cond.code ({ cls := "TaylorModelsModel", name := "spreadLow", desc := "([J)J" } : Jvm.MethodName) prog_9_method_21_code (4 : Nat) (Option.some Jvm.ClassFile.FieldType.long)) ∈ FW := fw_ix 1206 (by decide +kernel) rfl
theorem kw_1163 : (Jvm.Cond.static ({ cls := "TaylorModelsModel", name := "spreadHigh", desc := "([J)J" } : Jvm.MethodName)) ∈ FW := fw_ix 1209 (by decide +kernel) rfl
theorem kw_1164 : (Jvm.Cond.code ({ cls := "TaylorModelsModel", name := "spreadHigh", desc := "([J)J" } : Jvm.MethodName) prog_9_method_22_code (4 : Nat) (Option.some Jvm.ClassFile.FieldType.long)) ∈ FW := fw_ix 1210 (by decide +kernel) rfl
theorem kw_1132 : (Jvm.Cond.static ({ cls := "TaylorModelsModel", name := "isSmall", desc := "([J)Z" } : Jvm.MethodName)) ∈ FW := fw_ix 1178 (by decide +kernel) rfl
theorem kw_1133 : (Jvm.Cond.code ({ cls := "TaylorModelsModel", name := "isSmall", desc := "([J)Z" } : Jvm.MethodName) prog_9_method_23_code (3 : Nat) (Option.some Jvm.ClassFile.FieldType.boolean)) ∈ FW := fw_ix 1179 (by decide +kernel) rfl
theorem kw_1129 : (Jvm.Cond.static ({ cls := "TaylorModelsModel", name := "greater", desc := "(JJ)J" } : Jvm.MethodName)) ∈ FW := fw_ix 1175 (by decide +kernel) rfl
theorem kw_1130 : (Jvm.Cond.code ({ cls := "TaylorModelsModel", name := "greater", desc := "(JJ)J" } : Jvm.MethodName) prog_9_method_16_code (4 : Nat) (Option.some Jvm.ClassFile.FieldType.long)) ∈ FW := fw_ix 1176 (by decide +kernel) rfl
theorem kw_1171 : (Jvm.Cond.instanceMethod ({ cls := "TaylorModelsModel", name := "layProducts", desc := "([J[J)V" } : Jvm.MethodName)) ∈ FW := fw_ix 1217 (by decide +kernel) rfl
theorem kp_38 : (Jvm.Cond.selects "TaylorModelsModel" ⟨"TaylorModelsModel", "layProducts", "([J[J)V"⟩ ⟨"TaylorModelsModel", "layProducts", "([J[J)V"⟩) ∈ FW := fw_ix 38 (by decide +kernel) rfl
theorem kw_1172 : (Jvm.Cond.code ({ cls := "TaylorModelsModel", name := "layProducts", desc := "([J[J)V" } : Jvm.MethodName) prog_9_method_28_code (5 : Nat) (Option.none : Option Jvm.ClassFile.FieldType)) ∈ FW := fw_ix 1218 (by decide +kernel) rfl
theorem kw_1067 : (Jvm.Cond.static ({ cls := "TaylorModelsModel", name := "clearRow", desc := "([J)V" } : Jvm.MethodName)) ∈ FW := fw_ix 1113 (by decide +kernel) rfl
theorem kw_1068 : (Jvm.Cond.code ({ cls := "TaylorModelsModel", name := "clearRow", desc := "([J)V" } : Jvm.MethodName) prog_9_method_7_code (2 : Nat) (Option.none : Option Jvm.ClassFile.FieldType)) ∈ FW := fw_ix 1114 (by decide +kernel) rfl
theorem kw_1094 : (Jvm.Cond.static ({ cls := "TaylorModelsModel", name := "place", desc := "(II)I" } : Jvm.MethodName)) ∈ FW := fw_ix 1140 (by decide +kernel) rfl
theorem kw_1095 : (Jvm.Cond.code ({ cls := "TaylorModelsModel", name := "place", desc := "(II)I" } : Jvm.MethodName) prog_9_method_12_code (2 : Nat) (Option.some Jvm.ClassFile.FieldType.int)) ∈ FW := fw_ix 1141 (by decide +kernel) rfl
theorem kw_1174 : (Jvm.Cond.static ({ cls := "TaylorModelsModel", name := "leastProduct", desc := "(JJJJ)J" } : Jvm.MethodName)) ∈ FW := fw_ix 1220 (by decide +kernel) rfl
theorem kw_1175 : (Jvm.Cond.code ({ cls := "TaylorModelsModel", name := "leastProduct", desc := "(JJJJ)J" } : Jvm.MethodName) prog_9_method_26_code (8 : Nat) (Option.some Jvm.ClassFile.FieldType.long)) ∈ FW := fw_ix 1221 (by decide +kernel) rfl
theorem kw_1177 : (Jvm.Cond.static ({ cls := "TaylorModelsModel", name := "greatestProduct", desc := "(JJJJ)J" } : Jvm.MethodName)) ∈ FW := fw_ix 1223 (by decide +kernel) rfl
theorem kw_1178 : (Jvm.Cond.code ({ cls := "TaylorModelsModel", name := "greatestProduct", desc := "(JJJJ)J" } : Jvm.MethodName) prog_9_method_27_code (8 : Nat) (Option.some Jvm.ClassFile.FieldType.long)) ∈ FW := fw_ix 1224 (by decide +kernel) rfl
theorem kw_1126 : (Jvm.Cond.static ({ cls := "TaylorModelsModel", name := "up", desc := "(JJ)J" } : Jvm.MethodName)) ∈ FW := fw_ix 1172 (by decide +kernel) rfl
theorem kw_1127 : (Jvm.Cond.code ({ cls := "TaylorModelsModel", name := "up", desc := "(JJ)J" } : Jvm.MethodName) prog_9_method_18_code (4 : Nat) (Option.some Jvm.ClassFile.FieldType.long)) ∈ FW := fw_ix 1173 (by decide +kernel) rfl
theorem kw_1090 : (Jvm.Cond.static ({ cls := "TaylorModelsModel", name := "copyRow", desc := "([J[J)V" } : Jvm.MethodName)) ∈ FW := fw_ix 1136 (by decide +kernel) rfl
theorem kw_1091 : (Jvm.Cond.code ({ cls := "TaylorModelsModel", name := "copyRow", desc := "([J[J)V" } : Jvm.MethodName) prog_9_method_8_code (3 : Nat) (Option.none : Option Jvm.ClassFile.FieldType)) ∈ FW := fw_ix 1137 (by decide +kernel) rfl
theorem kw_1156 : (Jvm.Cond.static ({ cls := "TaylorModelsModel", name := "isWithin", desc := "([J)Z" } : Jvm.MethodName)) ∈ FW := fw_ix 1202 (by decide +kernel) rfl
theorem kw_1157 : (Jvm.Cond.code ({ cls := "TaylorModelsModel", name := "isWithin", desc := "([J)Z" } : Jvm.MethodName) prog_9_method_24_code (1 : Nat) (Option.some Jvm.ClassFile.FieldType.boolean)) ∈ FW := fw_ix 1203 (by decide +kernel) rfl
theorem kw_1167 : (Jvm.Cond.instanceMethod ({ cls := "TaylorModelsModel", name := "productOf", desc := "([J[J[J)Z" } : Jvm.MethodName)) ∈ FW := fw_ix 1213 (by decide +kernel) rfl
theorem kp_37 : (Jvm.Cond.selects "TaylorModelsModel" ⟨"TaylorModelsModel", "productOf", "([J[J[J)Z"⟩ ⟨"TaylorModelsModel", "productOf", "([J[J[J)Z"⟩) ∈ FW := fw_ix 37 (by decide +kernel) rfl
theorem kw_1168 : (Jvm.Cond.code ({ cls := "TaylorModelsModel", name := "productOf", desc := "([J[J[J)Z" } : Jvm.MethodName) prog_9_method_29_code (20 : Nat) (Option.some Jvm.ClassFile.FieldType.boolean)) ∈ FW := fw_ix 1214 (by decide +kernel) rfl
theorem kw_1180 : (Jvm.Cond.static ({ cls := "TaylorModelsModel", name := "sumOf", desc := "([J[JI[J)Z" } : Jvm.MethodName)) ∈ FW := fw_ix 1226 (by decide +kernel) rfl
theorem kw_1181 : (Jvm.Cond.code ({ cls := "TaylorModelsModel", name := "sumOf", desc := "([J[JI[J)Z" } : Jvm.MethodName) prog_9_method_25_code (9 : Nat) (Option.some Jvm.ClassFile.FieldType.boolean)) ∈ FW := fw_ix 1227 (by decide +kernel) rfl
theorem kw_1034 : (Jvm.Cond.instanceMethod ({ cls := "TaylorModelsModel", name := "byteAt", desc := "(I)I" } : Jvm.MethodName)) ∈ FW := fw_ix 1080 (by decide +kernel) rfl
theorem kp_21 : (Jvm.Cond.selects "TaylorModelsModel" ⟨"TaylorModelsModel", "byteAt", "(I)I"⟩ ⟨"TaylorModelsModel", "byteAt", "(I)I"⟩) ∈ FW := fw_ix 21 (by decide +kernel) rfl
theorem kw_1035 : (Jvm.Cond.code ({ cls := "TaylorModelsModel", name := "byteAt", desc := "(I)I" } : Jvm.MethodName) prog_9_method_33_code (2 : Nat) (Option.some Jvm.ClassFile.FieldType.int)) ∈ FW := fw_ix 1081 (by decide +kernel) rfl
theorem kw_1013 : (Jvm.Cond.static ({ cls := "TaylorModelsModel", name := "in", desc := "(III)Z" } : Jvm.MethodName)) ∈ FW := fw_ix 1059 (by decide +kernel) rfl
theorem kw_1014 : (Jvm.Cond.code ({ cls := "TaylorModelsModel", name := "in", desc := "(III)Z" } : Jvm.MethodName) prog_9_method_4_code (3 : Nat) (Option.some Jvm.ClassFile.FieldType.boolean)) ∈ FW := fw_ix 1060 (by decide +kernel) rfl
theorem kw_1026 : (Jvm.Cond.instanceMethod ({ cls := "TaylorModelsModel", name := "isGood", desc := "()Z" } : Jvm.MethodName)) ∈ FW := fw_ix 1072 (by decide +kernel) rfl
theorem kp_19 : (Jvm.Cond.selects "TaylorModelsModel" ⟨"TaylorModelsModel", "isGood", "()Z"⟩ ⟨"TaylorModelsModel", "isGood", "()Z"⟩) ∈ FW := fw_ix 19 (by decide +kernel) rfl
theorem kw_1027 : (Jvm.Cond.code ({ cls := "TaylorModelsModel", name := "isGood", desc := "()Z" } : Jvm.MethodName) prog_9_method_35_code (1 : Nat) (Option.some Jvm.ClassFile.FieldType.boolean)) ∈ FW := fw_ix 1073 (by decide +kernel) rfl
theorem kw_1030 : (Jvm.Cond.instanceMethod ({ cls := "TaylorModelsModel", name := "next", desc := "()I" } : Jvm.MethodName)) ∈ FW := fw_ix 1076 (by decide +kernel) rfl
theorem kp_20 : (Jvm.Cond.selects "TaylorModelsModel" ⟨"TaylorModelsModel", "next", "()I"⟩ ⟨"TaylorModelsModel", "next", "()I"⟩) ∈ FW := fw_ix 20 (by decide +kernel) rfl
theorem kw_1031 : (Jvm.Cond.code ({ cls := "TaylorModelsModel", name := "next", desc := "()I" } : Jvm.MethodName) prog_9_method_34_code (1 : Nat) (Option.some Jvm.ClassFile.FieldType.int)) ∈ FW := fw_ix 1077 (by decide +kernel) rfl
theorem kw_1040 : (Jvm.Cond.instanceMethod ({ cls := "TaylorModelsModel", name := "report", desc := "(II)V" } : Jvm.MethodName)) ∈ FW := fw_ix 1086 (by decide +kernel) rfl
theorem kp_22 : (Jvm.Cond.selects "TaylorModelsModel" ⟨"TaylorModelsModel", "report", "(II)V"⟩ ⟨"TaylorModelsModel", "report", "(II)V"⟩) ∈ FW := fw_ix 22 (by decide +kernel) rfl
theorem kw_1041 : (Jvm.Cond.code ({ cls := "TaylorModelsModel", name := "report", desc := "(II)V" } : Jvm.MethodName) prog_9_method_36_code (3 : Nat) (Option.none : Option Jvm.ClassFile.FieldType)) ∈ FW := fw_ix 1087 (by decide +kernel) rfl
theorem kw_1070 : (Jvm.Cond.static ({ cls := "TaylorModelsModel", name := "isDigit", desc := "(I)Z" } : Jvm.MethodName)) ∈ FW := fw_ix 1116 (by decide +kernel) rfl
theorem kw_1071 : (Jvm.Cond.code ({ cls := "TaylorModelsModel", name := "isDigit", desc := "(I)Z" } : Jvm.MethodName) prog_9_method_37_code (1 : Nat) (Option.some Jvm.ClassFile.FieldType.boolean)) ∈ FW := fw_ix 1117 (by decide +kernel) rfl
theorem kw_1079 : (Jvm.Cond.static ({ cls := "TaylorModelsModel", name := "min", desc := "(II)I" } : Jvm.MethodName)) ∈ FW := fw_ix 1125 (by decide +kernel) rfl
theorem kw_1080 : (Jvm.Cond.code ({ cls := "TaylorModelsModel", name := "min", desc := "(II)I" } : Jvm.MethodName) prog_9_method_5_code (2 : Nat) (Option.some Jvm.ClassFile.FieldType.int)) ∈ FW := fw_ix 1126 (by decide +kernel) rfl
theorem kw_1044 : (Jvm.Cond.instanceMethod ({ cls := "TaylorModelsModel", name := "expect", desc := "(I)V" } : Jvm.MethodName)) ∈ FW := fw_ix 1090 (by decide +kernel) rfl
theorem kp_23 : (Jvm.Cond.selects "TaylorModelsModel" ⟨"TaylorModelsModel", "expect", "(I)V"⟩ ⟨"TaylorModelsModel", "expect", "(I)V"⟩) ∈ FW := fw_ix 23 (by decide +kernel) rfl
theorem kw_1045 : (Jvm.Cond.code ({ cls := "TaylorModelsModel", name := "expect", desc := "(I)V" } : Jvm.MethodName) prog_9_method_39_code (2 : Nat) (Option.none : Option Jvm.ClassFile.FieldType)) ∈ FW := fw_ix 1091 (by decide +kernel) rfl
theorem kw_1083 : (Jvm.Cond.instanceMethod ({ cls := "TaylorModelsModel", name := "open", desc := "(I)V" } : Jvm.MethodName)) ∈ FW := fw_ix 1129 (by decide +kernel) rfl
theorem kp_30 : (Jvm.Cond.selects "TaylorModelsModel" ⟨"TaylorModelsModel", "open", "(I)V"⟩ ⟨"TaylorModelsModel", "open", "(I)V"⟩) ∈ FW := fw_ix 30 (by decide +kernel) rfl
theorem kw_1084 : (Jvm.Cond.code ({ cls := "TaylorModelsModel", name := "open", desc := "(I)V" } : Jvm.MethodName) prog_9_method_42_code (2 : Nat) (Option.none : Option Jvm.ClassFile.FieldType)) ∈ FW := fw_ix 1130 (by decide +kernel) rfl
theorem kw_1056 : (Jvm.Cond.instanceMethod ({ cls := "TaylorModelsModel", name := "sum", desc := "(I)V" } : Jvm.MethodName)) ∈ FW := fw_ix 1102 (by decide +kernel) rfl
theorem kp_26 : (Jvm.Cond.selects "TaylorModelsModel" ⟨"TaylorModelsModel", "sum", "(I)V"⟩ ⟨"TaylorModelsModel", "sum", "(I)V"⟩) ∈ FW := fw_ix 26 (by decide +kernel) rfl
theorem kw_1057 : (Jvm.Cond.code ({ cls := "TaylorModelsModel", name := "sum", desc := "(I)V" } : Jvm.MethodName) prog_9_method_49_code (3 : Nat) (Option.none : Option Jvm.ClassFile.FieldType)) ∈ FW := fw_ix 1103 (by decide +kernel) rfl
theorem kw_1087 : (Jvm.Cond.instanceMethod ({ cls := "TaylorModelsModel", name := "close", desc := "(I)V" } : Jvm.MethodName)) ∈ FW := fw_ix 1133 (by decide +kernel) rfl
theorem kp_31 : (Jvm.Cond.selects "TaylorModelsModel" ⟨"TaylorModelsModel", "close", "(I)V"⟩ ⟨"TaylorModelsModel", "close", "(I)V"⟩) ∈ FW := fw_ix 31 (by decide +kernel) rfl
theorem kw_1088 : (Jvm.Cond.code ({ cls := "TaylorModelsModel", name := "close", desc := "(I)V" } : Jvm.MethodName) prog_9_method_43_code (2 : Nat) (Option.none : Option Jvm.ClassFile.FieldType)) ∈ FW := fw_ix 1134 (by decide +kernel) rfl
theorem kw_1105 : (Jvm.Cond.instanceMethod ({ cls := "TaylorModelsModel", name := "integralOf", desc := "([JI[J)Z" } : Jvm.MethodName)) ∈ FW := fw_ix 1151 (by decide +kernel) rfl
theorem kp_33 : (Jvm.Cond.selects "TaylorModelsModel" ⟨"TaylorModelsModel", "integralOf", "([JI[J)Z"⟩ ⟨"TaylorModelsModel", "integralOf", "([JI[J)Z"⟩) ∈ FW := fw_ix 33 (by decide +kernel) rfl
theorem kw_1106 : (Jvm.Cond.code ({ cls := "TaylorModelsModel", name := "integralOf", desc := "([JI[J)Z" } : Jvm.MethodName) prog_9_method_31_code (8 : Nat) (Option.some Jvm.ClassFile.FieldType.boolean)) ∈ FW := fw_ix 1152 (by decide +kernel) rfl
theorem kw_1138 : (Jvm.Cond.instanceMethod ({ cls := "TaylorModelsModel", name := "refuse", desc := "(Z)V" } : Jvm.MethodName)) ∈ FW := fw_ix 1184 (by decide +kernel) rfl
theorem kp_34 : (Jvm.Cond.selects "TaylorModelsModel" ⟨"TaylorModelsModel", "refuse", "(Z)V"⟩ ⟨"TaylorModelsModel", "refuse", "(Z)V"⟩) ∈ FW := fw_ix 34 (by decide +kernel) rfl
theorem kw_1139 : (Jvm.Cond.code ({ cls := "TaylorModelsModel", name := "refuse", desc := "(Z)V" } : Jvm.MethodName) prog_9_method_41_code (2 : Nat) (Option.none : Option Jvm.ClassFile.FieldType)) ∈ FW := fw_ix 1185 (by decide +kernel) rfl
theorem kw_1146 : (Jvm.Cond.static ({ cls := "TaylorModelsModel", name := "isDefined", desc := "([II)Z" } : Jvm.MethodName)) ∈ FW := fw_ix 1192 (by decide +kernel) rfl
theorem kw_1147 : (Jvm.Cond.code ({ cls := "TaylorModelsModel", name := "isDefined", desc := "([II)Z" } : Jvm.MethodName) prog_9_method_9_code (2 : Nat) (Option.some Jvm.ClassFile.FieldType.boolean)) ∈ FW := fw_ix 1193 (by decide +kernel) rfl
theorem kw_1149 : (Jvm.Cond.static ({ cls := "TaylorModelsModel", name := "take", desc := "([II[J)V" } : Jvm.MethodName)) ∈ FW := fw_ix 1195 (by decide +kernel) rfl
theorem kw_1150 : (Jvm.Cond.code ({ cls := "TaylorModelsModel", name := "take", desc := "([II[J)V" } : Jvm.MethodName) prog_9_method_10_code (4 : Nat) (Option.none : Option Jvm.ClassFile.FieldType)) ∈ FW := fw_ix 1196 (by decide +kernel) rfl
theorem kw_1153 : (Jvm.Cond.instanceMethod ({ cls := "TaylorModelsModel", name := "compositionOf", desc := "([J[J[J[J)I" } : Jvm.MethodName)) ∈ FW := fw_ix 1199 (by decide +kernel) rfl
theorem kp_36 : (Jvm.Cond.selects "TaylorModelsModel" ⟨"TaylorModelsModel", "compositionOf", "([J[J[J[J)I"⟩ ⟨"TaylorModelsModel", "compositionOf", "([J[J[J[J)I"⟩) ∈ FW := fw_ix 36 (by decide +kernel) rfl
theorem kw_1154 : (Jvm.Cond.code ({ cls := "TaylorModelsModel", name := "compositionOf", desc := "([J[J[J[J)I" } : Jvm.MethodName) prog_9_method_30_code (8 : Nat) (Option.some Jvm.ClassFile.FieldType.int)) ∈ FW := fw_ix 1200 (by decide +kernel) rfl
theorem kw_1022 : (Jvm.Cond.instanceMethod ({ cls := "TaylorModelsModel", name := "takeWord", desc := "(Ljava/lang/String;)Z" } : Jvm.MethodName)) ∈ FW := fw_ix 1068 (by decide +kernel) rfl
theorem kp_18 : (Jvm.Cond.selects "TaylorModelsModel" ⟨"TaylorModelsModel", "takeWord", "(Ljava/lang/String;)Z"⟩ ⟨"TaylorModelsModel", "takeWord", "(Ljava/lang/String;)Z"⟩) ∈ FW := fw_ix 18 (by decide +kernel) rfl
theorem kw_1023 : (Jvm.Cond.code ({ cls := "TaylorModelsModel", name := "takeWord", desc := "(Ljava/lang/String;)Z" } : Jvm.MethodName) prog_9_method_38_code (3 : Nat) (Option.some Jvm.ClassFile.FieldType.boolean)) ∈ FW := fw_ix 1069 (by decide +kernel) rfl
theorem kw_1052 : (Jvm.Cond.instanceMethod ({ cls := "TaylorModelsModel", name := "takeName", desc := "()I" } : Jvm.MethodName)) ∈ FW := fw_ix 1098 (by decide +kernel) rfl
theorem kp_25 : (Jvm.Cond.selects "TaylorModelsModel" ⟨"TaylorModelsModel", "takeName", "()I"⟩ ⟨"TaylorModelsModel", "takeName", "()I"⟩) ∈ FW := fw_ix 25 (by decide +kernel) rfl
theorem kw_1053 : (Jvm.Cond.code ({ cls := "TaylorModelsModel", name := "takeName", desc := "()I" } : Jvm.MethodName) prog_9_method_44_code (2 : Nat) (Option.some Jvm.ClassFile.FieldType.int)) ∈ FW := fw_ix 1099 (by decide +kernel) rfl
theorem kw_1143 : (Jvm.Cond.instanceMethod ({ cls := "TaylorModelsModel", name := "readNamed", desc := "(III)V" } : Jvm.MethodName)) ∈ FW := fw_ix 1189 (by decide +kernel) rfl
theorem kp_35 : (Jvm.Cond.selects "TaylorModelsModel" ⟨"TaylorModelsModel", "readNamed", "(III)V"⟩ ⟨"TaylorModelsModel", "readNamed", "(III)V"⟩) ∈ FW := fw_ix 35 (by decide +kernel) rfl
theorem kw_1144 : (Jvm.Cond.code ({ cls := "TaylorModelsModel", name := "readNamed", desc := "(III)V" } : Jvm.MethodName) prog_9_method_45_code (4 : Nat) (Option.none : Option Jvm.ClassFile.FieldType)) ∈ FW := fw_ix 1190 (by decide +kernel) rfl
theorem kw_1101 : (Jvm.Cond.instanceMethod ({ cls := "TaylorModelsModel", name := "readIntegral", desc := "(II)V" } : Jvm.MethodName)) ∈ FW := fw_ix 1147 (by decide +kernel) rfl
theorem kp_32 : (Jvm.Cond.selects "TaylorModelsModel" ⟨"TaylorModelsModel", "readIntegral", "(II)V"⟩ ⟨"TaylorModelsModel", "readIntegral", "(II)V"⟩) ∈ FW := fw_ix 32 (by decide +kernel) rfl
theorem kw_1102 : (Jvm.Cond.code ({ cls := "TaylorModelsModel", name := "readIntegral", desc := "(II)V" } : Jvm.MethodName) prog_9_method_46_code (3 : Nat) (Option.none : Option Jvm.ClassFile.FieldType)) ∈ FW := fw_ix 1148 (by decide +kernel) rfl
theorem kw_1075 : (Jvm.Cond.instanceMethod ({ cls := "TaylorModelsModel", name := "number", desc := "(II)I" } : Jvm.MethodName)) ∈ FW := fw_ix 1121 (by decide +kernel) rfl
theorem kp_29 : (Jvm.Cond.selects "TaylorModelsModel" ⟨"TaylorModelsModel", "number", "(II)I"⟩ ⟨"TaylorModelsModel", "number", "(II)I"⟩) ∈ FW := fw_ix 29 (by decide +kernel) rfl
theorem kw_1076 : (Jvm.Cond.code ({ cls := "TaylorModelsModel", name := "number", desc := "(II)I" } : Jvm.MethodName) prog_9_method_40_code (4 : Nat) (Option.some Jvm.ClassFile.FieldType.int)) ∈ FW := fw_ix 1122 (by decide +kernel) rfl
theorem kw_1064 : (Jvm.Cond.instanceMethod ({ cls := "TaylorModelsModel", name := "factor", desc := "(I)V" } : Jvm.MethodName)) ∈ FW := fw_ix 1110 (by decide +kernel) rfl
theorem kp_28 : (Jvm.Cond.selects "TaylorModelsModel" ⟨"TaylorModelsModel", "factor", "(I)V"⟩ ⟨"TaylorModelsModel", "factor", "(I)V"⟩) ∈ FW := fw_ix 28 (by decide +kernel) rfl
theorem kw_1065 : (Jvm.Cond.code ({ cls := "TaylorModelsModel", name := "factor", desc := "(I)V" } : Jvm.MethodName) prog_9_method_47_code (5 : Nat) (Option.none : Option Jvm.ClassFile.FieldType)) ∈ FW := fw_ix 1111 (by decide +kernel) rfl
theorem kw_1060 : (Jvm.Cond.instanceMethod ({ cls := "TaylorModelsModel", name := "term", desc := "(I)V" } : Jvm.MethodName)) ∈ FW := fw_ix 1106 (by decide +kernel) rfl
theorem kp_27 : (Jvm.Cond.selects "TaylorModelsModel" ⟨"TaylorModelsModel", "term", "(I)V"⟩ ⟨"TaylorModelsModel", "term", "(I)V"⟩) ∈ FW := fw_ix 27 (by decide +kernel) rfl
theorem kw_1061 : (Jvm.Cond.code ({ cls := "TaylorModelsModel", name := "term", desc := "(I)V" } : Jvm.MethodName) prog_9_method_48_code (2 : Nat) (Option.none : Option Jvm.ClassFile.FieldType)) ∈ FW := fw_ix 1107 (by decide +kernel) rfl
theorem kw_1183 : (Jvm.Cond.static ({ cls := "TaylorModelsModel", name := "give", desc := "([J[II)V" } : Jvm.MethodName)) ∈ FW := fw_ix 1229 (by decide +kernel) rfl
theorem kw_1184 : (Jvm.Cond.code ({ cls := "TaylorModelsModel", name := "give", desc := "([J[II)V" } : Jvm.MethodName) prog_9_method_11_code (4 : Nat) (Option.none : Option Jvm.ClassFile.FieldType)) ∈ FW := fw_ix 1230 (by decide +kernel) rfl
theorem kw_1190 : (Jvm.Cond.static ({ cls := "TaylorModelsModel", name := "copy", desc := "([I[I)V" } : Jvm.MethodName)) ∈ FW := fw_ix 1236 (by decide +kernel) rfl
theorem kw_1191 : (Jvm.Cond.code ({ cls := "TaylorModelsModel", name := "copy", desc := "([I[I)V" } : Jvm.MethodName) prog_9_method_6_code (3 : Nat) (Option.none : Option Jvm.ClassFile.FieldType)) ∈ FW := fw_ix 1237 (by decide +kernel) rfl
theorem kw_1017 : (Jvm.Cond.instanceMethod ({ cls := "TaylorModelsModel", name := "fails", desc := "(ZI)Z" } : Jvm.MethodName)) ∈ FW := fw_ix 1063 (by decide +kernel) rfl
theorem kp_17 : (Jvm.Cond.selects "TaylorModelsModel" ⟨"TaylorModelsModel", "fails", "(ZI)Z"⟩ ⟨"TaylorModelsModel", "fails", "(ZI)Z"⟩) ∈ FW := fw_ix 17 (by decide +kernel) rfl
theorem kw_1018 : (Jvm.Cond.code ({ cls := "TaylorModelsModel", name := "fails", desc := "(ZI)Z" } : Jvm.MethodName) prog_9_method_3_code (3 : Nat) (Option.some Jvm.ClassFile.FieldType.boolean)) ∈ FW := fw_ix 1064 (by decide +kernel) rfl
theorem kw_1048 : (Jvm.Cond.instanceMethod ({ cls := "TaylorModelsModel", name := "statement", desc := "()V" } : Jvm.MethodName)) ∈ FW := fw_ix 1094 (by decide +kernel) rfl
theorem kp_24 : (Jvm.Cond.selects "TaylorModelsModel" ⟨"TaylorModelsModel", "statement", "()V"⟩ ⟨"TaylorModelsModel", "statement", "()V"⟩) ∈ FW := fw_ix 24 (by decide +kernel) rfl
theorem kw_1049 : (Jvm.Cond.code ({ cls := "TaylorModelsModel", name := "statement", desc := "()V" } : Jvm.MethodName) prog_9_method_50_code (4 : Nat) (Option.none : Option Jvm.ClassFile.FieldType)) ∈ FW := fw_ix 1095 (by decide +kernel) rfl
theorem kw_1187 : (Jvm.Cond.instanceMethod ({ cls := "TaylorModelsModel", name := "remember", desc := "()V" } : Jvm.MethodName)) ∈ FW := fw_ix 1233 (by decide +kernel) rfl
theorem kp_39 : (Jvm.Cond.selects "TaylorModelsModel" ⟨"TaylorModelsModel", "remember", "()V"⟩ ⟨"TaylorModelsModel", "remember", "()V"⟩) ∈ FW := fw_ix 39 (by decide +kernel) rfl
theorem kw_1188 : (Jvm.Cond.code ({ cls := "TaylorModelsModel", name := "remember", desc := "()V" } : Jvm.MethodName) prog_9_method_67_code (2 : Nat) (Option.none : Option Jvm.ClassFile.FieldType)) ∈ FW := fw_ix 1234 (by decide +kernel) rfl
theorem kw_1210 : (Jvm.Cond.instanceMethod ({ cls := "TaylorModelsModel", name := "noIndex", desc := "(I)Z" } : Jvm.MethodName)) ∈ FW := fw_ix 1256 (by decide +kernel) rfl
theorem kp_41 : (Jvm.Cond.selects "TaylorModelsModel" ⟨"TaylorModelsModel", "noIndex", "(I)Z"⟩ ⟨"TaylorModelsModel", "noIndex", "(I)Z"⟩) ∈ FW := fw_ix 41 (by decide +kernel) rfl
theorem kw_1211 : (Jvm.Cond.code ({ cls := "TaylorModelsModel", name := "noIndex", desc := "(I)Z" } : Jvm.MethodName) prog_9_method_53_code (2 : Nat) (Option.some Jvm.ClassFile.FieldType.boolean)) ∈ FW := fw_ix 1257 (by decide +kernel) rfl
theorem kw_1206 : (Jvm.Cond.instanceMethod ({ cls := "TaylorModelsModel", name := "noModel", desc := "(I)Z" } : Jvm.MethodName)) ∈ FW := fw_ix 1252 (by decide +kernel) rfl
theorem kp_40 : (Jvm.Cond.selects "TaylorModelsModel" ⟨"TaylorModelsModel", "noModel", "(I)Z"⟩ ⟨"TaylorModelsModel", "noModel", "(I)Z"⟩) ∈ FW := fw_ix 40 (by decide +kernel) rfl
theorem kw_1207 : (Jvm.Cond.code ({ cls := "TaylorModelsModel", name := "noModel", desc := "(I)Z" } : Jvm.MethodName) prog_9_method_54_code (2 : Nat) (Option.some Jvm.ClassFile.FieldType.boolean)) ∈ FW := fw_ix 1253 (by decide +kernel) rfl
theorem kw_1213 : (Jvm.Cond.static ({ cls := "TaylorModelsModel", name := "isPlace", desc := "(II)Z" } : Jvm.MethodName)) ∈ FW := fw_ix 1259 (by decide +kernel) rfl
theorem kw_1214 : (Jvm.Cond.code ({ cls := "TaylorModelsModel", name := "isPlace", desc := "(II)Z" } : Jvm.MethodName) prog_9_method_56_code (2 : Nat) (Option.some Jvm.ClassFile.FieldType.boolean)) ∈ FW := fw_ix 1260 (by decide +kernel) rfl
theorem kw_1228 : (Jvm.Cond.static ({ cls := "TaylorModelsModel", name := "power", desc := "(JI)J" } : Jvm.MethodName)) ∈ FW := fw_ix 1274 (by decide +kernel) rfl
theorem kw_1229 : (Jvm.Cond.code ({ cls := "TaylorModelsModel", name := "power", desc := "(JI)J" } : Jvm.MethodName) prog_9_method_61_code (3 : Nat) (Option.some Jvm.ClassFile.FieldType.long)) ∈ FW := fw_ix 1275 (by decide +kernel) rfl
theorem kw_1240 : (Jvm.Cond.instanceMethod ({ cls := "TaylorModelsModel", name := "noPair", desc := "(II)Z" } : Jvm.MethodName)) ∈ FW := fw_ix 1286 (by decide +kernel) rfl
theorem kp_42 : (Jvm.Cond.selects "TaylorModelsModel" ⟨"TaylorModelsModel", "noPair", "(II)Z"⟩ ⟨"TaylorModelsModel", "noPair", "(II)Z"⟩) ∈ FW := fw_ix 42 (by decide +kernel) rfl
theorem kw_1241 : (Jvm.Cond.code ({ cls := "TaylorModelsModel", name := "noPair", desc := "(II)Z" } : Jvm.MethodName) prog_9_method_55_code (3 : Nat) (Option.some Jvm.ClassFile.FieldType.boolean)) ∈ FW := fw_ix 1287 (by decide +kernel) rfl
theorem kw_1248 : (Jvm.Cond.instanceMethod ({ cls := "TaylorModelsModel", name := "noThree", desc := "(III)Z" } : Jvm.MethodName)) ∈ FW := fw_ix 1294 (by decide +kernel) rfl
theorem kp_43 : (Jvm.Cond.selects "TaylorModelsModel" ⟨"TaylorModelsModel", "noThree", "(III)Z"⟩ ⟨"TaylorModelsModel", "noThree", "(III)Z"⟩) ∈ FW := fw_ix 43 (by decide +kernel) rfl
theorem kw_1249 : (Jvm.Cond.code ({ cls := "TaylorModelsModel", name := "noThree", desc := "(III)Z" } : Jvm.MethodName) prog_9_method_65_code (4 : Nat) (Option.some Jvm.ClassFile.FieldType.boolean)) ∈ FW := fw_ix 1295 (by decide +kernel) rfl
theorem kw_1256 : (Jvm.Cond.instanceMethod ({ cls := "TaylorModelsModel", name := "becomes", desc := "(I)I" } : Jvm.MethodName)) ∈ FW := fw_ix 1302 (by decide +kernel) rfl
theorem kp_44 : (Jvm.Cond.selects "TaylorModelsModel" ⟨"TaylorModelsModel", "becomes", "(I)I"⟩ ⟨"TaylorModelsModel", "becomes", "(I)I"⟩) ∈ FW := fw_ix 44 (by decide +kernel) rfl
theorem kw_1257 : (Jvm.Cond.code ({ cls := "TaylorModelsModel", name := "becomes", desc := "(I)I" } : Jvm.MethodName) prog_9_method_68_code (2 : Nat) (Option.some Jvm.ClassFile.FieldType.int)) ∈ FW := fw_ix 1303 (by decide +kernel) rfl
theorem kw_1280 : (Jvm.Cond.instanceMethod ({ cls := "TaylorModelsModel", name := "stepOf", desc := "(III[J)Z" } : Jvm.MethodName)) ∈ FW := fw_ix 1326 (by decide +kernel) rfl
theorem kp_45 : (Jvm.Cond.selects "TaylorModelsModel" ⟨"TaylorModelsModel", "stepOf", "(III[J)Z"⟩ ⟨"TaylorModelsModel", "stepOf", "(III[J)Z"⟩) ∈ FW := fw_ix 45 (by decide +kernel) rfl
theorem kw_1281 : (Jvm.Cond.code ({ cls := "TaylorModelsModel", name := "stepOf", desc := "(III[J)Z" } : Jvm.MethodName) prog_9_method_74_code (5 : Nat) (Option.some Jvm.ClassFile.FieldType.boolean)) ∈ FW := fw_ix 1327 (by decide +kernel) rfl
theorem kw_1297 : (Jvm.Cond.static ({ cls := "TaylorModelsModel", name := "isValue", desc := "(I)Z" } : Jvm.MethodName)) ∈ FW := fw_ix 1343 (by decide +kernel) rfl
theorem kw_1298 : (Jvm.Cond.code ({ cls := "TaylorModelsModel", name := "isValue", desc := "(I)Z" } : Jvm.MethodName) prog_9_method_78_code (1 : Nat) (Option.some Jvm.ClassFile.FieldType.boolean)) ∈ FW := fw_ix 1344 (by decide +kernel) rfl
theorem kw_374 : (Jvm.Cond.instanceMethod ({ cls := "java/lang/String", name := "coder", desc := "()B" } : Jvm.MethodName)) ∈ FW := fw_ix 420 (by decide +kernel) rfl
theorem kw_375 : (Jvm.Cond.selects "java/lang/String" ({ cls := "java/lang/String", name := "coder", desc := "()B" } : Jvm.MethodName) ({ cls := "java/lang/String", name := "coder", desc := "()B" } : Jvm.MethodName)) ∈ FW := fw_ix 421 (by decide +kernel) rfl
theorem kw_13 : (Jvm.Cond.initialized "java/lang/String") ∈ FW := fw_ix 59 (by decide +kernel) rfl
theorem kw_376 : (Jvm.Cond.code ({ cls := "java/lang/String", name := "coder", desc := "()B" } : Jvm.MethodName) prog_20_method_152_code (1 : Nat) (Option.some Jvm.ClassFile.FieldType.byte)) ∈ FW := fw_ix 422 (by decide +kernel) rfl
theorem kw_384 : (Jvm.Cond.instanceMethod ({ cls := "java/lang/String", name := "isLatin1", desc := "()Z" } : Jvm.MethodName)) ∈ FW := fw_ix 430 (by decide +kernel) rfl
theorem kw_385 : (Jvm.Cond.selects "java/lang/String" ({ cls := "java/lang/String", name := "isLatin1", desc := "()Z" } : Jvm.MethodName) ({ cls := "java/lang/String", name := "isLatin1", desc := "()Z" } : Jvm.MethodName)) ∈ FW := fw_ix 431 (by decide +kernel) rfl
theorem kw_386 : (Jvm.Cond.code ({ cls := "java/lang/String", name := "isLatin1", desc := "()Z" } : Jvm.MethodName) prog_20_method_154_code (1 : Nat) (Option.some Jvm.ClassFile.FieldType.boolean)) ∈ FW := fw_ix 432 (by decide +kernel) rfl
theorem kw_370 : (Jvm.Cond.instanceMethod ({ cls := "java/lang/String", name := "length", desc := "()I" } : Jvm.MethodName)) ∈ FW := fw_ix 416 (by decide +kernel) rfl
theorem kw_371 : (Jvm.Cond.selects "java/lang/String" ({ cls := "java/lang/String", name := "length", desc := "()I" } : Jvm.MethodName) ({ cls := "java/lang/String", name := "length", desc := "()I" } : Jvm.MethodName)) ∈ FW := fw_ix 417 (by decide +kernel) rfl
theorem kw_372 : (Jvm.Cond.code ({ cls := "java/lang/String", name := "length", desc := "()I" } : Jvm.MethodName) prog_20_method_54_code (1 : Nat) (Option.some Jvm.ClassFile.FieldType.int)) ∈ FW := fw_ix 418 (by decide +kernel) rfl
theorem kw_380 : (Jvm.Cond.instanceMethod ({ cls := "java/lang/String", name := "charAt", desc := "(I)C" } : Jvm.MethodName)) ∈ FW := fw_ix 426 (by decide +kernel) rfl
theorem kw_381 : (Jvm.Cond.selects "java/lang/String" ({ cls := "java/lang/String", name := "charAt", desc := "(I)C" } : Jvm.MethodName) ({ cls := "java/lang/String", name := "charAt", desc := "(I)C" } : Jvm.MethodName)) ∈ FW := fw_ix 427 (by decide +kernel) rfl
theorem kw_382 : (Jvm.Cond.code ({ cls := "java/lang/String", name := "charAt", desc := "(I)C" } : Jvm.MethodName) prog_20_method_56_code (2 : Nat) (Option.some Jvm.ClassFile.FieldType.char)) ∈ FW := fw_ix 428 (by decide +kernel) rfl
theorem kw_388 : (Jvm.Cond.static ({ cls := "java/lang/StringLatin1", name := "charAt", desc := "([BI)C" } : Jvm.MethodName)) ∈ FW := fw_ix 434 (by decide +kernel) rfl
theorem kw_14 : (Jvm.Cond.initialized "java/lang/StringLatin1") ∈ FW := fw_ix 60 (by decide +kernel) rfl
theorem kw_389 : (Jvm.Cond.code ({ cls := "java/lang/StringLatin1", name := "charAt", desc := "([BI)C" } : Jvm.MethodName) prog_21_method_2_code (2 : Nat) (Option.some Jvm.ClassFile.FieldType.char)) ∈ FW := fw_ix 435 (by decide +kernel) rfl
theorem kw_391 : (Jvm.Cond.static ({ cls := "java/lang/String", name := "checkIndex", desc := "(II)V" } : Jvm.MethodName)) ∈ FW := fw_ix 437 (by decide +kernel) rfl
theorem kw_392 : (Jvm.Cond.code ({ cls := "java/lang/String", name := "checkIndex", desc := "(II)V" } : Jvm.MethodName) prog_20_method_155_code (2 : Nat) (Option.none : Option Jvm.ClassFile.FieldType)) ∈ FW := fw_ix 438 (by decide +kernel) rfl
theorem kw_396 : (Jvm.Cond.static ({ cls := "jdk/internal/util/Preconditions", name := "checkIndex", desc := "(IILjava/util/function/BiFunction;)I" } : Jvm.MethodName)) ∈ FW := fw_ix 442 (by decide +kernel) rfl
theorem kw_15 : (Jvm.Cond.initialized "jdk/internal/util/Preconditions") ∈ FW := fw_ix 61 (by decide +kernel) rfl
theorem kw_397 : (Jvm.Cond.code ({ cls := "jdk/internal/util/Preconditions", name := "checkIndex", desc := "(IILjava/util/function/BiFunction;)I" } : Jvm.MethodName) prog_29_method_11_code (3 : Nat) (Option.some Jvm.ClassFile.FieldType.int)) ∈ FW := fw_ix 443 (by decide +kernel) rfl
theorem in_X0 : ∀ w ∈ u_ws RX0 TX0 8, w ∈ FW := by
  intro w hw
  obtain ⟨k, hk, rfl⟩ := List.mem_map.mp hw
  have hk := List.mem_range.mp hk
  match k, hk with
  | 0, _ => exact kw_108
  | 1, _ => exact kw_110
  | 2, _ => exact kw_112
  | 3, _ => exact kw_114
  | 4, _ => exact kw_116
  | 5, _ => exact kw_118
  | 6, _ => exact kw_120
  | 7, _ => exact kw_122
  | k + 8, h => exact absurd h (by omega)
theorem in_X1 : ∀ w ∈ u_ws RX1 TX1 3, w ∈ FW := by
  intro w hw
  obtain ⟨k, hk, rfl⟩ := List.mem_map.mp hw
  have hk := List.mem_range.mp hk
  match k, hk with
  | 0, _ => exact kw_85
  | 1, _ => exact kw_87
  | 2, _ => exact kw_89
  | k + 3, h => exact absurd h (by omega)
theorem in_X2 : ∀ w ∈ u_ws RX2 TX2 3, w ∈ FW := by
  intro w hw
  obtain ⟨k, hk, rfl⟩ := List.mem_map.mp hw
  have hk := List.mem_range.mp hk
  match k, hk with
  | 0, _ => exact kw_53
  | 1, _ => exact kw_55
  | 2, _ => exact kw_57
  | k + 3, h => exact absurd h (by omega)
theorem in_X3 : ∀ w ∈ u_ws RX3 TX3 2, w ∈ FW := by
  intro w hw
  obtain ⟨k, hk, rfl⟩ := List.mem_map.mp hw
  have hk := List.mem_range.mp hk
  match k, hk with
  | 0, _ => exact kw_67
  | 1, _ => exact kw_69
  | k + 2, h => exact absurd h (by omega)
theorem in_X4 : ∀ w ∈ u_ws RX4 TX4 8, w ∈ FW := by
  intro w hw
  obtain ⟨k, hk, rfl⟩ := List.mem_map.mp hw
  have hk := List.mem_range.mp hk
  match k, hk with
  | 0, _ => exact kw_186
  | 1, _ => exact kw_188
  | 2, _ => exact kw_190
  | 3, _ => exact kw_192
  | 4, _ => exact kw_194
  | 5, _ => exact kw_196
  | 6, _ => exact kw_198
  | 7, _ => exact kw_200
  | k + 8, h => exact absurd h (by omega)
theorem in_X5 : ∀ w ∈ u_ws RX5 TX5 9, w ∈ FW := by
  intro w hw
  obtain ⟨k, hk, rfl⟩ := List.mem_map.mp hw
  have hk := List.mem_range.mp hk
  match k, hk with
  | 0, _ => exact kw_149
  | 1, _ => exact kw_151
  | 2, _ => exact kw_153
  | 3, _ => exact kw_155
  | 4, _ => exact kw_157
  | 5, _ => exact kw_159
  | 6, _ => exact kw_161
  | 7, _ => exact kw_163
  | 8, _ => exact kw_165
  | k + 9, h => exact absurd h (by omega)
theorem in_X6 : ∀ w ∈ u_ws RX6 TX6 6, w ∈ FW := by
  intro w hw
  obtain ⟨k, hk, rfl⟩ := List.mem_map.mp hw
  have hk := List.mem_range.mp hk
  match k, hk with
  | 0, _ => exact kw_211
  | 1, _ => exact kw_213
  | 2, _ => exact kw_215
  | 3, _ => exact kw_217
  | 4, _ => exact kw_219
  | 5, _ => exact kw_221
  | k + 6, h => exact absurd h (by omega)
theorem in_X7 : ∀ w ∈ u_ws RX7 TX7 30, w ∈ FW := by
  intro w hw
  obtain ⟨k, hk, rfl⟩ := List.mem_map.mp hw
  have hk := List.mem_range.mp hk
  match k, hk with
  | 0, _ => exact kw_939
  | 1, _ => exact kw_941
  | 2, _ => exact kw_943
  | 3, _ => exact kw_945
  | 4, _ => exact kw_947
  | 5, _ => exact kw_949
  | 6, _ => exact kw_951
  | 7, _ => exact kw_953
  | 8, _ => exact kw_955
  | 9, _ => exact kw_957
  | 10, _ => exact kw_959
  | 11, _ => exact kw_961
  | 12, _ => exact kw_963
  | 13, _ => exact kw_965
  | 14, _ => exact kw_967
  | 15, _ => exact kw_969
  | 16, _ => exact kw_971
  | 17, _ => exact kw_973
  | 18, _ => exact kw_975
  | 19, _ => exact kw_977
  | 20, _ => exact kw_979
  | 21, _ => exact kw_981
  | 22, _ => exact kw_983
  | 23, _ => exact kw_985
  | 24, _ => exact kw_987
  | 25, _ => exact kw_989
  | 26, _ => exact kw_991
  | 27, _ => exact kw_993
  | 28, _ => exact kw_995
  | 29, _ => exact kw_997
  | k + 30, h => exact absurd h (by omega)
theorem wv_X2_fits : wV yX2_fits cX2_fits 2 (some .boolean) := ⟨kw_527, kw_528, kw_3, kw_529⟩
theorem ws_J7_fill_d0a16 : wS yJ7_fill_d0a16 cJ7_fill_d0a16 5 none := ⟨kw_453, kw_17, kw_454⟩
theorem ws_J9_floorDiv_f86c9 : wS yJ9_floorDiv_f86c9 cJ9_floorDiv_f86c9 6 (some .long) := ⟨kw_504, kw_19, kw_505⟩
theorem wv_X0_collectProducts : wV yX0_collectProducts cX0_collectProducts 6 none := ⟨kw_582, kp_12, kw_5, kw_583⟩
theorem ws_X6_lowestOf : wS yX6_lowestOf cX6_lowestOf 2 (some .int) := ⟨kw_512, kw_1, kw_513⟩
theorem ws_X6_rangeLow : wS yX6_rangeLow cX6_rangeLow 3 (some .long) := ⟨kw_515, kw_1, kw_516⟩
theorem ws_X6_rangeHigh : wS yX6_rangeHigh cX6_rangeHigh 3 (some .long) := ⟨kw_522, kw_1, kw_523⟩
theorem wv_X2_spreadLow : wV yX2_spreadLow cX2_spreadLow 4 (some .long) := ⟨kw_566, kw_567, kw_3, kw_568⟩
theorem wv_X2_spreadHigh : wV yX2_spreadHigh cX2_spreadHigh 4 (some .long) := ⟨kw_572, kw_573, kw_3, kw_574⟩
theorem wv_X0_addIntervalProduct : wV yX0_addIntervalProduct cX0_addIntervalProduct 17 none := ⟨kw_592, kp_13, kw_5, kw_593⟩
theorem wv_X2_putQuotient : wV yX2_putQuotient cX2_putQuotient 8 none := ⟨kw_500, kw_501, kw_3, kw_502⟩
theorem wv_X2_staysInSquare : wV yX2_staysInSquare cX2_staysInSquare 1 (some .boolean) := ⟨kw_562, kw_563, kw_3, kw_564⟩
theorem wv_X2_becomeConstant : wV yX2_becomeConstant cX2_becomeConstant 3 none := ⟨kw_449, kw_450, kw_3, kw_451⟩
theorem wv_X0_multiplyModels : wV yX0_multiplyModels cX0_multiplyModels 9 (some .boolean) := ⟨kw_577, kw_578, kw_5, kw_579⟩
theorem wv_X0_addModels : wV yX0_addModels cX0_addModels 5 (some .boolean) := ⟨kw_597, kw_598, kw_5, kw_599⟩
theorem wv_X2_copyFrom : wV yX2_copyFrom cX2_copyFrom 2 none := ⟨kw_253, kw_254, kw_3, kw_255⟩
theorem ws_X6_slotOf : wS yX6_slotOf cX6_slotOf 2 (some .int) := ⟨kw_495, kw_1, kw_496⟩
theorem wv_X2_widen : wV yX2_widen cX2_widen 3 none := ⟨kw_483, kw_484, kw_3, kw_485⟩
theorem wv_X0_integrateTerm : wV yX0_integrateTerm cX0_integrateTerm 8 none := ⟨kw_492, kp_8, kw_5, kw_493⟩
theorem wv_X0_composeModels : wV yX0_composeModels cX0_composeModels 7 (some .boolean) := ⟨kw_558, kw_559, kw_5, kw_560⟩
theorem wv_X3_copyFrom : wV yX3_copyFrom cX3_copyFrom 3 none := ⟨kw_249, kw_250, kw_2, kw_251⟩
theorem wv_X2_setCoefficientAt : wV yX2_setCoefficientAt cX2_setCoefficientAt 4 none := ⟨kw_457, kw_458, kw_3, kw_459⟩
theorem ws_J6_bitCount_0f7a4 : wS yJ6_bitCount_0f7a4 cJ6_bitCount_0f7a4 1 (some .int) := ⟨kw_627, kw_20, kw_628⟩
theorem ws_X5_kindOf : wS yX5_kindOf cX5_kindOf 1 (some .int) := ⟨kw_358, kw_7, kw_359⟩
theorem wv_X5_advance : wV yX5_advance cX5_advance 1 none := ⟨kw_361, kw_362, kw_7, kw_363⟩
theorem wv_X4_fail : wV yX4_fail cX4_fail 2 (some .boolean) := ⟨kw_419, kp_1, kw_6, kw_420⟩
theorem wv_X5_isNumber : wV yX5_isNumber cX5_isNumber 1 (some .boolean) := ⟨kw_541, kw_542, kw_7, kw_543⟩
theorem wv_X5_number : wV yX5_number cX5_number 3 (some .int) := ⟨kw_545, kw_546, kw_7, kw_547⟩
theorem wv_X4_checkNumber : wV yX4_checkNumber cX4_checkNumber 1 (some .boolean) := ⟨kw_538, kp_10, kw_6, kw_539⟩
theorem wv_X4_open : wV yX4_open cX4_open 3 (some .boolean) := ⟨kw_468, kp_7, kw_6, kw_469⟩
theorem wv_X4_readSum : wV yX4_readSum cX4_readSum 6 (some .boolean) := ⟨kw_432, kp_3, kw_6, kw_433⟩
theorem wv_X4_take : wV yX4_take cX4_take 2 (some .boolean) := ⟨kw_424, kp_2, kw_6, kw_425⟩
theorem wv_X5_isWord : wV yX5_isWord cX5_isWord 3 (some .boolean) := ⟨kw_366, kw_367, kw_7, kw_368⟩
theorem wv_X2_becomeVariable : wV yX2_becomeVariable cX2_becomeVariable 2 none := ⟨kw_445, kw_446, kw_3, kw_447⟩
theorem wv_X4_readParenthesis : wV yX4_readParenthesis cX4_readParenthesis 2 (some .boolean) := ⟨kw_464, kp_6, kw_6, kw_465⟩
theorem wv_X0_integrateModel : wV yX0_integrateModel cX0_integrateModel 7 (some .boolean) := ⟨kw_472, kw_473, kw_5, kw_474⟩
theorem wv_X5_name : wV yX5_name cX5_name 2 (some .int) := ⟨kw_427, kw_428, kw_7, kw_429⟩
theorem wv_X3_has : wV yX3_has cX3_has 2 (some .boolean) := ⟨kw_264, kw_265, kw_2, kw_266⟩
theorem wv_X4_readBrackets : wV yX4_readBrackets cX4_readBrackets 2 (some .boolean) := ⟨kw_555, kp_11, kw_6, kw_556⟩
theorem wv_X4_readConstant : wV yX4_readConstant cX4_readConstant 2 (some .boolean) := ⟨kw_534, kp_9, kw_6, kw_535⟩
theorem wv_X4_readFactor : wV yX4_readFactor cX4_readFactor 4 (some .boolean) := ⟨kw_440, kp_5, kw_6, kw_441⟩
theorem wv_X4_readTerm : wV yX4_readTerm cX4_readTerm 4 (some .boolean) := ⟨kw_436, kp_4, kw_6, kw_437⟩
theorem wv_X0_subtractModels : wV yX0_subtractModels cX0_subtractModels 8 (some .boolean) := ⟨kw_603, kw_604, kw_5, kw_605⟩
theorem wv_X5_split : wV yX5_split cX5_split 6 none := ⟨kw_354, kw_355, kw_7, kw_356⟩
theorem wv_X4_readUncertainty : wV yX4_readUncertainty cX4_readUncertainty 1 (some .boolean) := ⟨kw_608, kp_14, kw_6, kw_609⟩
theorem wv_X3_define : wV yX3_define cX3_define 3 none := ⟨kw_613, kw_614, kw_2, kw_615⟩
theorem wv_X5_putWord : wV yX5_putWord cX5_putWord 3 none := ⟨kw_229, kw_230, kw_7, kw_231⟩
theorem wv_X4_readSetup : wV yX4_readSetup cX4_readSetup 4 (some .boolean) := ⟨kw_350, kw_351, kw_6, kw_352⟩
theorem wv_X1_remember : wV yX1_remember cX1_remember 2 none := ⟨kw_617, kw_618, kw_4, kw_619⟩
theorem wv_X3_count : wV yX3_count cX3_count 1 (some .int) := ⟨kw_623, kw_624, kw_2, kw_625⟩
theorem ws_X6_requireIndex : wS yX6_requireIndex cX6_requireIndex 1 none := ⟨kw_642, kw_1, kw_643⟩
theorem wv_X6_requireDefined : wV yX6_requireDefined cX6_requireDefined 2 (some (.object "TaylorModels$Model")) := ⟨kw_662, kp_15, kw_1, kw_663⟩
theorem ws_X6_requireSlot : wS yX6_requireSlot cX6_requireSlot 3 (some .int) := ⟨kw_681, kw_1, kw_682⟩
theorem wv_X2_coefficientAt : wV yX2_coefficientAt cX2_coefficientAt 2 (some .long) := ⟨kw_686, kw_687, kw_3, kw_688⟩
theorem ws_X6_requireZeroOrOne : wS yX6_requireZeroOrOne cX6_requireZeroOrOne 1 none := ⟨kw_697, kw_1, kw_698⟩
theorem wv_X2_boundHigh : wV yX2_boundHigh cX2_boundHigh 1 (some .long) := ⟨kw_712, kw_713, kw_3, kw_714⟩
theorem wv_X2_boundLow : wV yX2_boundLow cX2_boundLow 1 (some .long) := ⟨kw_708, kw_709, kw_3, kw_710⟩
theorem ws_X6_requireBetween : wS yX6_requireBetween cX6_requireBetween 6 none := ⟨kw_725, kw_1, kw_726⟩
theorem wv_X2_valueInBillionths : wV yX2_valueInBillionths cX2_valueInBillionths 11 (some .long) := ⟨kw_729, kw_730, kw_3, kw_731⟩
theorem wv_X2_highestDegree : wV yX2_highestDegree cX2_highestDegree 3 (some .int) := ⟨kw_744, kw_745, kw_3, kw_746⟩
theorem wv_X2_contains : wV yX2_contains cX2_contains 9 (some .boolean) := ⟨kw_756, kw_757, kw_3, kw_758⟩
theorem wv_X2_width : wV yX2_width cX2_width 1 (some .int) := ⟨kw_801, kw_802, kw_3, kw_803⟩
theorem wv_X6_settle : wV yX6_settle cX6_settle 3 (some .int) := ⟨kw_781, kp_16, kw_1, kw_782⟩
theorem wv_X0_moveModels : wV yX0_moveModels cX0_moveModels 7 (some .boolean) := ⟨kw_844, kw_845, kw_5, kw_846⟩
theorem wv_X2_sweepUpTo : wV yX2_sweepUpTo cX2_sweepUpTo 7 (some .int) := ⟨kw_858, kw_859, kw_3, kw_860⟩
theorem wv_X3_remove : wV yX3_remove cX3_remove 2 none := ⟨kw_896, kw_897, kw_2, kw_898⟩
theorem wv_X1_restore : wV yX1_restore cX1_restore 3 (some .boolean) := ⟨kw_245, kw_246, kw_4, kw_247⟩
theorem wv_X2_addToChecksum : wV yX2_addToChecksum cX2_addToChecksum 6 (some .long) := ⟨kw_268, kw_269, kw_3, kw_270⟩
theorem ws_X7_down : wS yX7_down cX7_down 4 (some .long) := ⟨kw_1120, kw_8, kw_1121⟩
theorem ws_X7_smaller : wS yX7_smaller cX7_smaller 4 (some .long) := ⟨kw_1117, kw_8, kw_1118⟩
theorem ws_X7_low : wS yX7_low cX7_low 4 (some .long) := ⟨kw_1114, kw_8, kw_1115⟩
theorem ws_X7_iOf : wS yX7_iOf cX7_iOf 1 (some .int) := ⟨kw_1108, kw_8, kw_1109⟩
theorem ws_X7_jOf : wS yX7_jOf cX7_jOf 1 (some .int) := ⟨kw_1111, kw_8, kw_1112⟩
theorem ws_X7_high : wS yX7_high cX7_high 4 (some .long) := ⟨kw_1123, kw_8, kw_1124⟩
theorem ws_X7_spreadLow : wS yX7_spreadLow cX7_spreadLow 4 (some .long) := ⟨kw_1159, kw_8, kw_1160⟩
theorem ws_X7_spreadHigh : wS yX7_spreadHigh cX7_spreadHigh 4 (some .long) := ⟨kw_1163, kw_8, kw_1164⟩
theorem ws_X7_isSmall : wS yX7_isSmall cX7_isSmall 3 (some .boolean) := ⟨kw_1132, kw_8, kw_1133⟩
theorem ws_X7_greater : wS yX7_greater cX7_greater 4 (some .long) := ⟨kw_1129, kw_8, kw_1130⟩
theorem wv_X7_layProducts : wV yX7_layProducts cX7_layProducts 5 none := ⟨kw_1171, kp_38, kw_8, kw_1172⟩
theorem ws_X7_clearRow : wS yX7_clearRow cX7_clearRow 2 none := ⟨kw_1067, kw_8, kw_1068⟩
theorem ws_X7_place : wS yX7_place cX7_place 2 (some .int) := ⟨kw_1094, kw_8, kw_1095⟩
theorem ws_X7_leastProduct : wS yX7_leastProduct cX7_leastProduct 8 (some .long) := ⟨kw_1174, kw_8, kw_1175⟩
theorem ws_X7_greatestProduct : wS yX7_greatestProduct cX7_greatestProduct 8 (some .long) := ⟨kw_1177, kw_8, kw_1178⟩
theorem ws_X7_up : wS yX7_up cX7_up 4 (some .long) := ⟨kw_1126, kw_8, kw_1127⟩
theorem ws_X7_copyRow : wS yX7_copyRow cX7_copyRow 3 none := ⟨kw_1090, kw_8, kw_1091⟩
theorem ws_X7_isWithin : wS yX7_isWithin cX7_isWithin 1 (some .boolean) := ⟨kw_1156, kw_8, kw_1157⟩
theorem wv_X7_productOf : wV yX7_productOf cX7_productOf 20 (some .boolean) := ⟨kw_1167, kp_37, kw_8, kw_1168⟩
theorem ws_X7_sumOf : wS yX7_sumOf cX7_sumOf 9 (some .boolean) := ⟨kw_1180, kw_8, kw_1181⟩
theorem wv_X7_byteAt : wV yX7_byteAt cX7_byteAt 2 (some .int) := ⟨kw_1034, kp_21, kw_8, kw_1035⟩
theorem ws_X7_in : wS yX7_in cX7_in 3 (some .boolean) := ⟨kw_1013, kw_8, kw_1014⟩
theorem wv_X7_isGood : wV yX7_isGood cX7_isGood 1 (some .boolean) := ⟨kw_1026, kp_19, kw_8, kw_1027⟩
theorem wv_X7_next : wV yX7_next cX7_next 1 (some .int) := ⟨kw_1030, kp_20, kw_8, kw_1031⟩
theorem wv_X7_report : wV yX7_report cX7_report 3 none := ⟨kw_1040, kp_22, kw_8, kw_1041⟩
theorem ws_X7_isDigit : wS yX7_isDigit cX7_isDigit 1 (some .boolean) := ⟨kw_1070, kw_8, kw_1071⟩
theorem ws_X7_min : wS yX7_min cX7_min 2 (some .int) := ⟨kw_1079, kw_8, kw_1080⟩
theorem wv_X7_expect : wV yX7_expect cX7_expect 2 none := ⟨kw_1044, kp_23, kw_8, kw_1045⟩
theorem wv_X7_open : wV yX7_open cX7_open 2 none := ⟨kw_1083, kp_30, kw_8, kw_1084⟩
theorem wv_X7_sum : wV yX7_sum cX7_sum 3 none := ⟨kw_1056, kp_26, kw_8, kw_1057⟩
theorem wv_X7_close : wV yX7_close cX7_close 2 none := ⟨kw_1087, kp_31, kw_8, kw_1088⟩
theorem wv_X7_integralOf : wV yX7_integralOf cX7_integralOf 8 (some .boolean) := ⟨kw_1105, kp_33, kw_8, kw_1106⟩
theorem wv_X7_refuse : wV yX7_refuse cX7_refuse 2 none := ⟨kw_1138, kp_34, kw_8, kw_1139⟩
theorem ws_X7_isDefined : wS yX7_isDefined cX7_isDefined 2 (some .boolean) := ⟨kw_1146, kw_8, kw_1147⟩
theorem ws_X7_take : wS yX7_take cX7_take 4 none := ⟨kw_1149, kw_8, kw_1150⟩
theorem wv_X7_compositionOf : wV yX7_compositionOf cX7_compositionOf 8 (some .int) := ⟨kw_1153, kp_36, kw_8, kw_1154⟩
theorem wv_X7_takeWord : wV yX7_takeWord cX7_takeWord 3 (some .boolean) := ⟨kw_1022, kp_18, kw_8, kw_1023⟩
theorem wv_X7_takeName : wV yX7_takeName cX7_takeName 2 (some .int) := ⟨kw_1052, kp_25, kw_8, kw_1053⟩
theorem wv_X7_readNamed : wV yX7_readNamed cX7_readNamed 4 none := ⟨kw_1143, kp_35, kw_8, kw_1144⟩
theorem wv_X7_readIntegral : wV yX7_readIntegral cX7_readIntegral 3 none := ⟨kw_1101, kp_32, kw_8, kw_1102⟩
theorem wv_X7_number : wV yX7_number cX7_number 4 (some .int) := ⟨kw_1075, kp_29, kw_8, kw_1076⟩
theorem wv_X7_factor : wV yX7_factor cX7_factor 5 none := ⟨kw_1064, kp_28, kw_8, kw_1065⟩
theorem wv_X7_term : wV yX7_term cX7_term 2 none := ⟨kw_1060, kp_27, kw_8, kw_1061⟩
theorem ws_X7_give : wS yX7_give cX7_give 4 none := ⟨kw_1183, kw_8, kw_1184⟩
theorem ws_X7_copy : wS yX7_copy cX7_copy 3 none := ⟨kw_1190, kw_8, kw_1191⟩
theorem wv_X7_fails : wV yX7_fails cX7_fails 3 (some .boolean) := ⟨kw_1017, kp_17, kw_8, kw_1018⟩
theorem wv_X7_statement : wV yX7_statement cX7_statement 4 none := ⟨kw_1048, kp_24, kw_8, kw_1049⟩
theorem wv_X7_remember : wV yX7_remember cX7_remember 2 none := ⟨kw_1187, kp_39, kw_8, kw_1188⟩
theorem wv_X7_noIndex : wV yX7_noIndex cX7_noIndex 2 (some .boolean) := ⟨kw_1210, kp_41, kw_8, kw_1211⟩
theorem wv_X7_noModel : wV yX7_noModel cX7_noModel 2 (some .boolean) := ⟨kw_1206, kp_40, kw_8, kw_1207⟩
theorem ws_X7_isPlace : wS yX7_isPlace cX7_isPlace 2 (some .boolean) := ⟨kw_1213, kw_8, kw_1214⟩
theorem ws_X7_power : wS yX7_power cX7_power 3 (some .long) := ⟨kw_1228, kw_8, kw_1229⟩
theorem wv_X7_noPair : wV yX7_noPair cX7_noPair 3 (some .boolean) := ⟨kw_1240, kp_42, kw_8, kw_1241⟩
theorem wv_X7_noThree : wV yX7_noThree cX7_noThree 4 (some .boolean) := ⟨kw_1248, kp_43, kw_8, kw_1249⟩
theorem wv_X7_becomes : wV yX7_becomes cX7_becomes 2 (some .int) := ⟨kw_1256, kp_44, kw_8, kw_1257⟩
theorem wv_X7_stepOf : wV yX7_stepOf cX7_stepOf 5 (some .boolean) := ⟨kw_1280, kp_45, kw_8, kw_1281⟩
theorem ws_X7_isValue : wS yX7_isValue cX7_isValue 1 (some .boolean) := ⟨kw_1297, kw_8, kw_1298⟩
theorem wv_J0_coder_7d493 : wV yJ0_coder_7d493 cJ0_coder_7d493 1 (some .byte) := ⟨kw_374, kw_375, kw_13, kw_376⟩
theorem wv_J0_isLatin1_aae02 : wV yJ0_isLatin1_aae02 cJ0_isLatin1_aae02 1 (some .boolean) := ⟨kw_384, kw_385, kw_13, kw_386⟩
theorem wv_J0_length_8abf5 : wV yJ0_length_8abf5 cJ0_length_8abf5 1 (some .int) := ⟨kw_370, kw_371, kw_13, kw_372⟩
theorem wv_J0_charAt_5068e : wV yJ0_charAt_5068e cJ0_charAt_5068e 2 (some .char) := ⟨kw_380, kw_381, kw_13, kw_382⟩
theorem ws_J1_charAt_3b067 : wS yJ1_charAt_3b067 cJ1_charAt_3b067 2 (some .char) := ⟨kw_388, kw_14, kw_389⟩
theorem ws_J0_checkIndex_df160 : wS yJ0_checkIndex_df160 cJ0_checkIndex_df160 2 none := ⟨kw_391, kw_13, kw_392⟩
theorem ws_J3_checkIndex_8e157 : wS yJ3_checkIndex_8e157 cJ3_checkIndex_8e157 3 (some .int) := ⟨kw_396, kw_15, kw_397⟩
theorem yo_X2_fits : yOK yX2_fits 0 := ⟨⟨by decide +kernel, by decide +kernel⟩, by decide +kernel⟩
theorem yo_J7_fill_d0a16 : yOK yJ7_fill_d0a16 2 := ⟨⟨by decide +kernel, by decide +kernel⟩, by decide +kernel⟩
theorem yo_J9_floorDiv_f86c9 : yOK yJ9_floorDiv_f86c9 2 := ⟨⟨by decide +kernel, by decide +kernel⟩, by decide +kernel⟩
theorem yo_X0_collectProducts : yOK yX0_collectProducts 2 := ⟨⟨by decide +kernel, by decide +kernel⟩, by decide +kernel⟩
theorem yo_X6_lowestOf : yOK yX6_lowestOf 2 := ⟨⟨by decide +kernel, by decide +kernel⟩, by decide +kernel⟩
theorem yo_X6_rangeLow : yOK yX6_rangeLow 2 := ⟨⟨by decide +kernel, by decide +kernel⟩, by decide +kernel⟩
theorem yo_X6_rangeHigh : yOK yX6_rangeHigh 2 := ⟨⟨by decide +kernel, by decide +kernel⟩, by decide +kernel⟩
theorem yo_X2_spreadLow : yOK yX2_spreadLow 0 := ⟨⟨by decide +kernel, by decide +kernel⟩, by decide +kernel⟩
theorem yo_X2_spreadHigh : yOK yX2_spreadHigh 0 := ⟨⟨by decide +kernel, by decide +kernel⟩, by decide +kernel⟩
theorem yo_X0_addIntervalProduct : yOK yX0_addIntervalProduct 4 := ⟨⟨by decide +kernel, by decide +kernel⟩, by decide +kernel⟩
theorem yo_X2_putQuotient : yOK yX2_putQuotient 3 := ⟨⟨by decide +kernel, by decide +kernel⟩, by decide +kernel⟩
theorem yo_X2_staysInSquare : yOK yX2_staysInSquare 0 := ⟨⟨by decide +kernel, by decide +kernel⟩, by decide +kernel⟩
theorem yo_X2_becomeConstant : yOK yX2_becomeConstant 1 := ⟨⟨by decide +kernel, by decide +kernel⟩, by decide +kernel⟩
theorem yo_X0_multiplyModels : yOK yX0_multiplyModels 3 := ⟨⟨by decide +kernel, by decide +kernel⟩, by decide +kernel⟩
theorem yo_X0_addModels : yOK yX0_addModels 3 := ⟨⟨by decide +kernel, by decide +kernel⟩, by decide +kernel⟩
theorem yo_X2_copyFrom : yOK yX2_copyFrom 1 := ⟨⟨by decide +kernel, by decide +kernel⟩, by decide +kernel⟩
theorem yo_X6_slotOf : yOK yX6_slotOf 2 := ⟨⟨by decide +kernel, by decide +kernel⟩, by decide +kernel⟩
theorem yo_X2_widen : yOK yX2_widen 1 := ⟨⟨by decide +kernel, by decide +kernel⟩, by decide +kernel⟩
theorem yo_X0_integrateTerm : yOK yX0_integrateTerm 4 := ⟨⟨by decide +kernel, by decide +kernel⟩, by decide +kernel⟩
theorem yo_X0_composeModels : yOK yX0_composeModels 4 := ⟨⟨by decide +kernel, by decide +kernel⟩, by decide +kernel⟩
theorem yo_X3_copyFrom : yOK yX3_copyFrom 1 := ⟨⟨by decide +kernel, by decide +kernel⟩, by decide +kernel⟩
theorem yo_X2_setCoefficientAt : yOK yX2_setCoefficientAt 2 := ⟨⟨by decide +kernel, by decide +kernel⟩, by decide +kernel⟩
theorem yo_J6_bitCount_0f7a4 : yOK yJ6_bitCount_0f7a4 1 := ⟨⟨by decide +kernel, by decide +kernel⟩, by decide +kernel⟩
theorem yo_X5_kindOf : yOK yX5_kindOf 1 := ⟨⟨by decide +kernel, by decide +kernel⟩, by decide +kernel⟩
theorem yo_X5_advance : yOK yX5_advance 0 := ⟨⟨by decide +kernel, by decide +kernel⟩, by decide +kernel⟩
theorem yo_X4_fail : yOK yX4_fail 1 := ⟨⟨by decide +kernel, by decide +kernel⟩, by decide +kernel⟩
theorem yo_X5_isNumber : yOK yX5_isNumber 0 := ⟨⟨by decide +kernel, by decide +kernel⟩, by decide +kernel⟩
theorem yo_X5_number : yOK yX5_number 0 := ⟨⟨by decide +kernel, by decide +kernel⟩, by decide +kernel⟩
theorem yo_X4_checkNumber : yOK yX4_checkNumber 0 := ⟨⟨by decide +kernel, by decide +kernel⟩, by decide +kernel⟩
theorem yo_X4_open : yOK yX4_open 2 := ⟨⟨by decide +kernel, by decide +kernel⟩, by decide +kernel⟩
theorem yo_X4_readSum : yOK yX4_readSum 1 := ⟨⟨by decide +kernel, by decide +kernel⟩, by decide +kernel⟩
theorem yo_X4_take : yOK yX4_take 1 := ⟨⟨by decide +kernel, by decide +kernel⟩, by decide +kernel⟩
theorem yo_X5_isWord : yOK yX5_isWord 1 := ⟨⟨by decide +kernel, by decide +kernel⟩, by decide +kernel⟩
theorem yo_X2_becomeVariable : yOK yX2_becomeVariable 1 := ⟨⟨by decide +kernel, by decide +kernel⟩, by decide +kernel⟩
theorem yo_X4_readParenthesis : yOK yX4_readParenthesis 1 := ⟨⟨by decide +kernel, by decide +kernel⟩, by decide +kernel⟩
theorem yo_X0_integrateModel : yOK yX0_integrateModel 3 := ⟨⟨by decide +kernel, by decide +kernel⟩, by decide +kernel⟩
theorem yo_X5_name : yOK yX5_name 0 := ⟨⟨by decide +kernel, by decide +kernel⟩, by decide +kernel⟩
theorem yo_X3_has : yOK yX3_has 1 := ⟨⟨by decide +kernel, by decide +kernel⟩, by decide +kernel⟩
theorem yo_X4_readBrackets : yOK yX4_readBrackets 1 := ⟨⟨by decide +kernel, by decide +kernel⟩, by decide +kernel⟩
theorem yo_X4_readConstant : yOK yX4_readConstant 1 := ⟨⟨by decide +kernel, by decide +kernel⟩, by decide +kernel⟩
theorem yo_X4_readFactor : yOK yX4_readFactor 1 := ⟨⟨by decide +kernel, by decide +kernel⟩, by decide +kernel⟩
theorem yo_X4_readTerm : yOK yX4_readTerm 1 := ⟨⟨by decide +kernel, by decide +kernel⟩, by decide +kernel⟩
theorem yo_X0_subtractModels : yOK yX0_subtractModels 3 := ⟨⟨by decide +kernel, by decide +kernel⟩, by decide +kernel⟩
theorem yo_X5_split : yOK yX5_split 1 := ⟨⟨by decide +kernel, by decide +kernel⟩, by decide +kernel⟩
theorem yo_X4_readUncertainty : yOK yX4_readUncertainty 0 := ⟨⟨by decide +kernel, by decide +kernel⟩, by decide +kernel⟩
theorem yo_X3_define : yOK yX3_define 2 := ⟨⟨by decide +kernel, by decide +kernel⟩, by decide +kernel⟩
theorem yo_X5_putWord : yOK yX5_putWord 1 := ⟨⟨by decide +kernel, by decide +kernel⟩, by decide +kernel⟩
theorem yo_X4_readSetup : yOK yX4_readSetup 1 := ⟨⟨by decide +kernel, by decide +kernel⟩, by decide +kernel⟩
theorem yo_X1_remember : yOK yX1_remember 1 := ⟨⟨by decide +kernel, by decide +kernel⟩, by decide +kernel⟩
theorem yo_X3_count : yOK yX3_count 0 := ⟨⟨by decide +kernel, by decide +kernel⟩, by decide +kernel⟩
theorem yo_X6_requireIndex : yOK yX6_requireIndex 1 := ⟨⟨by decide +kernel, by decide +kernel⟩, by decide +kernel⟩
theorem yo_X6_requireDefined : yOK yX6_requireDefined 1 := ⟨⟨by decide +kernel, by decide +kernel⟩, by decide +kernel⟩
theorem yo_X6_requireSlot : yOK yX6_requireSlot 2 := ⟨⟨by decide +kernel, by decide +kernel⟩, by decide +kernel⟩
theorem yo_X2_coefficientAt : yOK yX2_coefficientAt 1 := ⟨⟨by decide +kernel, by decide +kernel⟩, by decide +kernel⟩
theorem yo_X6_requireZeroOrOne : yOK yX6_requireZeroOrOne 1 := ⟨⟨by decide +kernel, by decide +kernel⟩, by decide +kernel⟩
theorem yo_X2_boundHigh : yOK yX2_boundHigh 0 := ⟨⟨by decide +kernel, by decide +kernel⟩, by decide +kernel⟩
theorem yo_X2_boundLow : yOK yX2_boundLow 0 := ⟨⟨by decide +kernel, by decide +kernel⟩, by decide +kernel⟩
theorem yo_X6_requireBetween : yOK yX6_requireBetween 3 := ⟨⟨by decide +kernel, by decide +kernel⟩, by decide +kernel⟩
theorem yo_X2_valueInBillionths : yOK yX2_valueInBillionths 2 := ⟨⟨by decide +kernel, by decide +kernel⟩, by decide +kernel⟩
theorem yo_X2_highestDegree : yOK yX2_highestDegree 0 := ⟨⟨by decide +kernel, by decide +kernel⟩, by decide +kernel⟩
theorem yo_X2_contains : yOK yX2_contains 1 := ⟨⟨by decide +kernel, by decide +kernel⟩, by decide +kernel⟩
theorem yo_X2_width : yOK yX2_width 0 := ⟨⟨by decide +kernel, by decide +kernel⟩, by decide +kernel⟩
theorem yo_X6_settle : yOK yX6_settle 2 := ⟨⟨by decide +kernel, by decide +kernel⟩, by decide +kernel⟩
theorem yo_X0_moveModels : yOK yX0_moveModels 5 := ⟨⟨by decide +kernel, by decide +kernel⟩, by decide +kernel⟩
theorem yo_X2_sweepUpTo : yOK yX2_sweepUpTo 1 := ⟨⟨by decide +kernel, by decide +kernel⟩, by decide +kernel⟩
theorem yo_X3_remove : yOK yX3_remove 1 := ⟨⟨by decide +kernel, by decide +kernel⟩, by decide +kernel⟩
theorem yo_X1_restore : yOK yX1_restore 1 := ⟨⟨by decide +kernel, by decide +kernel⟩, by decide +kernel⟩
theorem yo_X2_addToChecksum : yOK yX2_addToChecksum 1 := ⟨⟨by decide +kernel, by decide +kernel⟩, by decide +kernel⟩
theorem yo_X7_down : yOK yX7_down 2 := ⟨⟨by decide +kernel, by decide +kernel⟩, by decide +kernel⟩
theorem yo_X7_smaller : yOK yX7_smaller 2 := ⟨⟨by decide +kernel, by decide +kernel⟩, by decide +kernel⟩
theorem yo_X7_low : yOK yX7_low 3 := ⟨⟨by decide +kernel, by decide +kernel⟩, by decide +kernel⟩
theorem yo_X7_iOf : yOK yX7_iOf 1 := ⟨⟨by decide +kernel, by decide +kernel⟩, by decide +kernel⟩
theorem yo_X7_jOf : yOK yX7_jOf 1 := ⟨⟨by decide +kernel, by decide +kernel⟩, by decide +kernel⟩
theorem yo_X7_high : yOK yX7_high 3 := ⟨⟨by decide +kernel, by decide +kernel⟩, by decide +kernel⟩
theorem yo_X7_spreadLow : yOK yX7_spreadLow 1 := ⟨⟨by decide +kernel, by decide +kernel⟩, by decide +kernel⟩
theorem yo_X7_spreadHigh : yOK yX7_spreadHigh 1 := ⟨⟨by decide +kernel, by decide +kernel⟩, by decide +kernel⟩
theorem yo_X7_isSmall : yOK yX7_isSmall 1 := ⟨⟨by decide +kernel, by decide +kernel⟩, by decide +kernel⟩
theorem yo_X7_greater : yOK yX7_greater 2 := ⟨⟨by decide +kernel, by decide +kernel⟩, by decide +kernel⟩
theorem yo_X7_layProducts : yOK yX7_layProducts 2 := ⟨⟨by decide +kernel, by decide +kernel⟩, by decide +kernel⟩
theorem yo_X7_clearRow : yOK yX7_clearRow 1 := ⟨⟨by decide +kernel, by decide +kernel⟩, by decide +kernel⟩
theorem yo_X7_place : yOK yX7_place 2 := ⟨⟨by decide +kernel, by decide +kernel⟩, by decide +kernel⟩
theorem yo_X7_leastProduct : yOK yX7_leastProduct 4 := ⟨⟨by decide +kernel, by decide +kernel⟩, by decide +kernel⟩
theorem yo_X7_greatestProduct : yOK yX7_greatestProduct 4 := ⟨⟨by decide +kernel, by decide +kernel⟩, by decide +kernel⟩
theorem yo_X7_up : yOK yX7_up 2 := ⟨⟨by decide +kernel, by decide +kernel⟩, by decide +kernel⟩
theorem yo_X7_copyRow : yOK yX7_copyRow 2 := ⟨⟨by decide +kernel, by decide +kernel⟩, by decide +kernel⟩
theorem yo_X7_isWithin : yOK yX7_isWithin 1 := ⟨⟨by decide +kernel, by decide +kernel⟩, by decide +kernel⟩
theorem yo_X7_productOf : yOK yX7_productOf 3 := ⟨⟨by decide +kernel, by decide +kernel⟩, by decide +kernel⟩
theorem yo_X7_sumOf : yOK yX7_sumOf 4 := ⟨⟨by decide +kernel, by decide +kernel⟩, by decide +kernel⟩
theorem yo_X7_byteAt : yOK yX7_byteAt 1 := ⟨⟨by decide +kernel, by decide +kernel⟩, by decide +kernel⟩
theorem yo_X7_in : yOK yX7_in 3 := ⟨⟨by decide +kernel, by decide +kernel⟩, by decide +kernel⟩
theorem yo_X7_isGood : yOK yX7_isGood 0 := ⟨⟨by decide +kernel, by decide +kernel⟩, by decide +kernel⟩
theorem yo_X7_next : yOK yX7_next 0 := ⟨⟨by decide +kernel, by decide +kernel⟩, by decide +kernel⟩
theorem yo_X7_report : yOK yX7_report 2 := ⟨⟨by decide +kernel, by decide +kernel⟩, by decide +kernel⟩
theorem yo_X7_isDigit : yOK yX7_isDigit 1 := ⟨⟨by decide +kernel, by decide +kernel⟩, by decide +kernel⟩
theorem yo_X7_min : yOK yX7_min 2 := ⟨⟨by decide +kernel, by decide +kernel⟩, by decide +kernel⟩
theorem yo_X7_expect : yOK yX7_expect 1 := ⟨⟨by decide +kernel, by decide +kernel⟩, by decide +kernel⟩
theorem yo_X7_open : yOK yX7_open 1 := ⟨⟨by decide +kernel, by decide +kernel⟩, by decide +kernel⟩
theorem yo_X7_sum : yOK yX7_sum 1 := ⟨⟨by decide +kernel, by decide +kernel⟩, by decide +kernel⟩
theorem yo_X7_close : yOK yX7_close 1 := ⟨⟨by decide +kernel, by decide +kernel⟩, by decide +kernel⟩
theorem yo_X7_integralOf : yOK yX7_integralOf 3 := ⟨⟨by decide +kernel, by decide +kernel⟩, by decide +kernel⟩
theorem yo_X7_refuse : yOK yX7_refuse 1 := ⟨⟨by decide +kernel, by decide +kernel⟩, by decide +kernel⟩
theorem yo_X7_isDefined : yOK yX7_isDefined 2 := ⟨⟨by decide +kernel, by decide +kernel⟩, by decide +kernel⟩
theorem yo_X7_take : yOK yX7_take 3 := ⟨⟨by decide +kernel, by decide +kernel⟩, by decide +kernel⟩
theorem yo_X7_compositionOf : yOK yX7_compositionOf 4 := ⟨⟨by decide +kernel, by decide +kernel⟩, by decide +kernel⟩
theorem yo_X7_takeWord : yOK yX7_takeWord 1 := ⟨⟨by decide +kernel, by decide +kernel⟩, by decide +kernel⟩
theorem yo_X7_takeName : yOK yX7_takeName 0 := ⟨⟨by decide +kernel, by decide +kernel⟩, by decide +kernel⟩
theorem yo_X7_readNamed : yOK yX7_readNamed 3 := ⟨⟨by decide +kernel, by decide +kernel⟩, by decide +kernel⟩
theorem yo_X7_readIntegral : yOK yX7_readIntegral 2 := ⟨⟨by decide +kernel, by decide +kernel⟩, by decide +kernel⟩
theorem yo_X7_number : yOK yX7_number 2 := ⟨⟨by decide +kernel, by decide +kernel⟩, by decide +kernel⟩
theorem yo_X7_factor : yOK yX7_factor 1 := ⟨⟨by decide +kernel, by decide +kernel⟩, by decide +kernel⟩
theorem yo_X7_term : yOK yX7_term 1 := ⟨⟨by decide +kernel, by decide +kernel⟩, by decide +kernel⟩
theorem yo_X7_give : yOK yX7_give 3 := ⟨⟨by decide +kernel, by decide +kernel⟩, by decide +kernel⟩
theorem yo_X7_copy : yOK yX7_copy 2 := ⟨⟨by decide +kernel, by decide +kernel⟩, by decide +kernel⟩
theorem yo_X7_fails : yOK yX7_fails 2 := ⟨⟨by decide +kernel, by decide +kernel⟩, by decide +kernel⟩
theorem yo_X7_statement : yOK yX7_statement 0 := ⟨⟨by decide +kernel, by decide +kernel⟩, by decide +kernel⟩
theorem yo_X7_remember : yOK yX7_remember 0 := ⟨⟨by decide +kernel, by decide +kernel⟩, by decide +kernel⟩
theorem yo_X7_noIndex : yOK yX7_noIndex 1 := ⟨⟨by decide +kernel, by decide +kernel⟩, by decide +kernel⟩
theorem yo_X7_noModel : yOK yX7_noModel 1 := ⟨⟨by decide +kernel, by decide +kernel⟩, by decide +kernel⟩
theorem yo_X7_isPlace : yOK yX7_isPlace 2 := ⟨⟨by decide +kernel, by decide +kernel⟩, by decide +kernel⟩
theorem yo_X7_power : yOK yX7_power 2 := ⟨⟨by decide +kernel, by decide +kernel⟩, by decide +kernel⟩
theorem yo_X7_noPair : yOK yX7_noPair 2 := ⟨⟨by decide +kernel, by decide +kernel⟩, by decide +kernel⟩
theorem yo_X7_noThree : yOK yX7_noThree 3 := ⟨⟨by decide +kernel, by decide +kernel⟩, by decide +kernel⟩
theorem yo_X7_becomes : yOK yX7_becomes 1 := ⟨⟨by decide +kernel, by decide +kernel⟩, by decide +kernel⟩
theorem yo_X7_stepOf : yOK yX7_stepOf 4 := ⟨⟨by decide +kernel, by decide +kernel⟩, by decide +kernel⟩
theorem yo_X7_isValue : yOK yX7_isValue 1 := ⟨⟨by decide +kernel, by decide +kernel⟩, by decide +kernel⟩
theorem yo_X2_init : yOK yX2_init 0 := ⟨⟨by decide +kernel, by decide +kernel⟩, by decide +kernel⟩
theorem yo_X3_init : yOK yX3_init 0 := ⟨⟨by decide +kernel, by decide +kernel⟩, by decide +kernel⟩
theorem yo_X5_init : yOK yX5_init 0 := ⟨⟨by decide +kernel, by decide +kernel⟩, by decide +kernel⟩
theorem yo_X0_init : yOK yX0_init 0 := ⟨⟨by decide +kernel, by decide +kernel⟩, by decide +kernel⟩
theorem yo_X1_init : yOK yX1_init 0 := ⟨⟨by decide +kernel, by decide +kernel⟩, by decide +kernel⟩
theorem yo_X4_init : yOK yX4_init 0 := ⟨⟨by decide +kernel, by decide +kernel⟩, by decide +kernel⟩
theorem yo_X6_init : yOK yX6_init 0 := ⟨⟨by decide +kernel, by decide +kernel⟩, by decide +kernel⟩
theorem yo_X7_init : yOK yX7_init 0 := ⟨⟨by decide +kernel, by decide +kernel⟩, by decide +kernel⟩
theorem yo_J0_coder_7d493 : yOK yJ0_coder_7d493 0 := ⟨⟨by decide +kernel, by decide +kernel⟩, by decide +kernel⟩
theorem yo_J0_isLatin1_aae02 : yOK yJ0_isLatin1_aae02 0 := ⟨⟨by decide +kernel, by decide +kernel⟩, by decide +kernel⟩
theorem yo_J0_length_8abf5 : yOK yJ0_length_8abf5 0 := ⟨⟨by decide +kernel, by decide +kernel⟩, by decide +kernel⟩
theorem yo_J0_charAt_5068e : yOK yJ0_charAt_5068e 1 := ⟨⟨by decide +kernel, by decide +kernel⟩, by decide +kernel⟩
theorem yo_J1_charAt_3b067 : yOK yJ1_charAt_3b067 2 := ⟨⟨by decide +kernel, by decide +kernel⟩, by decide +kernel⟩
theorem yo_J0_checkIndex_df160 : yOK yJ0_checkIndex_df160 2 := ⟨⟨by decide +kernel, by decide +kernel⟩, by decide +kernel⟩
theorem yo_J3_checkIndex_8e157 : yOK yJ3_checkIndex_8e157 3 := ⟨⟨by decide +kernel, by decide +kernel⟩, by decide +kernel⟩
theorem gf_X2_9 {p : Program} {l : Launch} {e : Env} {R : Room} {s : State} {m : MethodId} {args : Array Value} {below : List Frame} {meth : Method} {c : Code} {H : Heap} {locs : List Loc} {cells slots : Nat} {Q : State → Prop} {cc : ByteArray} {nL : Nat} {G : GP} {A0 : Nat → Prop} {sk : Sk} {σ : St} {pc : Nat} {ls : Array Slot} {rest : List Value} (E : En p m c s cc nL RX2 G A0) (hW : Wo G sk A0 s σ H locs) {q : Nat} (hk : sk.2.1 q = (0, 2)) (hdg : decode cc pc = .ok (.getfield 9, 3)) (kk : W p l e R s m args below meth c H locs cells slots Q (F0 m (pc + 3) ls (.ref (G.2.2.2 + sk.2.2 q 0) :: rest))) : W p l e R s m args below meth c H locs cells slots Q (F0 m pc ls (.ref (G.2.2.2 + q) :: rest)) :=
  r_get E hW hk (k := 0) (T := TX2) (n := 3) rfl in_X2 (by decide) rfl ⟨rfl, rfl, rfl⟩ kw_45 hdg kk
theorem gf_X2_21 {p : Program} {l : Launch} {e : Env} {R : Room} {s : State} {m : MethodId} {args : Array Value} {below : List Frame} {meth : Method} {c : Code} {H : Heap} {locs : List Loc} {cells slots : Nat} {Q : State → Prop} {cc : ByteArray} {nL : Nat} {G : GP} {A0 : Nat → Prop} {sk : Sk} {σ : St} {pc : Nat} {ls : Array Slot} {rest : List Value} (E : En p m c s cc nL RX2 G A0) (hW : Wo G sk A0 s σ H locs) {q : Nat} (hk : sk.2.1 q = (0, 2)) (hdg : decode cc pc = .ok (.getfield 21, 3)) (kk : W p l e R s m args below meth c H locs cells slots Q (F0 m (pc + 3) ls (.long (σ.2 q 1) :: rest))) : W p l e R s m args below meth c H locs cells slots Q (F0 m pc ls (.ref (G.2.2.2 + q) :: rest)) :=
  r_get E hW hk (k := 1) (T := TX2) (n := 3) rfl in_X2 (by decide) rfl ⟨rfl, rfl, rfl⟩ kw_47 hdg kk
theorem gf_X2_25 {p : Program} {l : Launch} {e : Env} {R : Room} {s : State} {m : MethodId} {args : Array Value} {below : List Frame} {meth : Method} {c : Code} {H : Heap} {locs : List Loc} {cells slots : Nat} {Q : State → Prop} {cc : ByteArray} {nL : Nat} {G : GP} {A0 : Nat → Prop} {sk : Sk} {σ : St} {pc : Nat} {ls : Array Slot} {rest : List Value} (E : En p m c s cc nL RX2 G A0) (hW : Wo G sk A0 s σ H locs) {q : Nat} (hk : sk.2.1 q = (0, 2)) (hdg : decode cc pc = .ok (.getfield 25, 3)) (kk : W p l e R s m args below meth c H locs cells slots Q (F0 m (pc + 3) ls (.long (σ.2 q 2) :: rest))) : W p l e R s m args below meth c H locs cells slots Q (F0 m pc ls (.ref (G.2.2.2 + q) :: rest)) :=
  r_get E hW hk (k := 2) (T := TX2) (n := 3) rfl in_X2 (by decide) rfl ⟨rfl, rfl, rfl⟩ kw_50 hdg kk
theorem gf_X0_34 {p : Program} {l : Launch} {e : Env} {R : Room} {s : State} {m : MethodId} {args : Array Value} {below : List Frame} {meth : Method} {c : Code} {H : Heap} {locs : List Loc} {cells slots : Nat} {Q : State → Prop} {cc : ByteArray} {nL : Nat} {G : GP} {A0 : Nat → Prop} {sk : Sk} {σ : St} {pc : Nat} {ls : Array Slot} {rest : List Value} (E : En p m c s cc nL RX0 G A0) (hW : Wo G sk A0 s σ H locs) {q : Nat} (hk : sk.2.1 q = (0, 2)) (hdg : decode cc pc = .ok (.getfield 34, 3)) (kk : W p l e R s m args below meth c H locs cells slots Q (F0 m (pc + 3) ls (.ref (G.2.2.2 + sk.2.2 q 0) :: rest))) : W p l e R s m args below meth c H locs cells slots Q (F0 m pc ls (.ref (G.2.2.2 + q) :: rest)) :=
  r_get E hW hk (k := 0) (T := TX2) (n := 3) rfl in_X2 (by decide) rfl ⟨rfl, rfl, rfl⟩ kw_46 hdg kk
theorem gf_X0_37 {p : Program} {l : Launch} {e : Env} {R : Room} {s : State} {m : MethodId} {args : Array Value} {below : List Frame} {meth : Method} {c : Code} {H : Heap} {locs : List Loc} {cells slots : Nat} {Q : State → Prop} {cc : ByteArray} {nL : Nat} {G : GP} {A0 : Nat → Prop} {sk : Sk} {σ : St} {pc : Nat} {ls : Array Slot} {rest : List Value} (E : En p m c s cc nL RX0 G A0) (hW : Wo G sk A0 s σ H locs) {q : Nat} (hk : sk.2.1 q = (0, 2)) (hdg : decode cc pc = .ok (.getfield 37, 3)) (kk : W p l e R s m args below meth c H locs cells slots Q (F0 m (pc + 3) ls (.long (σ.2 q 1) :: rest))) : W p l e R s m args below meth c H locs cells slots Q (F0 m pc ls (.ref (G.2.2.2 + q) :: rest)) :=
  r_get E hW hk (k := 1) (T := TX2) (n := 3) rfl in_X2 (by decide) rfl ⟨rfl, rfl, rfl⟩ kw_48 hdg kk
theorem pf_X0_37 {p : Program} {l : Launch} {e : Env} {R : Room} {s : State} {m : MethodId} {args : Array Value} {below : List Frame} {meth : Method} {c : Code} {H : Heap} {locs : List Loc} {cells slots : Nat} {Q : State → Prop} {cc : ByteArray} {nL : Nat} {G : GP} {A0 : Nat → Prop} {sk : Sk} {σ : St} {pc : Nat} {ls : Array Slot} {rest : List Value} (E : En p m c s cc nL RX0 G A0) (hW : Wo G sk A0 s σ H locs) {q : Nat} {v : Int64} (hk : sk.2.1 q = (0, 2)) (hdg : decode cc pc = .ok (.putfield 37, 3)) (kk : ∀ (σ9 : St) (H1 : Heap) (locs1 : List Loc), σ9 = sJ σ q 1 v → Wo G sk A0 s σ9 H1 locs1 → W p l e R s m args below meth c H1 locs1 cells slots Q (F0 m (pc + 3) ls rest)) : W p l e R s m args below meth c H locs cells slots Q (F0 m pc ls (.long v :: .ref (G.2.2.2 + q) :: rest)) :=
  r_putJ E hW hk (k := 1) (T := TX2) (n := 3) rfl in_X2 (by decide) rfl rfl tyX2_ok nmX2 ⟨rfl, rfl, rfl, rfl⟩ kw_48 hdg kk
theorem gf_X0_41 {p : Program} {l : Launch} {e : Env} {R : Room} {s : State} {m : MethodId} {args : Array Value} {below : List Frame} {meth : Method} {c : Code} {H : Heap} {locs : List Loc} {cells slots : Nat} {Q : State → Prop} {cc : ByteArray} {nL : Nat} {G : GP} {A0 : Nat → Prop} {sk : Sk} {σ : St} {pc : Nat} {ls : Array Slot} {rest : List Value} (E : En p m c s cc nL RX0 G A0) (hW : Wo G sk A0 s σ H locs) {q : Nat} (hk : sk.2.1 q = (0, 2)) (hdg : decode cc pc = .ok (.getfield 41, 3)) (kk : W p l e R s m args below meth c H locs cells slots Q (F0 m (pc + 3) ls (.long (σ.2 q 2) :: rest))) : W p l e R s m args below meth c H locs cells slots Q (F0 m pc ls (.ref (G.2.2.2 + q) :: rest)) :=
  r_get E hW hk (k := 2) (T := TX2) (n := 3) rfl in_X2 (by decide) rfl ⟨rfl, rfl, rfl⟩ kw_51 hdg kk
theorem pf_X0_41 {p : Program} {l : Launch} {e : Env} {R : Room} {s : State} {m : MethodId} {args : Array Value} {below : List Frame} {meth : Method} {c : Code} {H : Heap} {locs : List Loc} {cells slots : Nat} {Q : State → Prop} {cc : ByteArray} {nL : Nat} {G : GP} {A0 : Nat → Prop} {sk : Sk} {σ : St} {pc : Nat} {ls : Array Slot} {rest : List Value} (E : En p m c s cc nL RX0 G A0) (hW : Wo G sk A0 s σ H locs) {q : Nat} {v : Int64} (hk : sk.2.1 q = (0, 2)) (hdg : decode cc pc = .ok (.putfield 41, 3)) (kk : ∀ (σ9 : St) (H1 : Heap) (locs1 : List Loc), σ9 = sJ σ q 2 v → Wo G sk A0 s σ9 H1 locs1 → W p l e R s m args below meth c H1 locs1 cells slots Q (F0 m (pc + 3) ls rest)) : W p l e R s m args below meth c H locs cells slots Q (F0 m pc ls (.long v :: .ref (G.2.2.2 + q) :: rest)) :=
  r_putJ E hW hk (k := 2) (T := TX2) (n := 3) rfl in_X2 (by decide) rfl rfl tyX2_ok nmX2 ⟨rfl, rfl, rfl, rfl⟩ kw_51 hdg kk
theorem gf_X0_11 {p : Program} {l : Launch} {e : Env} {R : Room} {s : State} {m : MethodId} {args : Array Value} {below : List Frame} {meth : Method} {c : Code} {H : Heap} {locs : List Loc} {cells slots : Nat} {Q : State → Prop} {cc : ByteArray} {nL : Nat} {G : GP} {A0 : Nat → Prop} {sk : Sk} {σ : St} {pc : Nat} {ls : Array Slot} {rest : List Value} (E : En p m c s cc nL RX0 G A0) (hW : Wo G sk A0 s σ H locs) {q : Nat} (hk : sk.2.1 q = (0, 0)) (hdg : decode cc pc = .ok (.getfield 11, 3)) (kk : W p l e R s m args below meth c H locs cells slots Q (F0 m (pc + 3) ls (.ref (G.2.2.2 + sk.2.2 q 0) :: rest))) : W p l e R s m args below meth c H locs cells slots Q (F0 m pc ls (.ref (G.2.2.2 + q) :: rest)) :=
  r_get E hW hk (k := 0) (T := TX0) (n := 8) rfl in_X0 (by decide) rfl ⟨rfl, rfl, rfl⟩ kw_100 hdg kk
theorem gf_X0_52 {p : Program} {l : Launch} {e : Env} {R : Room} {s : State} {m : MethodId} {args : Array Value} {below : List Frame} {meth : Method} {c : Code} {H : Heap} {locs : List Loc} {cells slots : Nat} {Q : State → Prop} {cc : ByteArray} {nL : Nat} {G : GP} {A0 : Nat → Prop} {sk : Sk} {σ : St} {pc : Nat} {ls : Array Slot} {rest : List Value} (E : En p m c s cc nL RX0 G A0) (hW : Wo G sk A0 s σ H locs) {q : Nat} (hk : sk.2.1 q = (0, 0)) (hdg : decode cc pc = .ok (.getfield 52, 3)) (kk : W p l e R s m args below meth c H locs cells slots Q (F0 m (pc + 3) ls (.long (σ.2 q 1) :: rest))) : W p l e R s m args below meth c H locs cells slots Q (F0 m pc ls (.ref (G.2.2.2 + q) :: rest)) :=
  r_get E hW hk (k := 1) (T := TX0) (n := 8) rfl in_X0 (by decide) rfl ⟨rfl, rfl, rfl⟩ kw_101 hdg kk
theorem pf_X0_52 {p : Program} {l : Launch} {e : Env} {R : Room} {s : State} {m : MethodId} {args : Array Value} {below : List Frame} {meth : Method} {c : Code} {H : Heap} {locs : List Loc} {cells slots : Nat} {Q : State → Prop} {cc : ByteArray} {nL : Nat} {G : GP} {A0 : Nat → Prop} {sk : Sk} {σ : St} {pc : Nat} {ls : Array Slot} {rest : List Value} (E : En p m c s cc nL RX0 G A0) (hW : Wo G sk A0 s σ H locs) {q : Nat} {v : Int64} (hk : sk.2.1 q = (0, 0)) (hdg : decode cc pc = .ok (.putfield 52, 3)) (kk : ∀ (σ9 : St) (H1 : Heap) (locs1 : List Loc), σ9 = sJ σ q 1 v → Wo G sk A0 s σ9 H1 locs1 → W p l e R s m args below meth c H1 locs1 cells slots Q (F0 m (pc + 3) ls rest)) : W p l e R s m args below meth c H locs cells slots Q (F0 m pc ls (.long v :: .ref (G.2.2.2 + q) :: rest)) :=
  r_putJ E hW hk (k := 1) (T := TX0) (n := 8) rfl in_X0 (by decide) rfl rfl tyX0_ok nmX0 ⟨rfl, rfl, rfl, rfl⟩ kw_101 hdg kk
theorem gf_X0_53 {p : Program} {l : Launch} {e : Env} {R : Room} {s : State} {m : MethodId} {args : Array Value} {below : List Frame} {meth : Method} {c : Code} {H : Heap} {locs : List Loc} {cells slots : Nat} {Q : State → Prop} {cc : ByteArray} {nL : Nat} {G : GP} {A0 : Nat → Prop} {sk : Sk} {σ : St} {pc : Nat} {ls : Array Slot} {rest : List Value} (E : En p m c s cc nL RX0 G A0) (hW : Wo G sk A0 s σ H locs) {q : Nat} (hk : sk.2.1 q = (0, 0)) (hdg : decode cc pc = .ok (.getfield 53, 3)) (kk : W p l e R s m args below meth c H locs cells slots Q (F0 m (pc + 3) ls (.long (σ.2 q 2) :: rest))) : W p l e R s m args below meth c H locs cells slots Q (F0 m pc ls (.ref (G.2.2.2 + q) :: rest)) :=
  r_get E hW hk (k := 2) (T := TX0) (n := 8) rfl in_X0 (by decide) rfl ⟨rfl, rfl, rfl⟩ kw_102 hdg kk
theorem pf_X0_53 {p : Program} {l : Launch} {e : Env} {R : Room} {s : State} {m : MethodId} {args : Array Value} {below : List Frame} {meth : Method} {c : Code} {H : Heap} {locs : List Loc} {cells slots : Nat} {Q : State → Prop} {cc : ByteArray} {nL : Nat} {G : GP} {A0 : Nat → Prop} {sk : Sk} {σ : St} {pc : Nat} {ls : Array Slot} {rest : List Value} (E : En p m c s cc nL RX0 G A0) (hW : Wo G sk A0 s σ H locs) {q : Nat} {v : Int64} (hk : sk.2.1 q = (0, 0)) (hdg : decode cc pc = .ok (.putfield 53, 3)) (kk : ∀ (σ9 : St) (H1 : Heap) (locs1 : List Loc), σ9 = sJ σ q 2 v → Wo G sk A0 s σ9 H1 locs1 → W p l e R s m args below meth c H1 locs1 cells slots Q (F0 m (pc + 3) ls rest)) : W p l e R s m args below meth c H locs cells slots Q (F0 m pc ls (.long v :: .ref (G.2.2.2 + q) :: rest)) :=
  r_putJ E hW hk (k := 2) (T := TX0) (n := 8) rfl in_X0 (by decide) rfl rfl tyX0_ok nmX0 ⟨rfl, rfl, rfl, rfl⟩ kw_102 hdg kk
theorem pf_X2_21 {p : Program} {l : Launch} {e : Env} {R : Room} {s : State} {m : MethodId} {args : Array Value} {below : List Frame} {meth : Method} {c : Code} {H : Heap} {locs : List Loc} {cells slots : Nat} {Q : State → Prop} {cc : ByteArray} {nL : Nat} {G : GP} {A0 : Nat → Prop} {sk : Sk} {σ : St} {pc : Nat} {ls : Array Slot} {rest : List Value} (E : En p m c s cc nL RX2 G A0) (hW : Wo G sk A0 s σ H locs) {q : Nat} {v : Int64} (hk : sk.2.1 q = (0, 2)) (hdg : decode cc pc = .ok (.putfield 21, 3)) (kk : ∀ (σ9 : St) (H1 : Heap) (locs1 : List Loc), σ9 = sJ σ q 1 v → Wo G sk A0 s σ9 H1 locs1 → W p l e R s m args below meth c H1 locs1 cells slots Q (F0 m (pc + 3) ls rest)) : W p l e R s m args below meth c H locs cells slots Q (F0 m pc ls (.long v :: .ref (G.2.2.2 + q) :: rest)) :=
  r_putJ E hW hk (k := 1) (T := TX2) (n := 3) rfl in_X2 (by decide) rfl rfl tyX2_ok nmX2 ⟨rfl, rfl, rfl, rfl⟩ kw_47 hdg kk
theorem pf_X2_25 {p : Program} {l : Launch} {e : Env} {R : Room} {s : State} {m : MethodId} {args : Array Value} {below : List Frame} {meth : Method} {c : Code} {H : Heap} {locs : List Loc} {cells slots : Nat} {Q : State → Prop} {cc : ByteArray} {nL : Nat} {G : GP} {A0 : Nat → Prop} {sk : Sk} {σ : St} {pc : Nat} {ls : Array Slot} {rest : List Value} (E : En p m c s cc nL RX2 G A0) (hW : Wo G sk A0 s σ H locs) {q : Nat} {v : Int64} (hk : sk.2.1 q = (0, 2)) (hdg : decode cc pc = .ok (.putfield 25, 3)) (kk : ∀ (σ9 : St) (H1 : Heap) (locs1 : List Loc), σ9 = sJ σ q 2 v → Wo G sk A0 s σ9 H1 locs1 → W p l e R s m args below meth c H1 locs1 cells slots Q (F0 m (pc + 3) ls rest)) : W p l e R s m args below meth c H locs cells slots Q (F0 m pc ls (.long v :: .ref (G.2.2.2 + q) :: rest)) :=
  r_putJ E hW hk (k := 2) (T := TX2) (n := 3) rfl in_X2 (by decide) rfl rfl tyX2_ok nmX2 ⟨rfl, rfl, rfl, rfl⟩ kw_50 hdg kk
theorem gf_X0_22 {p : Program} {l : Launch} {e : Env} {R : Room} {s : State} {m : MethodId} {args : Array Value} {below : List Frame} {meth : Method} {c : Code} {H : Heap} {locs : List Loc} {cells slots : Nat} {Q : State → Prop} {cc : ByteArray} {nL : Nat} {G : GP} {A0 : Nat → Prop} {sk : Sk} {σ : St} {pc : Nat} {ls : Array Slot} {rest : List Value} (E : En p m c s cc nL RX0 G A0) (hW : Wo G sk A0 s σ H locs) {q : Nat} (hk : sk.2.1 q = (0, 0)) (hdg : decode cc pc = .ok (.getfield 22, 3)) (kk : W p l e R s m args below meth c H locs cells slots Q (F0 m (pc + 3) ls (.ref (G.2.2.2 + sk.2.2 q 4) :: rest))) : W p l e R s m args below meth c H locs cells slots Q (F0 m pc ls (.ref (G.2.2.2 + q) :: rest)) :=
  r_get E hW hk (k := 4) (T := TX0) (n := 8) rfl in_X0 (by decide) rfl ⟨rfl, rfl, rfl⟩ kw_104 hdg kk
theorem gf_X0_18 {p : Program} {l : Launch} {e : Env} {R : Room} {s : State} {m : MethodId} {args : Array Value} {below : List Frame} {meth : Method} {c : Code} {H : Heap} {locs : List Loc} {cells slots : Nat} {Q : State → Prop} {cc : ByteArray} {nL : Nat} {G : GP} {A0 : Nat → Prop} {sk : Sk} {σ : St} {pc : Nat} {ls : Array Slot} {rest : List Value} (E : En p m c s cc nL RX0 G A0) (hW : Wo G sk A0 s σ H locs) {q : Nat} (hk : sk.2.1 q = (0, 0)) (hdg : decode cc pc = .ok (.getfield 18, 3)) (kk : W p l e R s m args below meth c H locs cells slots Q (F0 m (pc + 3) ls (.ref (G.2.2.2 + sk.2.2 q 3) :: rest))) : W p l e R s m args below meth c H locs cells slots Q (F0 m pc ls (.ref (G.2.2.2 + q) :: rest)) :=
  r_get E hW hk (k := 3) (T := TX0) (n := 8) rfl in_X0 (by decide) rfl ⟨rfl, rfl, rfl⟩ kw_103 hdg kk
theorem gf_X0_25 {p : Program} {l : Launch} {e : Env} {R : Room} {s : State} {m : MethodId} {args : Array Value} {below : List Frame} {meth : Method} {c : Code} {H : Heap} {locs : List Loc} {cells slots : Nat} {Q : State → Prop} {cc : ByteArray} {nL : Nat} {G : GP} {A0 : Nat → Prop} {sk : Sk} {σ : St} {pc : Nat} {ls : Array Slot} {rest : List Value} (E : En p m c s cc nL RX0 G A0) (hW : Wo G sk A0 s σ H locs) {q : Nat} (hk : sk.2.1 q = (0, 0)) (hdg : decode cc pc = .ok (.getfield 25, 3)) (kk : W p l e R s m args below meth c H locs cells slots Q (F0 m (pc + 3) ls (.ref (G.2.2.2 + sk.2.2 q 5) :: rest))) : W p l e R s m args below meth c H locs cells slots Q (F0 m pc ls (.ref (G.2.2.2 + q) :: rest)) :=
  r_get E hW hk (k := 5) (T := TX0) (n := 8) rfl in_X0 (by decide) rfl ⟨rfl, rfl, rfl⟩ kw_105 hdg kk
theorem gf_X0_28 {p : Program} {l : Launch} {e : Env} {R : Room} {s : State} {m : MethodId} {args : Array Value} {below : List Frame} {meth : Method} {c : Code} {H : Heap} {locs : List Loc} {cells slots : Nat} {Q : State → Prop} {cc : ByteArray} {nL : Nat} {G : GP} {A0 : Nat → Prop} {sk : Sk} {σ : St} {pc : Nat} {ls : Array Slot} {rest : List Value} (E : En p m c s cc nL RX0 G A0) (hW : Wo G sk A0 s σ H locs) {q : Nat} (hk : sk.2.1 q = (0, 0)) (hdg : decode cc pc = .ok (.getfield 28, 3)) (kk : W p l e R s m args below meth c H locs cells slots Q (F0 m (pc + 3) ls (.ref (G.2.2.2 + sk.2.2 q 6) :: rest))) : W p l e R s m args below meth c H locs cells slots Q (F0 m pc ls (.ref (G.2.2.2 + q) :: rest)) :=
  r_get E hW hk (k := 6) (T := TX0) (n := 8) rfl in_X0 (by decide) rfl ⟨rfl, rfl, rfl⟩ kw_106 hdg kk
theorem gf_X0_31 {p : Program} {l : Launch} {e : Env} {R : Room} {s : State} {m : MethodId} {args : Array Value} {below : List Frame} {meth : Method} {c : Code} {H : Heap} {locs : List Loc} {cells slots : Nat} {Q : State → Prop} {cc : ByteArray} {nL : Nat} {G : GP} {A0 : Nat → Prop} {sk : Sk} {σ : St} {pc : Nat} {ls : Array Slot} {rest : List Value} (E : En p m c s cc nL RX0 G A0) (hW : Wo G sk A0 s σ H locs) {q : Nat} (hk : sk.2.1 q = (0, 0)) (hdg : decode cc pc = .ok (.getfield 31, 3)) (kk : W p l e R s m args below meth c H locs cells slots Q (F0 m (pc + 3) ls (.ref (G.2.2.2 + sk.2.2 q 7) :: rest))) : W p l e R s m args below meth c H locs cells slots Q (F0 m pc ls (.ref (G.2.2.2 + q) :: rest)) :=
  r_get E hW hk (k := 7) (T := TX0) (n := 8) rfl in_X0 (by decide) rfl ⟨rfl, rfl, rfl⟩ kw_107 hdg kk
theorem gf_X3_18 {p : Program} {l : Launch} {e : Env} {R : Room} {s : State} {m : MethodId} {args : Array Value} {below : List Frame} {meth : Method} {c : Code} {H : Heap} {locs : List Loc} {cells slots : Nat} {Q : State → Prop} {cc : ByteArray} {nL : Nat} {G : GP} {A0 : Nat → Prop} {sk : Sk} {σ : St} {pc : Nat} {ls : Array Slot} {rest : List Value} (E : En p m c s cc nL RX3 G A0) (hW : Wo G sk A0 s σ H locs) {q : Nat} (hk : sk.2.1 q = (0, 3)) (hdg : decode cc pc = .ok (.getfield 18, 3)) (kk : W p l e R s m args below meth c H locs cells slots Q (F0 m (pc + 3) ls (.int (σ.1 q 1) :: rest))) : W p l e R s m args below meth c H locs cells slots Q (F0 m pc ls (.ref (G.2.2.2 + q) :: rest)) :=
  r_get E hW hk (k := 1) (T := TX3) (n := 2) rfl in_X3 (by decide) rfl ⟨rfl, rfl, rfl⟩ kw_65 hdg kk
theorem pf_X3_18 {p : Program} {l : Launch} {e : Env} {R : Room} {s : State} {m : MethodId} {args : Array Value} {below : List Frame} {meth : Method} {c : Code} {H : Heap} {locs : List Loc} {cells slots : Nat} {Q : State → Prop} {cc : ByteArray} {nL : Nat} {G : GP} {A0 : Nat → Prop} {sk : Sk} {σ : St} {pc : Nat} {ls : Array Slot} {rest : List Value} (E : En p m c s cc nL RX3 G A0) (hW : Wo G sk A0 s σ H locs) {q : Nat} {v : Int32} (hk : sk.2.1 q = (0, 3)) (hdg : decode cc pc = .ok (.putfield 18, 3)) (kk : ∀ (σ9 : St) (H1 : Heap) (locs1 : List Loc), σ9 = sI σ q 1 v → Wo G sk A0 s σ9 H1 locs1 → W p l e R s m args below meth c H1 locs1 cells slots Q (F0 m (pc + 3) ls rest)) : W p l e R s m args below meth c H locs cells slots Q (F0 m pc ls (.int v :: .ref (G.2.2.2 + q) :: rest)) :=
  r_putI E hW hk (k := 1) (T := TX3) (n := 2) rfl in_X3 (by decide) rfl rfl tyX3_ok nmX3 ⟨rfl, rfl, rfl, rfl⟩ kw_65 hdg kk
theorem gf_X3_11 {p : Program} {l : Launch} {e : Env} {R : Room} {s : State} {m : MethodId} {args : Array Value} {below : List Frame} {meth : Method} {c : Code} {H : Heap} {locs : List Loc} {cells slots : Nat} {Q : State → Prop} {cc : ByteArray} {nL : Nat} {G : GP} {A0 : Nat → Prop} {sk : Sk} {σ : St} {pc : Nat} {ls : Array Slot} {rest : List Value} (E : En p m c s cc nL RX3 G A0) (hW : Wo G sk A0 s σ H locs) {q : Nat} (hk : sk.2.1 q = (0, 3)) (hdg : decode cc pc = .ok (.getfield 11, 3)) (kk : W p l e R s m args below meth c H locs cells slots Q (F0 m (pc + 3) ls (.ref (G.2.2.2 + sk.2.2 q 0) :: rest))) : W p l e R s m args below meth c H locs cells slots Q (F0 m pc ls (.ref (G.2.2.2 + q) :: rest)) :=
  r_get E hW hk (k := 0) (T := TX3) (n := 2) rfl in_X3 (by decide) rfl ⟨rfl, rfl, rfl⟩ kw_61 hdg kk
theorem gf_X1_18 {p : Program} {l : Launch} {e : Env} {R : Room} {s : State} {m : MethodId} {args : Array Value} {below : List Frame} {meth : Method} {c : Code} {H : Heap} {locs : List Loc} {cells slots : Nat} {Q : State → Prop} {cc : ByteArray} {nL : Nat} {G : GP} {A0 : Nat → Prop} {sk : Sk} {σ : St} {pc : Nat} {ls : Array Slot} {rest : List Value} (E : En p m c s cc nL RX1 G A0) (hW : Wo G sk A0 s σ H locs) {q : Nat} (hk : sk.2.1 q = (0, 1)) (hdg : decode cc pc = .ok (.getfield 18, 3)) (kk : W p l e R s m args below meth c H locs cells slots Q (F0 m (pc + 3) ls (.int (σ.1 q 1) :: rest))) : W p l e R s m args below meth c H locs cells slots Q (F0 m pc ls (.ref (G.2.2.2 + q) :: rest)) :=
  r_get E hW hk (k := 1) (T := TX1) (n := 3) rfl in_X1 (by decide) rfl ⟨rfl, rfl, rfl⟩ kw_82 hdg kk
theorem gf_X1_11 {p : Program} {l : Launch} {e : Env} {R : Room} {s : State} {m : MethodId} {args : Array Value} {below : List Frame} {meth : Method} {c : Code} {H : Heap} {locs : List Loc} {cells slots : Nat} {Q : State → Prop} {cc : ByteArray} {nL : Nat} {G : GP} {A0 : Nat → Prop} {sk : Sk} {σ : St} {pc : Nat} {ls : Array Slot} {rest : List Value} (E : En p m c s cc nL RX1 G A0) (hW : Wo G sk A0 s σ H locs) {q : Nat} (hk : sk.2.1 q = (0, 1)) (hdg : decode cc pc = .ok (.getfield 11, 3)) (kk : W p l e R s m args below meth c H locs cells slots Q (F0 m (pc + 3) ls (.ref (G.2.2.2 + sk.2.2 q 0) :: rest))) : W p l e R s m args below meth c H locs cells slots Q (F0 m pc ls (.ref (G.2.2.2 + q) :: rest)) :=
  r_get E hW hk (k := 0) (T := TX1) (n := 3) rfl in_X1 (by decide) rfl ⟨rfl, rfl, rfl⟩ kw_81 hdg kk
theorem pf_X1_18 {p : Program} {l : Launch} {e : Env} {R : Room} {s : State} {m : MethodId} {args : Array Value} {below : List Frame} {meth : Method} {c : Code} {H : Heap} {locs : List Loc} {cells slots : Nat} {Q : State → Prop} {cc : ByteArray} {nL : Nat} {G : GP} {A0 : Nat → Prop} {sk : Sk} {σ : St} {pc : Nat} {ls : Array Slot} {rest : List Value} (E : En p m c s cc nL RX1 G A0) (hW : Wo G sk A0 s σ H locs) {q : Nat} {v : Int32} (hk : sk.2.1 q = (0, 1)) (hdg : decode cc pc = .ok (.putfield 18, 3)) (kk : ∀ (σ9 : St) (H1 : Heap) (locs1 : List Loc), σ9 = sI σ q 1 v → Wo G sk A0 s σ9 H1 locs1 → W p l e R s m args below meth c H1 locs1 cells slots Q (F0 m (pc + 3) ls rest)) : W p l e R s m args below meth c H locs cells slots Q (F0 m pc ls (.int v :: .ref (G.2.2.2 + q) :: rest)) :=
  r_putI E hW hk (k := 1) (T := TX1) (n := 3) rfl in_X1 (by decide) rfl rfl tyX1_ok nmX1 ⟨rfl, rfl, rfl, rfl⟩ kw_82 hdg kk
theorem gf_X1_26 {p : Program} {l : Launch} {e : Env} {R : Room} {s : State} {m : MethodId} {args : Array Value} {below : List Frame} {meth : Method} {c : Code} {H : Heap} {locs : List Loc} {cells slots : Nat} {Q : State → Prop} {cc : ByteArray} {nL : Nat} {G : GP} {A0 : Nat → Prop} {sk : Sk} {σ : St} {pc : Nat} {ls : Array Slot} {rest : List Value} (E : En p m c s cc nL RX1 G A0) (hW : Wo G sk A0 s σ H locs) {q : Nat} (hk : sk.2.1 q = (0, 1)) (hdg : decode cc pc = .ok (.getfield 26, 3)) (kk : W p l e R s m args below meth c H locs cells slots Q (F0 m (pc + 3) ls (.int (σ.1 q 2) :: rest))) : W p l e R s m args below meth c H locs cells slots Q (F0 m pc ls (.ref (G.2.2.2 + q) :: rest)) :=
  r_get E hW hk (k := 2) (T := TX1) (n := 3) rfl in_X1 (by decide) rfl ⟨rfl, rfl, rfl⟩ kw_83 hdg kk
theorem pf_X1_26 {p : Program} {l : Launch} {e : Env} {R : Room} {s : State} {m : MethodId} {args : Array Value} {below : List Frame} {meth : Method} {c : Code} {H : Heap} {locs : List Loc} {cells slots : Nat} {Q : State → Prop} {cc : ByteArray} {nL : Nat} {G : GP} {A0 : Nat → Prop} {sk : Sk} {σ : St} {pc : Nat} {ls : Array Slot} {rest : List Value} (E : En p m c s cc nL RX1 G A0) (hW : Wo G sk A0 s σ H locs) {q : Nat} {v : Int32} (hk : sk.2.1 q = (0, 1)) (hdg : decode cc pc = .ok (.putfield 26, 3)) (kk : ∀ (σ9 : St) (H1 : Heap) (locs1 : List Loc), σ9 = sI σ q 2 v → Wo G sk A0 s σ9 H1 locs1 → W p l e R s m args below meth c H1 locs1 cells slots Q (F0 m (pc + 3) ls rest)) : W p l e R s m args below meth c H locs cells slots Q (F0 m pc ls (.int v :: .ref (G.2.2.2 + q) :: rest)) :=
  r_putI E hW hk (k := 2) (T := TX1) (n := 3) rfl in_X1 (by decide) rfl rfl tyX1_ok nmX1 ⟨rfl, rfl, rfl, rfl⟩ kw_83 hdg kk
theorem gf_X5_32 {p : Program} {l : Launch} {e : Env} {R : Room} {s : State} {m : MethodId} {args : Array Value} {below : List Frame} {meth : Method} {c : Code} {H : Heap} {locs : List Loc} {cells slots : Nat} {Q : State → Prop} {cc : ByteArray} {nL : Nat} {G : GP} {A0 : Nat → Prop} {sk : Sk} {σ : St} {pc : Nat} {ls : Array Slot} {rest : List Value} (E : En p m c s cc nL RX5 G A0) (hW : Wo G sk A0 s σ H locs) {q : Nat} (hk : sk.2.1 q = (0, 5)) (hdg : decode cc pc = .ok (.getfield 32, 3)) (kk : W p l e R s m args below meth c H locs cells slots Q (F0 m (pc + 3) ls (.int (σ.1 q 5) :: rest))) : W p l e R s m args below meth c H locs cells slots Q (F0 m pc ls (.ref (G.2.2.2 + q) :: rest)) :=
  r_get E hW hk (k := 5) (T := TX5) (n := 9) rfl in_X5 (by decide) rfl ⟨rfl, rfl, rfl⟩ kw_143 hdg kk
theorem gf_X5_29 {p : Program} {l : Launch} {e : Env} {R : Room} {s : State} {m : MethodId} {args : Array Value} {below : List Frame} {meth : Method} {c : Code} {H : Heap} {locs : List Loc} {cells slots : Nat} {Q : State → Prop} {cc : ByteArray} {nL : Nat} {G : GP} {A0 : Nat → Prop} {sk : Sk} {σ : St} {pc : Nat} {ls : Array Slot} {rest : List Value} (E : En p m c s cc nL RX5 G A0) (hW : Wo G sk A0 s σ H locs) {q : Nat} (hk : sk.2.1 q = (0, 5)) (hdg : decode cc pc = .ok (.getfield 29, 3)) (kk : W p l e R s m args below meth c H locs cells slots Q (F0 m (pc + 3) ls (.int (σ.1 q 4) :: rest))) : W p l e R s m args below meth c H locs cells slots Q (F0 m pc ls (.ref (G.2.2.2 + q) :: rest)) :=
  r_get E hW hk (k := 4) (T := TX5) (n := 9) rfl in_X5 (by decide) rfl ⟨rfl, rfl, rfl⟩ kw_142 hdg kk
theorem pf_X5_44 {p : Program} {l : Launch} {e : Env} {R : Room} {s : State} {m : MethodId} {args : Array Value} {below : List Frame} {meth : Method} {c : Code} {H : Heap} {locs : List Loc} {cells slots : Nat} {Q : State → Prop} {cc : ByteArray} {nL : Nat} {G : GP} {A0 : Nat → Prop} {sk : Sk} {σ : St} {pc : Nat} {ls : Array Slot} {rest : List Value} (E : En p m c s cc nL RX5 G A0) (hW : Wo G sk A0 s σ H locs) {q : Nat} {v : Int32} (hk : sk.2.1 q = (0, 5)) (hdg : decode cc pc = .ok (.putfield 44, 3)) (kk : ∀ (σ9 : St) (H1 : Heap) (locs1 : List Loc), σ9 = sI σ q 8 v → Wo G sk A0 s σ9 H1 locs1 → W p l e R s m args below meth c H1 locs1 cells slots Q (F0 m (pc + 3) ls rest)) : W p l e R s m args below meth c H locs cells slots Q (F0 m pc ls (.int v :: .ref (G.2.2.2 + q) :: rest)) :=
  r_putI E hW hk (k := 8) (T := TX5) (n := 9) rfl in_X5 (by decide) rfl rfl tyX5_ok nmX5 ⟨rfl, rfl, rfl, rfl⟩ kw_148 hdg kk
theorem gf_X5_38 {p : Program} {l : Launch} {e : Env} {R : Room} {s : State} {m : MethodId} {args : Array Value} {below : List Frame} {meth : Method} {c : Code} {H : Heap} {locs : List Loc} {cells slots : Nat} {Q : State → Prop} {cc : ByteArray} {nL : Nat} {G : GP} {A0 : Nat → Prop} {sk : Sk} {σ : St} {pc : Nat} {ls : Array Slot} {rest : List Value} (E : En p m c s cc nL RX5 G A0) (hW : Wo G sk A0 s σ H locs) {q : Nat} (hk : sk.2.1 q = (0, 5)) (hdg : decode cc pc = .ok (.getfield 38, 3)) (kk : W p l e R s m args below meth c H locs cells slots Q (F0 m (pc + 3) ls (.int (σ.1 q 6) :: rest))) : W p l e R s m args below meth c H locs cells slots Q (F0 m pc ls (.ref (G.2.2.2 + q) :: rest)) :=
  r_get E hW hk (k := 6) (T := TX5) (n := 9) rfl in_X5 (by decide) rfl ⟨rfl, rfl, rfl⟩ kw_145 hdg kk
theorem gf_X5_9 {p : Program} {l : Launch} {e : Env} {R : Room} {s : State} {m : MethodId} {args : Array Value} {below : List Frame} {meth : Method} {c : Code} {H : Heap} {locs : List Loc} {cells slots : Nat} {Q : State → Prop} {cc : ByteArray} {nL : Nat} {G : GP} {A0 : Nat → Prop} {sk : Sk} {σ : St} {pc : Nat} {ls : Array Slot} {rest : List Value} (E : En p m c s cc nL RX5 G A0) (hW : Wo G sk A0 s σ H locs) {q : Nat} (hk : sk.2.1 q = (0, 5)) (hdg : decode cc pc = .ok (.getfield 9, 3)) (kk : W p l e R s m args below meth c H locs cells slots Q (F0 m (pc + 3) ls (.ref (G.2.2.2 + sk.2.2 q 0) :: rest))) : W p l e R s m args below meth c H locs cells slots Q (F0 m pc ls (.ref (G.2.2.2 + q) :: rest)) :=
  r_get E hW hk (k := 0) (T := TX5) (n := 9) rfl in_X5 (by decide) rfl ⟨rfl, rfl, rfl⟩ kw_137 hdg kk
theorem gf_X5_15 {p : Program} {l : Launch} {e : Env} {R : Room} {s : State} {m : MethodId} {args : Array Value} {below : List Frame} {meth : Method} {c : Code} {H : Heap} {locs : List Loc} {cells slots : Nat} {Q : State → Prop} {cc : ByteArray} {nL : Nat} {G : GP} {A0 : Nat → Prop} {sk : Sk} {σ : St} {pc : Nat} {ls : Array Slot} {rest : List Value} (E : En p m c s cc nL RX5 G A0) (hW : Wo G sk A0 s σ H locs) {q : Nat} (hk : sk.2.1 q = (0, 5)) (hdg : decode cc pc = .ok (.getfield 15, 3)) (kk : W p l e R s m args below meth c H locs cells slots Q (F0 m (pc + 3) ls (.ref (G.2.2.2 + sk.2.2 q 2) :: rest))) : W p l e R s m args below meth c H locs cells slots Q (F0 m pc ls (.ref (G.2.2.2 + q) :: rest)) :=
  r_get E hW hk (k := 2) (T := TX5) (n := 9) rfl in_X5 (by decide) rfl ⟨rfl, rfl, rfl⟩ kw_140 hdg kk
theorem pf_X5_38 {p : Program} {l : Launch} {e : Env} {R : Room} {s : State} {m : MethodId} {args : Array Value} {below : List Frame} {meth : Method} {c : Code} {H : Heap} {locs : List Loc} {cells slots : Nat} {Q : State → Prop} {cc : ByteArray} {nL : Nat} {G : GP} {A0 : Nat → Prop} {sk : Sk} {σ : St} {pc : Nat} {ls : Array Slot} {rest : List Value} (E : En p m c s cc nL RX5 G A0) (hW : Wo G sk A0 s σ H locs) {q : Nat} {v : Int32} (hk : sk.2.1 q = (0, 5)) (hdg : decode cc pc = .ok (.putfield 38, 3)) (kk : ∀ (σ9 : St) (H1 : Heap) (locs1 : List Loc), σ9 = sI σ q 6 v → Wo G sk A0 s σ9 H1 locs1 → W p l e R s m args below meth c H1 locs1 cells slots Q (F0 m (pc + 3) ls rest)) : W p l e R s m args below meth c H locs cells slots Q (F0 m pc ls (.int v :: .ref (G.2.2.2 + q) :: rest)) :=
  r_putI E hW hk (k := 6) (T := TX5) (n := 9) rfl in_X5 (by decide) rfl rfl tyX5_ok nmX5 ⟨rfl, rfl, rfl, rfl⟩ kw_145 hdg kk
theorem gf_X5_18 {p : Program} {l : Launch} {e : Env} {R : Room} {s : State} {m : MethodId} {args : Array Value} {below : List Frame} {meth : Method} {c : Code} {H : Heap} {locs : List Loc} {cells slots : Nat} {Q : State → Prop} {cc : ByteArray} {nL : Nat} {G : GP} {A0 : Nat → Prop} {sk : Sk} {σ : St} {pc : Nat} {ls : Array Slot} {rest : List Value} (E : En p m c s cc nL RX5 G A0) (hW : Wo G sk A0 s σ H locs) {q : Nat} (hk : sk.2.1 q = (0, 5)) (hdg : decode cc pc = .ok (.getfield 18, 3)) (kk : W p l e R s m args below meth c H locs cells slots Q (F0 m (pc + 3) ls (.ref (G.2.2.2 + sk.2.2 q 3) :: rest))) : W p l e R s m args below meth c H locs cells slots Q (F0 m pc ls (.ref (G.2.2.2 + q) :: rest)) :=
  r_get E hW hk (k := 3) (T := TX5) (n := 9) rfl in_X5 (by decide) rfl ⟨rfl, rfl, rfl⟩ kw_141 hdg kk
theorem pf_X5_41 {p : Program} {l : Launch} {e : Env} {R : Room} {s : State} {m : MethodId} {args : Array Value} {below : List Frame} {meth : Method} {c : Code} {H : Heap} {locs : List Loc} {cells slots : Nat} {Q : State → Prop} {cc : ByteArray} {nL : Nat} {G : GP} {A0 : Nat → Prop} {sk : Sk} {σ : St} {pc : Nat} {ls : Array Slot} {rest : List Value} (E : En p m c s cc nL RX5 G A0) (hW : Wo G sk A0 s σ H locs) {q : Nat} {v : Int32} (hk : sk.2.1 q = (0, 5)) (hdg : decode cc pc = .ok (.putfield 41, 3)) (kk : ∀ (σ9 : St) (H1 : Heap) (locs1 : List Loc), σ9 = sI σ q 7 v → Wo G sk A0 s σ9 H1 locs1 → W p l e R s m args below meth c H1 locs1 cells slots Q (F0 m (pc + 3) ls rest)) : W p l e R s m args below meth c H locs cells slots Q (F0 m pc ls (.int v :: .ref (G.2.2.2 + q) :: rest)) :=
  r_putI E hW hk (k := 7) (T := TX5) (n := 9) rfl in_X5 (by decide) rfl rfl tyX5_ok nmX5 ⟨rfl, rfl, rfl, rfl⟩ kw_146 hdg kk
theorem pf_X5_32 {p : Program} {l : Launch} {e : Env} {R : Room} {s : State} {m : MethodId} {args : Array Value} {below : List Frame} {meth : Method} {c : Code} {H : Heap} {locs : List Loc} {cells slots : Nat} {Q : State → Prop} {cc : ByteArray} {nL : Nat} {G : GP} {A0 : Nat → Prop} {sk : Sk} {σ : St} {pc : Nat} {ls : Array Slot} {rest : List Value} (E : En p m c s cc nL RX5 G A0) (hW : Wo G sk A0 s σ H locs) {q : Nat} {v : Int32} (hk : sk.2.1 q = (0, 5)) (hdg : decode cc pc = .ok (.putfield 32, 3)) (kk : ∀ (σ9 : St) (H1 : Heap) (locs1 : List Loc), σ9 = sI σ q 5 v → Wo G sk A0 s σ9 H1 locs1 → W p l e R s m args below meth c H1 locs1 cells slots Q (F0 m (pc + 3) ls rest)) : W p l e R s m args below meth c H locs cells slots Q (F0 m pc ls (.int v :: .ref (G.2.2.2 + q) :: rest)) :=
  r_putI E hW hk (k := 5) (T := TX5) (n := 9) rfl in_X5 (by decide) rfl rfl tyX5_ok nmX5 ⟨rfl, rfl, rfl, rfl⟩ kw_143 hdg kk
theorem pf_X5_29 {p : Program} {l : Launch} {e : Env} {R : Room} {s : State} {m : MethodId} {args : Array Value} {below : List Frame} {meth : Method} {c : Code} {H : Heap} {locs : List Loc} {cells slots : Nat} {Q : State → Prop} {cc : ByteArray} {nL : Nat} {G : GP} {A0 : Nat → Prop} {sk : Sk} {σ : St} {pc : Nat} {ls : Array Slot} {rest : List Value} (E : En p m c s cc nL RX5 G A0) (hW : Wo G sk A0 s σ H locs) {q : Nat} {v : Int32} (hk : sk.2.1 q = (0, 5)) (hdg : decode cc pc = .ok (.putfield 29, 3)) (kk : ∀ (σ9 : St) (H1 : Heap) (locs1 : List Loc), σ9 = sI σ q 4 v → Wo G sk A0 s σ9 H1 locs1 → W p l e R s m args below meth c H1 locs1 cells slots Q (F0 m (pc + 3) ls rest)) : W p l e R s m args below meth c H locs cells slots Q (F0 m pc ls (.int v :: .ref (G.2.2.2 + q) :: rest)) :=
  r_putI E hW hk (k := 4) (T := TX5) (n := 9) rfl in_X5 (by decide) rfl rfl tyX5_ok nmX5 ⟨rfl, rfl, rfl, rfl⟩ kw_142 hdg kk
theorem gf_X5_41 {p : Program} {l : Launch} {e : Env} {R : Room} {s : State} {m : MethodId} {args : Array Value} {below : List Frame} {meth : Method} {c : Code} {H : Heap} {locs : List Loc} {cells slots : Nat} {Q : State → Prop} {cc : ByteArray} {nL : Nat} {G : GP} {A0 : Nat → Prop} {sk : Sk} {σ : St} {pc : Nat} {ls : Array Slot} {rest : List Value} (E : En p m c s cc nL RX5 G A0) (hW : Wo G sk A0 s σ H locs) {q : Nat} (hk : sk.2.1 q = (0, 5)) (hdg : decode cc pc = .ok (.getfield 41, 3)) (kk : W p l e R s m args below meth c H locs cells slots Q (F0 m (pc + 3) ls (.int (σ.1 q 7) :: rest))) : W p l e R s m args below meth c H locs cells slots Q (F0 m pc ls (.ref (G.2.2.2 + q) :: rest)) :=
  r_get E hW hk (k := 7) (T := TX5) (n := 9) rfl in_X5 (by decide) rfl ⟨rfl, rfl, rfl⟩ kw_146 hdg kk
theorem pf_X4_90 {p : Program} {l : Launch} {e : Env} {R : Room} {s : State} {m : MethodId} {args : Array Value} {below : List Frame} {meth : Method} {c : Code} {H : Heap} {locs : List Loc} {cells slots : Nat} {Q : State → Prop} {cc : ByteArray} {nL : Nat} {G : GP} {A0 : Nat → Prop} {sk : Sk} {σ : St} {pc : Nat} {ls : Array Slot} {rest : List Value} (E : En p m c s cc nL RX4 G A0) (hW : Wo G sk A0 s σ H locs) {q : Nat} {v : Int32} (hk : sk.2.1 q = (0, 4)) (hdg : decode cc pc = .ok (.putfield 90, 3)) (kk : ∀ (σ9 : St) (H1 : Heap) (locs1 : List Loc), σ9 = sI σ q 7 v → Wo G sk A0 s σ9 H1 locs1 → W p l e R s m args below meth c H1 locs1 cells slots Q (F0 m (pc + 3) ls rest)) : W p l e R s m args below meth c H locs cells slots Q (F0 m pc ls (.int v :: .ref (G.2.2.2 + q) :: rest)) :=
  r_putI E hW hk (k := 7) (T := TX4) (n := 8) rfl in_X4 (by decide) rfl rfl tyX4_ok nmX4 ⟨rfl, rfl, rfl, rfl⟩ kw_184 hdg kk
theorem gf_X4_14 {p : Program} {l : Launch} {e : Env} {R : Room} {s : State} {m : MethodId} {args : Array Value} {below : List Frame} {meth : Method} {c : Code} {H : Heap} {locs : List Loc} {cells slots : Nat} {Q : State → Prop} {cc : ByteArray} {nL : Nat} {G : GP} {A0 : Nat → Prop} {sk : Sk} {σ : St} {pc : Nat} {ls : Array Slot} {rest : List Value} (E : En p m c s cc nL RX4 G A0) (hW : Wo G sk A0 s σ H locs) {q : Nat} (hk : sk.2.1 q = (0, 4)) (hdg : decode cc pc = .ok (.getfield 14, 3)) (kk : W p l e R s m args below meth c H locs cells slots Q (F0 m (pc + 3) ls (.ref (G.2.2.2 + sk.2.2 q 0) :: rest))) : W p l e R s m args below meth c H locs cells slots Q (F0 m pc ls (.ref (G.2.2.2 + q) :: rest)) :=
  r_get E hW hk (k := 0) (T := TX4) (n := 8) rfl in_X4 (by decide) rfl ⟨rfl, rfl, rfl⟩ kw_175 hdg kk
theorem gf_X4_72 {p : Program} {l : Launch} {e : Env} {R : Room} {s : State} {m : MethodId} {args : Array Value} {below : List Frame} {meth : Method} {c : Code} {H : Heap} {locs : List Loc} {cells slots : Nat} {Q : State → Prop} {cc : ByteArray} {nL : Nat} {G : GP} {A0 : Nat → Prop} {sk : Sk} {σ : St} {pc : Nat} {ls : Array Slot} {rest : List Value} (E : En p m c s cc nL RX4 G A0) (hW : Wo G sk A0 s σ H locs) {q : Nat} (hk : sk.2.1 q = (0, 5)) (hdg : decode cc pc = .ok (.getfield 72, 3)) (kk : W p l e R s m args below meth c H locs cells slots Q (F0 m (pc + 3) ls (.int (σ.1 q 8) :: rest))) : W p l e R s m args below meth c H locs cells slots Q (F0 m pc ls (.ref (G.2.2.2 + q) :: rest)) :=
  r_get E hW hk (k := 8) (T := TX5) (n := 9) rfl in_X5 (by decide) rfl ⟨rfl, rfl, rfl⟩ kw_147 hdg kk
theorem gf_X5_44 {p : Program} {l : Launch} {e : Env} {R : Room} {s : State} {m : MethodId} {args : Array Value} {below : List Frame} {meth : Method} {c : Code} {H : Heap} {locs : List Loc} {cells slots : Nat} {Q : State → Prop} {cc : ByteArray} {nL : Nat} {G : GP} {A0 : Nat → Prop} {sk : Sk} {σ : St} {pc : Nat} {ls : Array Slot} {rest : List Value} (E : En p m c s cc nL RX5 G A0) (hW : Wo G sk A0 s σ H locs) {q : Nat} (hk : sk.2.1 q = (0, 5)) (hdg : decode cc pc = .ok (.getfield 44, 3)) (kk : W p l e R s m args below meth c H locs cells slots Q (F0 m (pc + 3) ls (.int (σ.1 q 8) :: rest))) : W p l e R s m args below meth c H locs cells slots Q (F0 m pc ls (.ref (G.2.2.2 + q) :: rest)) :=
  r_get E hW hk (k := 8) (T := TX5) (n := 9) rfl in_X5 (by decide) rfl ⟨rfl, rfl, rfl⟩ kw_148 hdg kk
theorem gf_X4_44 {p : Program} {l : Launch} {e : Env} {R : Room} {s : State} {m : MethodId} {args : Array Value} {below : List Frame} {meth : Method} {c : Code} {H : Heap} {locs : List Loc} {cells slots : Nat} {Q : State → Prop} {cc : ByteArray} {nL : Nat} {G : GP} {A0 : Nat → Prop} {sk : Sk} {σ : St} {pc : Nat} {ls : Array Slot} {rest : List Value} (E : En p m c s cc nL RX4 G A0) (hW : Wo G sk A0 s σ H locs) {q : Nat} (hk : sk.2.1 q = (0, 4)) (hdg : decode cc pc = .ok (.getfield 44, 3)) (kk : W p l e R s m args below meth c H locs cells slots Q (F0 m (pc + 3) ls (.ref (G.2.2.2 + sk.2.2 q 6) :: rest))) : W p l e R s m args below meth c H locs cells slots Q (F0 m pc ls (.ref (G.2.2.2 + q) :: rest)) :=
  r_get E hW hk (k := 6) (T := TX4) (n := 8) rfl in_X4 (by decide) rfl ⟨rfl, rfl, rfl⟩ kw_183 hdg kk
theorem gf_X4_34 {p : Program} {l : Launch} {e : Env} {R : Room} {s : State} {m : MethodId} {args : Array Value} {below : List Frame} {meth : Method} {c : Code} {H : Heap} {locs : List Loc} {cells slots : Nat} {Q : State → Prop} {cc : ByteArray} {nL : Nat} {G : GP} {A0 : Nat → Prop} {sk : Sk} {σ : St} {pc : Nat} {ls : Array Slot} {rest : List Value} (E : En p m c s cc nL RX4 G A0) (hW : Wo G sk A0 s σ H locs) {q : Nat} (hk : sk.2.1 q = (0, 4)) (hdg : decode cc pc = .ok (.getfield 34, 3)) (kk : W p l e R s m args below meth c H locs cells slots Q (F0 m (pc + 3) ls (.ref (G.2.2.2 + sk.2.2 q 3) :: rest))) : W p l e R s m args below meth c H locs cells slots Q (F0 m pc ls (.ref (G.2.2.2 + q) :: rest)) :=
  r_get E hW hk (k := 3) (T := TX4) (n := 8) rfl in_X4 (by decide) rfl ⟨rfl, rfl, rfl⟩ kw_180 hdg kk
theorem gf_X4_41 {p : Program} {l : Launch} {e : Env} {R : Room} {s : State} {m : MethodId} {args : Array Value} {below : List Frame} {meth : Method} {c : Code} {H : Heap} {locs : List Loc} {cells slots : Nat} {Q : State → Prop} {cc : ByteArray} {nL : Nat} {G : GP} {A0 : Nat → Prop} {sk : Sk} {σ : St} {pc : Nat} {ls : Array Slot} {rest : List Value} (E : En p m c s cc nL RX4 G A0) (hW : Wo G sk A0 s σ H locs) {q : Nat} (hk : sk.2.1 q = (0, 4)) (hdg : decode cc pc = .ok (.getfield 41, 3)) (kk : W p l e R s m args below meth c H locs cells slots Q (F0 m (pc + 3) ls (.ref (G.2.2.2 + sk.2.2 q 5) :: rest))) : W p l e R s m args below meth c H locs cells slots Q (F0 m pc ls (.ref (G.2.2.2 + q) :: rest)) :=
  r_get E hW hk (k := 5) (T := TX4) (n := 8) rfl in_X4 (by decide) rfl ⟨rfl, rfl, rfl⟩ kw_182 hdg kk
theorem gf_X4_28 {p : Program} {l : Launch} {e : Env} {R : Room} {s : State} {m : MethodId} {args : Array Value} {below : List Frame} {meth : Method} {c : Code} {H : Heap} {locs : List Loc} {cells slots : Nat} {Q : State → Prop} {cc : ByteArray} {nL : Nat} {G : GP} {A0 : Nat → Prop} {sk : Sk} {σ : St} {pc : Nat} {ls : Array Slot} {rest : List Value} (E : En p m c s cc nL RX4 G A0) (hW : Wo G sk A0 s σ H locs) {q : Nat} (hk : sk.2.1 q = (0, 4)) (hdg : decode cc pc = .ok (.getfield 28, 3)) (kk : W p l e R s m args below meth c H locs cells slots Q (F0 m (pc + 3) ls (.ref (G.2.2.2 + sk.2.2 q 2) :: rest))) : W p l e R s m args below meth c H locs cells slots Q (F0 m pc ls (.ref (G.2.2.2 + q) :: rest)) :=
  r_get E hW hk (k := 2) (T := TX4) (n := 8) rfl in_X4 (by decide) rfl ⟨rfl, rfl, rfl⟩ kw_179 hdg kk
theorem gf_X4_21 {p : Program} {l : Launch} {e : Env} {R : Room} {s : State} {m : MethodId} {args : Array Value} {below : List Frame} {meth : Method} {c : Code} {H : Heap} {locs : List Loc} {cells slots : Nat} {Q : State → Prop} {cc : ByteArray} {nL : Nat} {G : GP} {A0 : Nat → Prop} {sk : Sk} {σ : St} {pc : Nat} {ls : Array Slot} {rest : List Value} (E : En p m c s cc nL RX4 G A0) (hW : Wo G sk A0 s σ H locs) {q : Nat} (hk : sk.2.1 q = (0, 4)) (hdg : decode cc pc = .ok (.getfield 21, 3)) (kk : W p l e R s m args below meth c H locs cells slots Q (F0 m (pc + 3) ls (.ref (G.2.2.2 + sk.2.2 q 1) :: rest))) : W p l e R s m args below meth c H locs cells slots Q (F0 m pc ls (.ref (G.2.2.2 + q) :: rest)) :=
  r_get E hW hk (k := 1) (T := TX4) (n := 8) rfl in_X4 (by decide) rfl ⟨rfl, rfl, rfl⟩ kw_177 hdg kk
theorem gf_X4_155 {p : Program} {l : Launch} {e : Env} {R : Room} {s : State} {m : MethodId} {args : Array Value} {below : List Frame} {meth : Method} {c : Code} {H : Heap} {locs : List Loc} {cells slots : Nat} {Q : State → Prop} {cc : ByteArray} {nL : Nat} {G : GP} {A0 : Nat → Prop} {sk : Sk} {σ : St} {pc : Nat} {ls : Array Slot} {rest : List Value} (E : En p m c s cc nL RX4 G A0) (hW : Wo G sk A0 s σ H locs) {q : Nat} (hk : sk.2.1 q = (0, 3)) (hdg : decode cc pc = .ok (.getfield 155, 3)) (kk : W p l e R s m args below meth c H locs cells slots Q (F0 m (pc + 3) ls (.ref (G.2.2.2 + sk.2.2 q 0) :: rest))) : W p l e R s m args below meth c H locs cells slots Q (F0 m pc ls (.ref (G.2.2.2 + q) :: rest)) :=
  r_get E hW hk (k := 0) (T := TX3) (n := 2) rfl in_X3 (by decide) rfl ⟨rfl, rfl, rfl⟩ kw_62 hdg kk
theorem gf_X4_38 {p : Program} {l : Launch} {e : Env} {R : Room} {s : State} {m : MethodId} {args : Array Value} {below : List Frame} {meth : Method} {c : Code} {H : Heap} {locs : List Loc} {cells slots : Nat} {Q : State → Prop} {cc : ByteArray} {nL : Nat} {G : GP} {A0 : Nat → Prop} {sk : Sk} {σ : St} {pc : Nat} {ls : Array Slot} {rest : List Value} (E : En p m c s cc nL RX4 G A0) (hW : Wo G sk A0 s σ H locs) {q : Nat} (hk : sk.2.1 q = (0, 4)) (hdg : decode cc pc = .ok (.getfield 38, 3)) (kk : W p l e R s m args below meth c H locs cells slots Q (F0 m (pc + 3) ls (.ref (G.2.2.2 + sk.2.2 q 4) :: rest))) : W p l e R s m args below meth c H locs cells slots Q (F0 m pc ls (.ref (G.2.2.2 + q) :: rest)) :=
  r_get E hW hk (k := 4) (T := TX4) (n := 8) rfl in_X4 (by decide) rfl ⟨rfl, rfl, rfl⟩ kw_181 hdg kk
theorem pf_X4_48 {p : Program} {l : Launch} {e : Env} {R : Room} {s : State} {m : MethodId} {args : Array Value} {below : List Frame} {meth : Method} {c : Code} {H : Heap} {locs : List Loc} {cells slots : Nat} {Q : State → Prop} {cc : ByteArray} {nL : Nat} {G : GP} {A0 : Nat → Prop} {sk : Sk} {σ : St} {pc : Nat} {ls : Array Slot} {rest : List Value} (E : En p m c s cc nL RX4 G A0) (hW : Wo G sk A0 s σ H locs) {q : Nat} {v : Int32} (hk : sk.2.1 q = (0, 3)) (hdg : decode cc pc = .ok (.putfield 48, 3)) (kk : ∀ (σ9 : St) (H1 : Heap) (locs1 : List Loc), σ9 = sI σ q 1 v → Wo G sk A0 s σ9 H1 locs1 → W p l e R s m args below meth c H1 locs1 cells slots Q (F0 m (pc + 3) ls rest)) : W p l e R s m args below meth c H locs cells slots Q (F0 m pc ls (.int v :: .ref (G.2.2.2 + q) :: rest)) :=
  r_putI E hW hk (k := 1) (T := TX3) (n := 2) rfl in_X3 (by decide) rfl rfl tyX3_ok nmX3 ⟨rfl, rfl, rfl, rfl⟩ kw_64 hdg kk
theorem gf_X5_21 {p : Program} {l : Launch} {e : Env} {R : Room} {s : State} {m : MethodId} {args : Array Value} {below : List Frame} {meth : Method} {c : Code} {H : Heap} {locs : List Loc} {cells slots : Nat} {Q : State → Prop} {cc : ByteArray} {nL : Nat} {G : GP} {A0 : Nat → Prop} {sk : Sk} {σ : St} {pc : Nat} {ls : Array Slot} {rest : List Value} (E : En p m c s cc nL RX5 G A0) (hW : Wo G sk A0 s σ H locs) {q : Nat} (hk : sk.2.1 q = (0, 5)) (hdg : decode cc pc = .ok (.getfield 21, 3)) (kk : W p l e R s m args below meth c H locs cells slots Q (F0 m (pc + 3) ls (.int (σ.1 q 1) :: rest))) : W p l e R s m args below meth c H locs cells slots Q (F0 m pc ls (.ref (G.2.2.2 + q) :: rest)) :=
  r_get E hW hk (k := 1) (T := TX5) (n := 9) rfl in_X5 (by decide) rfl ⟨rfl, rfl, rfl⟩ kw_138 hdg kk
theorem pf_X5_21 {p : Program} {l : Launch} {e : Env} {R : Room} {s : State} {m : MethodId} {args : Array Value} {below : List Frame} {meth : Method} {c : Code} {H : Heap} {locs : List Loc} {cells slots : Nat} {Q : State → Prop} {cc : ByteArray} {nL : Nat} {G : GP} {A0 : Nat → Prop} {sk : Sk} {σ : St} {pc : Nat} {ls : Array Slot} {rest : List Value} (E : En p m c s cc nL RX5 G A0) (hW : Wo G sk A0 s σ H locs) {q : Nat} {v : Int32} (hk : sk.2.1 q = (0, 5)) (hdg : decode cc pc = .ok (.putfield 21, 3)) (kk : ∀ (σ9 : St) (H1 : Heap) (locs1 : List Loc), σ9 = sI σ q 1 v → Wo G sk A0 s σ9 H1 locs1 → W p l e R s m args below meth c H1 locs1 cells slots Q (F0 m (pc + 3) ls rest)) : W p l e R s m args below meth c H locs cells slots Q (F0 m pc ls (.int v :: .ref (G.2.2.2 + q) :: rest)) :=
  r_putI E hW hk (k := 1) (T := TX5) (n := 9) rfl in_X5 (by decide) rfl rfl tyX5_ok nmX5 ⟨rfl, rfl, rfl, rfl⟩ kw_138 hdg kk
theorem gf_X6_33 {p : Program} {l : Launch} {e : Env} {R : Room} {s : State} {m : MethodId} {args : Array Value} {below : List Frame} {meth : Method} {c : Code} {H : Heap} {locs : List Loc} {cells slots : Nat} {Q : State → Prop} {cc : ByteArray} {nL : Nat} {G : GP} {A0 : Nat → Prop} {sk : Sk} {σ : St} {pc : Nat} {ls : Array Slot} {rest : List Value} (E : En p m c s cc nL RX6 G A0) (hW : Wo G sk A0 s σ H locs) {q : Nat} (hk : sk.2.1 q = (0, 6)) (hdg : decode cc pc = .ok (.getfield 33, 3)) (kk : W p l e R s m args below meth c H locs cells slots Q (F0 m (pc + 3) ls (.ref (G.2.2.2 + sk.2.2 q 3) :: rest))) : W p l e R s m args below meth c H locs cells slots Q (F0 m pc ls (.ref (G.2.2.2 + q) :: rest)) :=
  r_get E hW hk (k := 3) (T := TX6) (n := 6) rfl in_X6 (by decide) rfl ⟨rfl, rfl, rfl⟩ kw_208 hdg kk
theorem gf_X6_48 {p : Program} {l : Launch} {e : Env} {R : Room} {s : State} {m : MethodId} {args : Array Value} {below : List Frame} {meth : Method} {c : Code} {H : Heap} {locs : List Loc} {cells slots : Nat} {Q : State → Prop} {cc : ByteArray} {nL : Nat} {G : GP} {A0 : Nat → Prop} {sk : Sk} {σ : St} {pc : Nat} {ls : Array Slot} {rest : List Value} (E : En p m c s cc nL RX6 G A0) (hW : Wo G sk A0 s σ H locs) {q : Nat} (hk : sk.2.1 q = (0, 4)) (hdg : decode cc pc = .ok (.getfield 48, 3)) (kk : W p l e R s m args below meth c H locs cells slots Q (F0 m (pc + 3) ls (.ref (G.2.2.2 + sk.2.2 q 0) :: rest))) : W p l e R s m args below meth c H locs cells slots Q (F0 m pc ls (.ref (G.2.2.2 + q) :: rest)) :=
  r_get E hW hk (k := 0) (T := TX4) (n := 8) rfl in_X4 (by decide) rfl ⟨rfl, rfl, rfl⟩ kw_176 hdg kk
theorem gf_X6_52 {p : Program} {l : Launch} {e : Env} {R : Room} {s : State} {m : MethodId} {args : Array Value} {below : List Frame} {meth : Method} {c : Code} {H : Heap} {locs : List Loc} {cells slots : Nat} {Q : State → Prop} {cc : ByteArray} {nL : Nat} {G : GP} {A0 : Nat → Prop} {sk : Sk} {σ : St} {pc : Nat} {ls : Array Slot} {rest : List Value} (E : En p m c s cc nL RX6 G A0) (hW : Wo G sk A0 s σ H locs) {q : Nat} (hk : sk.2.1 q = (0, 5)) (hdg : decode cc pc = .ok (.getfield 52, 3)) (kk : W p l e R s m args below meth c H locs cells slots Q (F0 m (pc + 3) ls (.int (σ.1 q 1) :: rest))) : W p l e R s m args below meth c H locs cells slots Q (F0 m pc ls (.ref (G.2.2.2 + q) :: rest)) :=
  r_get E hW hk (k := 1) (T := TX5) (n := 9) rfl in_X5 (by decide) rfl ⟨rfl, rfl, rfl⟩ kw_139 hdg kk
theorem pf_X6_52 {p : Program} {l : Launch} {e : Env} {R : Room} {s : State} {m : MethodId} {args : Array Value} {below : List Frame} {meth : Method} {c : Code} {H : Heap} {locs : List Loc} {cells slots : Nat} {Q : State → Prop} {cc : ByteArray} {nL : Nat} {G : GP} {A0 : Nat → Prop} {sk : Sk} {σ : St} {pc : Nat} {ls : Array Slot} {rest : List Value} (E : En p m c s cc nL RX6 G A0) (hW : Wo G sk A0 s σ H locs) {q : Nat} {v : Int32} (hk : sk.2.1 q = (0, 5)) (hdg : decode cc pc = .ok (.putfield 52, 3)) (kk : ∀ (σ9 : St) (H1 : Heap) (locs1 : List Loc), σ9 = sI σ q 1 v → Wo G sk A0 s σ9 H1 locs1 → W p l e R s m args below meth c H1 locs1 cells slots Q (F0 m (pc + 3) ls rest)) : W p l e R s m args below meth c H locs cells slots Q (F0 m pc ls (.int v :: .ref (G.2.2.2 + q) :: rest)) :=
  r_putI E hW hk (k := 1) (T := TX5) (n := 9) rfl in_X5 (by decide) rfl rfl tyX5_ok nmX5 ⟨rfl, rfl, rfl, rfl⟩ kw_139 hdg kk
theorem pf_X6_44 {p : Program} {l : Launch} {e : Env} {R : Room} {s : State} {m : MethodId} {args : Array Value} {below : List Frame} {meth : Method} {c : Code} {H : Heap} {locs : List Loc} {cells slots : Nat} {Q : State → Prop} {cc : ByteArray} {nL : Nat} {G : GP} {A0 : Nat → Prop} {sk : Sk} {σ : St} {pc : Nat} {ls : Array Slot} {rest : List Value} (E : En p m c s cc nL RX6 G A0) (hW : Wo G sk A0 s σ H locs) {q : Nat} {v : Int32} (hk : sk.2.1 q = (0, 6)) (hdg : decode cc pc = .ok (.putfield 44, 3)) (kk : ∀ (σ9 : St) (H1 : Heap) (locs1 : List Loc), σ9 = sI σ q 5 v → Wo G sk A0 s σ9 H1 locs1 → W p l e R s m args below meth c H1 locs1 cells slots Q (F0 m (pc + 3) ls rest)) : W p l e R s m args below meth c H locs cells slots Q (F0 m pc ls (.int v :: .ref (G.2.2.2 + q) :: rest)) :=
  r_putI E hW hk (k := 5) (T := TX6) (n := 6) rfl in_X6 (by decide) rfl rfl tyX6_ok nmX6 ⟨rfl, rfl, rfl, rfl⟩ kw_210 hdg kk
theorem gf_X6_19 {p : Program} {l : Launch} {e : Env} {R : Room} {s : State} {m : MethodId} {args : Array Value} {below : List Frame} {meth : Method} {c : Code} {H : Heap} {locs : List Loc} {cells slots : Nat} {Q : State → Prop} {cc : ByteArray} {nL : Nat} {G : GP} {A0 : Nat → Prop} {sk : Sk} {σ : St} {pc : Nat} {ls : Array Slot} {rest : List Value} (E : En p m c s cc nL RX6 G A0) (hW : Wo G sk A0 s σ H locs) {q : Nat} (hk : sk.2.1 q = (0, 6)) (hdg : decode cc pc = .ok (.getfield 19, 3)) (kk : W p l e R s m args below meth c H locs cells slots Q (F0 m (pc + 3) ls (.ref (G.2.2.2 + sk.2.2 q 1) :: rest))) : W p l e R s m args below meth c H locs cells slots Q (F0 m pc ls (.ref (G.2.2.2 + q) :: rest)) :=
  r_get E hW hk (k := 1) (T := TX6) (n := 6) rfl in_X6 (by decide) rfl ⟨rfl, rfl, rfl⟩ kw_206 hdg kk
theorem gf_X6_10 {p : Program} {l : Launch} {e : Env} {R : Room} {s : State} {m : MethodId} {args : Array Value} {below : List Frame} {meth : Method} {c : Code} {H : Heap} {locs : List Loc} {cells slots : Nat} {Q : State → Prop} {cc : ByteArray} {nL : Nat} {G : GP} {A0 : Nat → Prop} {sk : Sk} {σ : St} {pc : Nat} {ls : Array Slot} {rest : List Value} (E : En p m c s cc nL RX6 G A0) (hW : Wo G sk A0 s σ H locs) {q : Nat} (hk : sk.2.1 q = (0, 6)) (hdg : decode cc pc = .ok (.getfield 10, 3)) (kk : W p l e R s m args below meth c H locs cells slots Q (F0 m (pc + 3) ls (.ref (G.2.2.2 + sk.2.2 q 0) :: rest))) : W p l e R s m args below meth c H locs cells slots Q (F0 m pc ls (.ref (G.2.2.2 + q) :: rest)) :=
  r_get E hW hk (k := 0) (T := TX6) (n := 6) rfl in_X6 (by decide) rfl ⟨rfl, rfl, rfl⟩ kw_205 hdg kk
theorem gf_X6_82 {p : Program} {l : Launch} {e : Env} {R : Room} {s : State} {m : MethodId} {args : Array Value} {below : List Frame} {meth : Method} {c : Code} {H : Heap} {locs : List Loc} {cells slots : Nat} {Q : State → Prop} {cc : ByteArray} {nL : Nat} {G : GP} {A0 : Nat → Prop} {sk : Sk} {σ : St} {pc : Nat} {ls : Array Slot} {rest : List Value} (E : En p m c s cc nL RX6 G A0) (hW : Wo G sk A0 s σ H locs) {q : Nat} (hk : sk.2.1 q = (0, 4)) (hdg : decode cc pc = .ok (.getfield 82, 3)) (kk : W p l e R s m args below meth c H locs cells slots Q (F0 m (pc + 3) ls (.ref (G.2.2.2 + sk.2.2 q 1) :: rest))) : W p l e R s m args below meth c H locs cells slots Q (F0 m pc ls (.ref (G.2.2.2 + q) :: rest)) :=
  r_get E hW hk (k := 1) (T := TX4) (n := 8) rfl in_X4 (by decide) rfl ⟨rfl, rfl, rfl⟩ kw_178 hdg kk
theorem gf_X6_72 {p : Program} {l : Launch} {e : Env} {R : Room} {s : State} {m : MethodId} {args : Array Value} {below : List Frame} {meth : Method} {c : Code} {H : Heap} {locs : List Loc} {cells slots : Nat} {Q : State → Prop} {cc : ByteArray} {nL : Nat} {G : GP} {A0 : Nat → Prop} {sk : Sk} {σ : St} {pc : Nat} {ls : Array Slot} {rest : List Value} (E : En p m c s cc nL RX6 G A0) (hW : Wo G sk A0 s σ H locs) {q : Nat} (hk : sk.2.1 q = (0, 5)) (hdg : decode cc pc = .ok (.getfield 72, 3)) (kk : W p l e R s m args below meth c H locs cells slots Q (F0 m (pc + 3) ls (.int (σ.1 q 6) :: rest))) : W p l e R s m args below meth c H locs cells slots Q (F0 m pc ls (.ref (G.2.2.2 + q) :: rest)) :=
  r_get E hW hk (k := 6) (T := TX5) (n := 9) rfl in_X5 (by decide) rfl ⟨rfl, rfl, rfl⟩ kw_144 hdg kk
theorem gf_X6_75 {p : Program} {l : Launch} {e : Env} {R : Room} {s : State} {m : MethodId} {args : Array Value} {below : List Frame} {meth : Method} {c : Code} {H : Heap} {locs : List Loc} {cells slots : Nat} {Q : State → Prop} {cc : ByteArray} {nL : Nat} {G : GP} {A0 : Nat → Prop} {sk : Sk} {σ : St} {pc : Nat} {ls : Array Slot} {rest : List Value} (E : En p m c s cc nL RX6 G A0) (hW : Wo G sk A0 s σ H locs) {q : Nat} (hk : sk.2.1 q = (0, 4)) (hdg : decode cc pc = .ok (.getfield 75, 3)) (kk : W p l e R s m args below meth c H locs cells slots Q (F0 m (pc + 3) ls (.int (σ.1 q 7) :: rest))) : W p l e R s m args below meth c H locs cells slots Q (F0 m pc ls (.ref (G.2.2.2 + q) :: rest)) :=
  r_get E hW hk (k := 7) (T := TX4) (n := 8) rfl in_X4 (by decide) rfl ⟨rfl, rfl, rfl⟩ kw_185 hdg kk
theorem gf_X6_44 {p : Program} {l : Launch} {e : Env} {R : Room} {s : State} {m : MethodId} {args : Array Value} {below : List Frame} {meth : Method} {c : Code} {H : Heap} {locs : List Loc} {cells slots : Nat} {Q : State → Prop} {cc : ByteArray} {nL : Nat} {G : GP} {A0 : Nat → Prop} {sk : Sk} {σ : St} {pc : Nat} {ls : Array Slot} {rest : List Value} (E : En p m c s cc nL RX6 G A0) (hW : Wo G sk A0 s σ H locs) {q : Nat} (hk : sk.2.1 q = (0, 6)) (hdg : decode cc pc = .ok (.getfield 44, 3)) (kk : W p l e R s m args below meth c H locs cells slots Q (F0 m (pc + 3) ls (.int (σ.1 q 5) :: rest))) : W p l e R s m args below meth c H locs cells slots Q (F0 m pc ls (.ref (G.2.2.2 + q) :: rest)) :=
  r_get E hW hk (k := 5) (T := TX6) (n := 6) rfl in_X6 (by decide) rfl ⟨rfl, rfl, rfl⟩ kw_210 hdg kk
theorem gf_X6_92 {p : Program} {l : Launch} {e : Env} {R : Room} {s : State} {m : MethodId} {args : Array Value} {below : List Frame} {meth : Method} {c : Code} {H : Heap} {locs : List Loc} {cells slots : Nat} {Q : State → Prop} {cc : ByteArray} {nL : Nat} {G : GP} {A0 : Nat → Prop} {sk : Sk} {σ : St} {pc : Nat} {ls : Array Slot} {rest : List Value} (E : En p m c s cc nL RX6 G A0) (hW : Wo G sk A0 s σ H locs) {q : Nat} (hk : sk.2.1 q = (0, 3)) (hdg : decode cc pc = .ok (.getfield 92, 3)) (kk : W p l e R s m args below meth c H locs cells slots Q (F0 m (pc + 3) ls (.int (σ.1 q 1) :: rest))) : W p l e R s m args below meth c H locs cells slots Q (F0 m pc ls (.ref (G.2.2.2 + q) :: rest)) :=
  r_get E hW hk (k := 1) (T := TX3) (n := 2) rfl in_X3 (by decide) rfl ⟨rfl, rfl, rfl⟩ kw_66 hdg kk
theorem gf_X6_224 {p : Program} {l : Launch} {e : Env} {R : Room} {s : State} {m : MethodId} {args : Array Value} {below : List Frame} {meth : Method} {c : Code} {H : Heap} {locs : List Loc} {cells slots : Nat} {Q : State → Prop} {cc : ByteArray} {nL : Nat} {G : GP} {A0 : Nat → Prop} {sk : Sk} {σ : St} {pc : Nat} {ls : Array Slot} {rest : List Value} (E : En p m c s cc nL RX6 G A0) (hW : Wo G sk A0 s σ H locs) {q : Nat} (hk : sk.2.1 q = (0, 3)) (hdg : decode cc pc = .ok (.getfield 224, 3)) (kk : W p l e R s m args below meth c H locs cells slots Q (F0 m (pc + 3) ls (.ref (G.2.2.2 + sk.2.2 q 0) :: rest))) : W p l e R s m args below meth c H locs cells slots Q (F0 m pc ls (.ref (G.2.2.2 + q) :: rest)) :=
  r_get E hW hk (k := 0) (T := TX3) (n := 2) rfl in_X3 (by decide) rfl ⟨rfl, rfl, rfl⟩ kw_63 hdg kk
theorem gf_X6_117 {p : Program} {l : Launch} {e : Env} {R : Room} {s : State} {m : MethodId} {args : Array Value} {below : List Frame} {meth : Method} {c : Code} {H : Heap} {locs : List Loc} {cells slots : Nat} {Q : State → Prop} {cc : ByteArray} {nL : Nat} {G : GP} {A0 : Nat → Prop} {sk : Sk} {σ : St} {pc : Nat} {ls : Array Slot} {rest : List Value} (E : En p m c s cc nL RX6 G A0) (hW : Wo G sk A0 s σ H locs) {q : Nat} (hk : sk.2.1 q = (0, 2)) (hdg : decode cc pc = .ok (.getfield 117, 3)) (kk : W p l e R s m args below meth c H locs cells slots Q (F0 m (pc + 3) ls (.long (σ.2 q 2) :: rest))) : W p l e R s m args below meth c H locs cells slots Q (F0 m pc ls (.ref (G.2.2.2 + q) :: rest)) :=
  r_get E hW hk (k := 2) (T := TX2) (n := 3) rfl in_X2 (by decide) rfl ⟨rfl, rfl, rfl⟩ kw_52 hdg kk
theorem gf_X6_113 {p : Program} {l : Launch} {e : Env} {R : Room} {s : State} {m : MethodId} {args : Array Value} {below : List Frame} {meth : Method} {c : Code} {H : Heap} {locs : List Loc} {cells slots : Nat} {Q : State → Prop} {cc : ByteArray} {nL : Nat} {G : GP} {A0 : Nat → Prop} {sk : Sk} {σ : St} {pc : Nat} {ls : Array Slot} {rest : List Value} (E : En p m c s cc nL RX6 G A0) (hW : Wo G sk A0 s σ H locs) {q : Nat} (hk : sk.2.1 q = (0, 2)) (hdg : decode cc pc = .ok (.getfield 113, 3)) (kk : W p l e R s m args below meth c H locs cells slots Q (F0 m (pc + 3) ls (.long (σ.2 q 1) :: rest))) : W p l e R s m args below meth c H locs cells slots Q (F0 m pc ls (.ref (G.2.2.2 + q) :: rest)) :=
  r_get E hW hk (k := 1) (T := TX2) (n := 3) rfl in_X2 (by decide) rfl ⟨rfl, rfl, rfl⟩ kw_49 hdg kk
theorem gf_X6_26 {p : Program} {l : Launch} {e : Env} {R : Room} {s : State} {m : MethodId} {args : Array Value} {below : List Frame} {meth : Method} {c : Code} {H : Heap} {locs : List Loc} {cells slots : Nat} {Q : State → Prop} {cc : ByteArray} {nL : Nat} {G : GP} {A0 : Nat → Prop} {sk : Sk} {σ : St} {pc : Nat} {ls : Array Slot} {rest : List Value} (E : En p m c s cc nL RX6 G A0) (hW : Wo G sk A0 s σ H locs) {q : Nat} (hk : sk.2.1 q = (0, 6)) (hdg : decode cc pc = .ok (.getfield 26, 3)) (kk : W p l e R s m args below meth c H locs cells slots Q (F0 m (pc + 3) ls (.ref (G.2.2.2 + sk.2.2 q 2) :: rest))) : W p l e R s m args below meth c H locs cells slots Q (F0 m pc ls (.ref (G.2.2.2 + q) :: rest)) :=
  r_get E hW hk (k := 2) (T := TX6) (n := 6) rfl in_X6 (by decide) rfl ⟨rfl, rfl, rfl⟩ kw_207 hdg kk
theorem gf_X6_40 {p : Program} {l : Launch} {e : Env} {R : Room} {s : State} {m : MethodId} {args : Array Value} {below : List Frame} {meth : Method} {c : Code} {H : Heap} {locs : List Loc} {cells slots : Nat} {Q : State → Prop} {cc : ByteArray} {nL : Nat} {G : GP} {A0 : Nat → Prop} {sk : Sk} {σ : St} {pc : Nat} {ls : Array Slot} {rest : List Value} (E : En p m c s cc nL RX6 G A0) (hW : Wo G sk A0 s σ H locs) {q : Nat} (hk : sk.2.1 q = (0, 6)) (hdg : decode cc pc = .ok (.getfield 40, 3)) (kk : W p l e R s m args below meth c H locs cells slots Q (F0 m (pc + 3) ls (.ref (G.2.2.2 + sk.2.2 q 4) :: rest))) : W p l e R s m args below meth c H locs cells slots Q (F0 m pc ls (.ref (G.2.2.2 + q) :: rest)) :=
  r_get E hW hk (k := 4) (T := TX6) (n := 6) rfl in_X6 (by decide) rfl ⟨rfl, rfl, rfl⟩ kw_209 hdg kk
theorem pf_X6_113 {p : Program} {l : Launch} {e : Env} {R : Room} {s : State} {m : MethodId} {args : Array Value} {below : List Frame} {meth : Method} {c : Code} {H : Heap} {locs : List Loc} {cells slots : Nat} {Q : State → Prop} {cc : ByteArray} {nL : Nat} {G : GP} {A0 : Nat → Prop} {sk : Sk} {σ : St} {pc : Nat} {ls : Array Slot} {rest : List Value} (E : En p m c s cc nL RX6 G A0) (hW : Wo G sk A0 s σ H locs) {q : Nat} {v : Int64} (hk : sk.2.1 q = (0, 2)) (hdg : decode cc pc = .ok (.putfield 113, 3)) (kk : ∀ (σ9 : St) (H1 : Heap) (locs1 : List Loc), σ9 = sJ σ q 1 v → Wo G sk A0 s σ9 H1 locs1 → W p l e R s m args below meth c H1 locs1 cells slots Q (F0 m (pc + 3) ls rest)) : W p l e R s m args below meth c H locs cells slots Q (F0 m pc ls (.long v :: .ref (G.2.2.2 + q) :: rest)) :=
  r_putJ E hW hk (k := 1) (T := TX2) (n := 3) rfl in_X2 (by decide) rfl rfl tyX2_ok nmX2 ⟨rfl, rfl, rfl, rfl⟩ kw_49 hdg kk
theorem pf_X6_117 {p : Program} {l : Launch} {e : Env} {R : Room} {s : State} {m : MethodId} {args : Array Value} {below : List Frame} {meth : Method} {c : Code} {H : Heap} {locs : List Loc} {cells slots : Nat} {Q : State → Prop} {cc : ByteArray} {nL : Nat} {G : GP} {A0 : Nat → Prop} {sk : Sk} {σ : St} {pc : Nat} {ls : Array Slot} {rest : List Value} (E : En p m c s cc nL RX6 G A0) (hW : Wo G sk A0 s σ H locs) {q : Nat} {v : Int64} (hk : sk.2.1 q = (0, 2)) (hdg : decode cc pc = .ok (.putfield 117, 3)) (kk : ∀ (σ9 : St) (H1 : Heap) (locs1 : List Loc), σ9 = sJ σ q 2 v → Wo G sk A0 s σ9 H1 locs1 → W p l e R s m args below meth c H1 locs1 cells slots Q (F0 m (pc + 3) ls rest)) : W p l e R s m args below meth c H locs cells slots Q (F0 m pc ls (.long v :: .ref (G.2.2.2 + q) :: rest)) :=
  r_putJ E hW hk (k := 2) (T := TX2) (n := 3) rfl in_X2 (by decide) rfl rfl tyX2_ok nmX2 ⟨rfl, rfl, rfl, rfl⟩ kw_52 hdg kk
theorem gf_X6_222 {p : Program} {l : Launch} {e : Env} {R : Room} {s : State} {m : MethodId} {args : Array Value} {below : List Frame} {meth : Method} {c : Code} {H : Heap} {locs : List Loc} {cells slots : Nat} {Q : State → Prop} {cc : ByteArray} {nL : Nat} {G : GP} {A0 : Nat → Prop} {sk : Sk} {σ : St} {pc : Nat} {ls : Array Slot} {rest : List Value} (E : En p m c s cc nL RX6 G A0) (hW : Wo G sk A0 s σ H locs) {q : Nat} (hk : sk.2.1 q = (0, 1)) (hdg : decode cc pc = .ok (.getfield 222, 3)) (kk : W p l e R s m args below meth c H locs cells slots Q (F0 m (pc + 3) ls (.int (σ.1 q 2) :: rest))) : W p l e R s m args below meth c H locs cells slots Q (F0 m pc ls (.ref (G.2.2.2 + q) :: rest)) :=
  r_get E hW hk (k := 2) (T := TX1) (n := 3) rfl in_X1 (by decide) rfl ⟨rfl, rfl, rfl⟩ kw_84 hdg kk
theorem gf_X7_79 {p : Program} {l : Launch} {e : Env} {R : Room} {s : State} {m : MethodId} {args : Array Value} {below : List Frame} {meth : Method} {c : Code} {H : Heap} {locs : List Loc} {cells slots : Nat} {Q : State → Prop} {cc : ByteArray} {nL : Nat} {G : GP} {A0 : Nat → Prop} {sk : Sk} {σ : St} {pc : Nat} {ls : Array Slot} {rest : List Value} (E : En p m c s cc nL RX7 G A0) (hW : Wo G sk A0 s σ H locs) {q : Nat} (hk : sk.2.1 q = (0, 7)) (hdg : decode cc pc = .ok (.getfield 79, 3)) (kk : W p l e R s m args below meth c H locs cells slots Q (F0 m (pc + 3) ls (.int (σ.1 q 0) :: rest))) : W p l e R s m args below meth c H locs cells slots Q (F0 m pc ls (.ref (G.2.2.2 + q) :: rest)) :=
  r_get E hW hk (k := 0) (T := TX7) (n := 30) rfl in_X7 (by decide) rfl ⟨rfl, rfl, rfl⟩ kw_909 hdg kk
theorem pf_X7_79 {p : Program} {l : Launch} {e : Env} {R : Room} {s : State} {m : MethodId} {args : Array Value} {below : List Frame} {meth : Method} {c : Code} {H : Heap} {locs : List Loc} {cells slots : Nat} {Q : State → Prop} {cc : ByteArray} {nL : Nat} {G : GP} {A0 : Nat → Prop} {sk : Sk} {σ : St} {pc : Nat} {ls : Array Slot} {rest : List Value} (E : En p m c s cc nL RX7 G A0) (hW : Wo G sk A0 s σ H locs) {q : Nat} {v : Int32} (hk : sk.2.1 q = (0, 7)) (hdg : decode cc pc = .ok (.putfield 79, 3)) (kk : ∀ (σ9 : St) (H1 : Heap) (locs1 : List Loc), σ9 = sI σ q 0 v → Wo G sk A0 s σ9 H1 locs1 → W p l e R s m args below meth c H1 locs1 cells slots Q (F0 m (pc + 3) ls rest)) : W p l e R s m args below meth c H locs cells slots Q (F0 m pc ls (.int v :: .ref (G.2.2.2 + q) :: rest)) :=
  r_putI E hW hk (k := 0) (T := TX7) (n := 30) rfl in_X7 (by decide) rfl rfl tyX7_ok nmX7 ⟨rfl, rfl, rfl, rfl⟩ kw_909 hdg kk
theorem gf_X7_28 {p : Program} {l : Launch} {e : Env} {R : Room} {s : State} {m : MethodId} {args : Array Value} {below : List Frame} {meth : Method} {c : Code} {H : Heap} {locs : List Loc} {cells slots : Nat} {Q : State → Prop} {cc : ByteArray} {nL : Nat} {G : GP} {A0 : Nat → Prop} {sk : Sk} {σ : St} {pc : Nat} {ls : Array Slot} {rest : List Value} (E : En p m c s cc nL RX7 G A0) (hW : Wo G sk A0 s σ H locs) {q : Nat} (hk : sk.2.1 q = (0, 7)) (hdg : decode cc pc = .ok (.getfield 28, 3)) (kk : W p l e R s m args below meth c H locs cells slots Q (F0 m (pc + 3) ls (.ref (G.2.2.2 + sk.2.2 q 12) :: rest))) : W p l e R s m args below meth c H locs cells slots Q (F0 m pc ls (.ref (G.2.2.2 + q) :: rest)) :=
  r_get E hW hk (k := 12) (T := TX7) (n := 30) rfl in_X7 (by decide) rfl ⟨rfl, rfl, rfl⟩ kw_921 hdg kk
theorem gf_X7_32 {p : Program} {l : Launch} {e : Env} {R : Room} {s : State} {m : MethodId} {args : Array Value} {below : List Frame} {meth : Method} {c : Code} {H : Heap} {locs : List Loc} {cells slots : Nat} {Q : State → Prop} {cc : ByteArray} {nL : Nat} {G : GP} {A0 : Nat → Prop} {sk : Sk} {σ : St} {pc : Nat} {ls : Array Slot} {rest : List Value} (E : En p m c s cc nL RX7 G A0) (hW : Wo G sk A0 s σ H locs) {q : Nat} (hk : sk.2.1 q = (0, 7)) (hdg : decode cc pc = .ok (.getfield 32, 3)) (kk : W p l e R s m args below meth c H locs cells slots Q (F0 m (pc + 3) ls (.ref (G.2.2.2 + sk.2.2 q 13) :: rest))) : W p l e R s m args below meth c H locs cells slots Q (F0 m pc ls (.ref (G.2.2.2 + q) :: rest)) :=
  r_get E hW hk (k := 13) (T := TX7) (n := 30) rfl in_X7 (by decide) rfl ⟨rfl, rfl, rfl⟩ kw_922 hdg kk
theorem gf_X7_35 {p : Program} {l : Launch} {e : Env} {R : Room} {s : State} {m : MethodId} {args : Array Value} {below : List Frame} {meth : Method} {c : Code} {H : Heap} {locs : List Loc} {cells slots : Nat} {Q : State → Prop} {cc : ByteArray} {nL : Nat} {G : GP} {A0 : Nat → Prop} {sk : Sk} {σ : St} {pc : Nat} {ls : Array Slot} {rest : List Value} (E : En p m c s cc nL RX7 G A0) (hW : Wo G sk A0 s σ H locs) {q : Nat} (hk : sk.2.1 q = (0, 7)) (hdg : decode cc pc = .ok (.getfield 35, 3)) (kk : W p l e R s m args below meth c H locs cells slots Q (F0 m (pc + 3) ls (.ref (G.2.2.2 + sk.2.2 q 14) :: rest))) : W p l e R s m args below meth c H locs cells slots Q (F0 m pc ls (.ref (G.2.2.2 + q) :: rest)) :=
  r_get E hW hk (k := 14) (T := TX7) (n := 30) rfl in_X7 (by decide) rfl ⟨rfl, rfl, rfl⟩ kw_923 hdg kk
theorem gf_X7_38 {p : Program} {l : Launch} {e : Env} {R : Room} {s : State} {m : MethodId} {args : Array Value} {below : List Frame} {meth : Method} {c : Code} {H : Heap} {locs : List Loc} {cells slots : Nat} {Q : State → Prop} {cc : ByteArray} {nL : Nat} {G : GP} {A0 : Nat → Prop} {sk : Sk} {σ : St} {pc : Nat} {ls : Array Slot} {rest : List Value} (E : En p m c s cc nL RX7 G A0) (hW : Wo G sk A0 s σ H locs) {q : Nat} (hk : sk.2.1 q = (0, 7)) (hdg : decode cc pc = .ok (.getfield 38, 3)) (kk : W p l e R s m args below meth c H locs cells slots Q (F0 m (pc + 3) ls (.ref (G.2.2.2 + sk.2.2 q 15) :: rest))) : W p l e R s m args below meth c H locs cells slots Q (F0 m pc ls (.ref (G.2.2.2 + q) :: rest)) :=
  r_get E hW hk (k := 15) (T := TX7) (n := 30) rfl in_X7 (by decide) rfl ⟨rfl, rfl, rfl⟩ kw_924 hdg kk
theorem gf_X7_41 {p : Program} {l : Launch} {e : Env} {R : Room} {s : State} {m : MethodId} {args : Array Value} {below : List Frame} {meth : Method} {c : Code} {H : Heap} {locs : List Loc} {cells slots : Nat} {Q : State → Prop} {cc : ByteArray} {nL : Nat} {G : GP} {A0 : Nat → Prop} {sk : Sk} {σ : St} {pc : Nat} {ls : Array Slot} {rest : List Value} (E : En p m c s cc nL RX7 G A0) (hW : Wo G sk A0 s σ H locs) {q : Nat} (hk : sk.2.1 q = (0, 7)) (hdg : decode cc pc = .ok (.getfield 41, 3)) (kk : W p l e R s m args below meth c H locs cells slots Q (F0 m (pc + 3) ls (.ref (G.2.2.2 + sk.2.2 q 16) :: rest))) : W p l e R s m args below meth c H locs cells slots Q (F0 m pc ls (.ref (G.2.2.2 + q) :: rest)) :=
  r_get E hW hk (k := 16) (T := TX7) (n := 30) rfl in_X7 (by decide) rfl ⟨rfl, rfl, rfl⟩ kw_925 hdg kk
theorem gf_X7_161 {p : Program} {l : Launch} {e : Env} {R : Room} {s : State} {m : MethodId} {args : Array Value} {below : List Frame} {meth : Method} {c : Code} {H : Heap} {locs : List Loc} {cells slots : Nat} {Q : State → Prop} {cc : ByteArray} {nL : Nat} {G : GP} {A0 : Nat → Prop} {sk : Sk} {σ : St} {pc : Nat} {ls : Array Slot} {rest : List Value} (E : En p m c s cc nL RX7 G A0) (hW : Wo G sk A0 s σ H locs) {q : Nat} (hk : sk.2.1 q = (0, 7)) (hdg : decode cc pc = .ok (.getfield 161, 3)) (kk : W p l e R s m args below meth c H locs cells slots Q (F0 m (pc + 3) ls (.int (σ.1 q 2) :: rest))) : W p l e R s m args below meth c H locs cells slots Q (F0 m pc ls (.ref (G.2.2.2 + q) :: rest)) :=
  r_get E hW hk (k := 2) (T := TX7) (n := 30) rfl in_X7 (by decide) rfl ⟨rfl, rfl, rfl⟩ kw_911 hdg kk
theorem gf_X7_9 {p : Program} {l : Launch} {e : Env} {R : Room} {s : State} {m : MethodId} {args : Array Value} {below : List Frame} {meth : Method} {c : Code} {H : Heap} {locs : List Loc} {cells slots : Nat} {Q : State → Prop} {cc : ByteArray} {nL : Nat} {G : GP} {A0 : Nat → Prop} {sk : Sk} {σ : St} {pc : Nat} {ls : Array Slot} {rest : List Value} (E : En p m c s cc nL RX7 G A0) (hW : Wo G sk A0 s σ H locs) {q : Nat} (hk : sk.2.1 q = (0, 7)) (hdg : decode cc pc = .ok (.getfield 9, 3)) (kk : W p l e R s m args below meth c H locs cells slots Q (F0 m (pc + 3) ls (.ref (G.2.2.2 + sk.2.2 q 1) :: rest))) : W p l e R s m args below meth c H locs cells slots Q (F0 m pc ls (.ref (G.2.2.2 + q) :: rest)) :=
  r_get E hW hk (k := 1) (T := TX7) (n := 30) rfl in_X7 (by decide) rfl ⟨rfl, rfl, rfl⟩ kw_910 hdg kk
theorem pf_X7_161 {p : Program} {l : Launch} {e : Env} {R : Room} {s : State} {m : MethodId} {args : Array Value} {below : List Frame} {meth : Method} {c : Code} {H : Heap} {locs : List Loc} {cells slots : Nat} {Q : State → Prop} {cc : ByteArray} {nL : Nat} {G : GP} {A0 : Nat → Prop} {sk : Sk} {σ : St} {pc : Nat} {ls : Array Slot} {rest : List Value} (E : En p m c s cc nL RX7 G A0) (hW : Wo G sk A0 s σ H locs) {q : Nat} {v : Int32} (hk : sk.2.1 q = (0, 7)) (hdg : decode cc pc = .ok (.putfield 161, 3)) (kk : ∀ (σ9 : St) (H1 : Heap) (locs1 : List Loc), σ9 = sI σ q 2 v → Wo G sk A0 s σ9 H1 locs1 → W p l e R s m args below meth c H1 locs1 cells slots Q (F0 m (pc + 3) ls rest)) : W p l e R s m args below meth c H locs cells slots Q (F0 m pc ls (.int v :: .ref (G.2.2.2 + q) :: rest)) :=
  r_putI E hW hk (k := 2) (T := TX7) (n := 30) rfl in_X7 (by decide) rfl rfl tyX7_ok nmX7 ⟨rfl, rfl, rfl, rfl⟩ kw_911 hdg kk
theorem gf_X7_164 {p : Program} {l : Launch} {e : Env} {R : Room} {s : State} {m : MethodId} {args : Array Value} {below : List Frame} {meth : Method} {c : Code} {H : Heap} {locs : List Loc} {cells slots : Nat} {Q : State → Prop} {cc : ByteArray} {nL : Nat} {G : GP} {A0 : Nat → Prop} {sk : Sk} {σ : St} {pc : Nat} {ls : Array Slot} {rest : List Value} (E : En p m c s cc nL RX7 G A0) (hW : Wo G sk A0 s σ H locs) {q : Nat} (hk : sk.2.1 q = (0, 7)) (hdg : decode cc pc = .ok (.getfield 164, 3)) (kk : W p l e R s m args below meth c H locs cells slots Q (F0 m (pc + 3) ls (.int (σ.1 q 3) :: rest))) : W p l e R s m args below meth c H locs cells slots Q (F0 m pc ls (.ref (G.2.2.2 + q) :: rest)) :=
  r_get E hW hk (k := 3) (T := TX7) (n := 30) rfl in_X7 (by decide) rfl ⟨rfl, rfl, rfl⟩ kw_912 hdg kk
theorem gf_X7_167 {p : Program} {l : Launch} {e : Env} {R : Room} {s : State} {m : MethodId} {args : Array Value} {below : List Frame} {meth : Method} {c : Code} {H : Heap} {locs : List Loc} {cells slots : Nat} {Q : State → Prop} {cc : ByteArray} {nL : Nat} {G : GP} {A0 : Nat → Prop} {sk : Sk} {σ : St} {pc : Nat} {ls : Array Slot} {rest : List Value} (E : En p m c s cc nL RX7 G A0) (hW : Wo G sk A0 s σ H locs) {q : Nat} (hk : sk.2.1 q = (0, 7)) (hdg : decode cc pc = .ok (.getfield 167, 3)) (kk : W p l e R s m args below meth c H locs cells slots Q (F0 m (pc + 3) ls (.int (σ.1 q 4) :: rest))) : W p l e R s m args below meth c H locs cells slots Q (F0 m pc ls (.ref (G.2.2.2 + q) :: rest)) :=
  r_get E hW hk (k := 4) (T := TX7) (n := 30) rfl in_X7 (by decide) rfl ⟨rfl, rfl, rfl⟩ kw_913 hdg kk
theorem pf_X7_167 {p : Program} {l : Launch} {e : Env} {R : Room} {s : State} {m : MethodId} {args : Array Value} {below : List Frame} {meth : Method} {c : Code} {H : Heap} {locs : List Loc} {cells slots : Nat} {Q : State → Prop} {cc : ByteArray} {nL : Nat} {G : GP} {A0 : Nat → Prop} {sk : Sk} {σ : St} {pc : Nat} {ls : Array Slot} {rest : List Value} (E : En p m c s cc nL RX7 G A0) (hW : Wo G sk A0 s σ H locs) {q : Nat} {v : Int32} (hk : sk.2.1 q = (0, 7)) (hdg : decode cc pc = .ok (.putfield 167, 3)) (kk : ∀ (σ9 : St) (H1 : Heap) (locs1 : List Loc), σ9 = sI σ q 4 v → Wo G sk A0 s σ9 H1 locs1 → W p l e R s m args below meth c H1 locs1 cells slots Q (F0 m (pc + 3) ls rest)) : W p l e R s m args below meth c H locs cells slots Q (F0 m pc ls (.int v :: .ref (G.2.2.2 + q) :: rest)) :=
  r_putI E hW hk (k := 4) (T := TX7) (n := 30) rfl in_X7 (by decide) rfl rfl tyX7_ok nmX7 ⟨rfl, rfl, rfl, rfl⟩ kw_913 hdg kk
theorem gf_X7_173 {p : Program} {l : Launch} {e : Env} {R : Room} {s : State} {m : MethodId} {args : Array Value} {below : List Frame} {meth : Method} {c : Code} {H : Heap} {locs : List Loc} {cells slots : Nat} {Q : State → Prop} {cc : ByteArray} {nL : Nat} {G : GP} {A0 : Nat → Prop} {sk : Sk} {σ : St} {pc : Nat} {ls : Array Slot} {rest : List Value} (E : En p m c s cc nL RX7 G A0) (hW : Wo G sk A0 s σ H locs) {q : Nat} (hk : sk.2.1 q = (0, 7)) (hdg : decode cc pc = .ok (.getfield 173, 3)) (kk : W p l e R s m args below meth c H locs cells slots Q (F0 m (pc + 3) ls (.int (σ.1 q 5) :: rest))) : W p l e R s m args below meth c H locs cells slots Q (F0 m pc ls (.ref (G.2.2.2 + q) :: rest)) :=
  r_get E hW hk (k := 5) (T := TX7) (n := 30) rfl in_X7 (by decide) rfl ⟨rfl, rfl, rfl⟩ kw_914 hdg kk
theorem pf_X7_173 {p : Program} {l : Launch} {e : Env} {R : Room} {s : State} {m : MethodId} {args : Array Value} {below : List Frame} {meth : Method} {c : Code} {H : Heap} {locs : List Loc} {cells slots : Nat} {Q : State → Prop} {cc : ByteArray} {nL : Nat} {G : GP} {A0 : Nat → Prop} {sk : Sk} {σ : St} {pc : Nat} {ls : Array Slot} {rest : List Value} (E : En p m c s cc nL RX7 G A0) (hW : Wo G sk A0 s σ H locs) {q : Nat} {v : Int32} (hk : sk.2.1 q = (0, 7)) (hdg : decode cc pc = .ok (.putfield 173, 3)) (kk : ∀ (σ9 : St) (H1 : Heap) (locs1 : List Loc), σ9 = sI σ q 5 v → Wo G sk A0 s σ9 H1 locs1 → W p l e R s m args below meth c H1 locs1 cells slots Q (F0 m (pc + 3) ls rest)) : W p l e R s m args below meth c H locs cells slots Q (F0 m pc ls (.int v :: .ref (G.2.2.2 + q) :: rest)) :=
  r_putI E hW hk (k := 5) (T := TX7) (n := 30) rfl in_X7 (by decide) rfl rfl tyX7_ok nmX7 ⟨rfl, rfl, rfl, rfl⟩ kw_914 hdg kk
theorem pf_X7_176 {p : Program} {l : Launch} {e : Env} {R : Room} {s : State} {m : MethodId} {args : Array Value} {below : List Frame} {meth : Method} {c : Code} {H : Heap} {locs : List Loc} {cells slots : Nat} {Q : State → Prop} {cc : ByteArray} {nL : Nat} {G : GP} {A0 : Nat → Prop} {sk : Sk} {σ : St} {pc : Nat} {ls : Array Slot} {rest : List Value} (E : En p m c s cc nL RX7 G A0) (hW : Wo G sk A0 s σ H locs) {q : Nat} {v : Int32} (hk : sk.2.1 q = (0, 7)) (hdg : decode cc pc = .ok (.putfield 176, 3)) (kk : ∀ (σ9 : St) (H1 : Heap) (locs1 : List Loc), σ9 = sI σ q 6 v → Wo G sk A0 s σ9 H1 locs1 → W p l e R s m args below meth c H1 locs1 cells slots Q (F0 m (pc + 3) ls rest)) : W p l e R s m args below meth c H locs cells slots Q (F0 m pc ls (.int v :: .ref (G.2.2.2 + q) :: rest)) :=
  r_putI E hW hk (k := 6) (T := TX7) (n := 30) rfl in_X7 (by decide) rfl rfl tyX7_ok nmX7 ⟨rfl, rfl, rfl, rfl⟩ kw_915 hdg kk
theorem pf_X7_208 {p : Program} {l : Launch} {e : Env} {R : Room} {s : State} {m : MethodId} {args : Array Value} {below : List Frame} {meth : Method} {c : Code} {H : Heap} {locs : List Loc} {cells slots : Nat} {Q : State → Prop} {cc : ByteArray} {nL : Nat} {G : GP} {A0 : Nat → Prop} {sk : Sk} {σ : St} {pc : Nat} {ls : Array Slot} {rest : List Value} (E : En p m c s cc nL RX7 G A0) (hW : Wo G sk A0 s σ H locs) {q : Nat} {v : Int32} (hk : sk.2.1 q = (0, 7)) (hdg : decode cc pc = .ok (.putfield 208, 3)) (kk : ∀ (σ9 : St) (H1 : Heap) (locs1 : List Loc), σ9 = sI σ q 17 v → Wo G sk A0 s σ9 H1 locs1 → W p l e R s m args below meth c H1 locs1 cells slots Q (F0 m (pc + 3) ls rest)) : W p l e R s m args below meth c H locs cells slots Q (F0 m pc ls (.int v :: .ref (G.2.2.2 + q) :: rest)) :=
  r_putI E hW hk (k := 17) (T := TX7) (n := 30) rfl in_X7 (by decide) rfl rfl tyX7_ok nmX7 ⟨rfl, rfl, rfl, rfl⟩ kw_926 hdg kk
theorem gf_X7_208 {p : Program} {l : Launch} {e : Env} {R : Room} {s : State} {m : MethodId} {args : Array Value} {below : List Frame} {meth : Method} {c : Code} {H : Heap} {locs : List Loc} {cells slots : Nat} {Q : State → Prop} {cc : ByteArray} {nL : Nat} {G : GP} {A0 : Nat → Prop} {sk : Sk} {σ : St} {pc : Nat} {ls : Array Slot} {rest : List Value} (E : En p m c s cc nL RX7 G A0) (hW : Wo G sk A0 s σ H locs) {q : Nat} (hk : sk.2.1 q = (0, 7)) (hdg : decode cc pc = .ok (.getfield 208, 3)) (kk : W p l e R s m args below meth c H locs cells slots Q (F0 m (pc + 3) ls (.int (σ.1 q 17) :: rest))) : W p l e R s m args below meth c H locs cells slots Q (F0 m pc ls (.ref (G.2.2.2 + q) :: rest)) :=
  r_get E hW hk (k := 17) (T := TX7) (n := 30) rfl in_X7 (by decide) rfl ⟨rfl, rfl, rfl⟩ kw_926 hdg kk
theorem gf_X7_215 {p : Program} {l : Launch} {e : Env} {R : Room} {s : State} {m : MethodId} {args : Array Value} {below : List Frame} {meth : Method} {c : Code} {H : Heap} {locs : List Loc} {cells slots : Nat} {Q : State → Prop} {cc : ByteArray} {nL : Nat} {G : GP} {A0 : Nat → Prop} {sk : Sk} {σ : St} {pc : Nat} {ls : Array Slot} {rest : List Value} (E : En p m c s cc nL RX7 G A0) (hW : Wo G sk A0 s σ H locs) {q : Nat} (hk : sk.2.1 q = (0, 7)) (hdg : decode cc pc = .ok (.getfield 215, 3)) (kk : W p l e R s m args below meth c H locs cells slots Q (F0 m (pc + 3) ls (.int (σ.1 q 23) :: rest))) : W p l e R s m args below meth c H locs cells slots Q (F0 m pc ls (.ref (G.2.2.2 + q) :: rest)) :=
  r_get E hW hk (k := 23) (T := TX7) (n := 30) rfl in_X7 (by decide) rfl ⟨rfl, rfl, rfl⟩ kw_932 hdg kk
theorem pf_X7_215 {p : Program} {l : Launch} {e : Env} {R : Room} {s : State} {m : MethodId} {args : Array Value} {below : List Frame} {meth : Method} {c : Code} {H : Heap} {locs : List Loc} {cells slots : Nat} {Q : State → Prop} {cc : ByteArray} {nL : Nat} {G : GP} {A0 : Nat → Prop} {sk : Sk} {σ : St} {pc : Nat} {ls : Array Slot} {rest : List Value} (E : En p m c s cc nL RX7 G A0) (hW : Wo G sk A0 s σ H locs) {q : Nat} {v : Int32} (hk : sk.2.1 q = (0, 7)) (hdg : decode cc pc = .ok (.putfield 215, 3)) (kk : ∀ (σ9 : St) (H1 : Heap) (locs1 : List Loc), σ9 = sI σ q 23 v → Wo G sk A0 s σ9 H1 locs1 → W p l e R s m args below meth c H1 locs1 cells slots Q (F0 m (pc + 3) ls rest)) : W p l e R s m args below meth c H locs cells slots Q (F0 m pc ls (.int v :: .ref (G.2.2.2 + q) :: rest)) :=
  r_putI E hW hk (k := 23) (T := TX7) (n := 30) rfl in_X7 (by decide) rfl rfl tyX7_ok nmX7 ⟨rfl, rfl, rfl, rfl⟩ kw_932 hdg kk
theorem gf_X7_46 {p : Program} {l : Launch} {e : Env} {R : Room} {s : State} {m : MethodId} {args : Array Value} {below : List Frame} {meth : Method} {c : Code} {H : Heap} {locs : List Loc} {cells slots : Nat} {Q : State → Prop} {cc : ByteArray} {nL : Nat} {G : GP} {A0 : Nat → Prop} {sk : Sk} {σ : St} {pc : Nat} {ls : Array Slot} {rest : List Value} (E : En p m c s cc nL RX7 G A0) (hW : Wo G sk A0 s σ H locs) {q : Nat} (hk : sk.2.1 q = (0, 7)) (hdg : decode cc pc = .ok (.getfield 46, 3)) (kk : W p l e R s m args below meth c H locs cells slots Q (F0 m (pc + 3) ls (.ref (G.2.2.2 + sk.2.2 q 18) :: rest))) : W p l e R s m args below meth c H locs cells slots Q (F0 m pc ls (.ref (G.2.2.2 + q) :: rest)) :=
  r_get E hW hk (k := 18) (T := TX7) (n := 30) rfl in_X7 (by decide) rfl ⟨rfl, rfl, rfl⟩ kw_927 hdg kk
theorem gf_X7_52 {p : Program} {l : Launch} {e : Env} {R : Room} {s : State} {m : MethodId} {args : Array Value} {below : List Frame} {meth : Method} {c : Code} {H : Heap} {locs : List Loc} {cells slots : Nat} {Q : State → Prop} {cc : ByteArray} {nL : Nat} {G : GP} {A0 : Nat → Prop} {sk : Sk} {σ : St} {pc : Nat} {ls : Array Slot} {rest : List Value} (E : En p m c s cc nL RX7 G A0) (hW : Wo G sk A0 s σ H locs) {q : Nat} (hk : sk.2.1 q = (0, 7)) (hdg : decode cc pc = .ok (.getfield 52, 3)) (kk : W p l e R s m args below meth c H locs cells slots Q (F0 m (pc + 3) ls (.ref (G.2.2.2 + sk.2.2 q 20) :: rest))) : W p l e R s m args below meth c H locs cells slots Q (F0 m pc ls (.ref (G.2.2.2 + q) :: rest)) :=
  r_get E hW hk (k := 20) (T := TX7) (n := 30) rfl in_X7 (by decide) rfl ⟨rfl, rfl, rfl⟩ kw_929 hdg kk
theorem gf_X7_20 {p : Program} {l : Launch} {e : Env} {R : Room} {s : State} {m : MethodId} {args : Array Value} {below : List Frame} {meth : Method} {c : Code} {H : Heap} {locs : List Loc} {cells slots : Nat} {Q : State → Prop} {cc : ByteArray} {nL : Nat} {G : GP} {A0 : Nat → Prop} {sk : Sk} {σ : St} {pc : Nat} {ls : Array Slot} {rest : List Value} (E : En p m c s cc nL RX7 G A0) (hW : Wo G sk A0 s σ H locs) {q : Nat} (hk : sk.2.1 q = (0, 7)) (hdg : decode cc pc = .ok (.getfield 20, 3)) (kk : W p l e R s m args below meth c H locs cells slots Q (F0 m (pc + 3) ls (.ref (G.2.2.2 + sk.2.2 q 9) :: rest))) : W p l e R s m args below meth c H locs cells slots Q (F0 m pc ls (.ref (G.2.2.2 + q) :: rest)) :=
  r_get E hW hk (k := 9) (T := TX7) (n := 30) rfl in_X7 (by decide) rfl ⟨rfl, rfl, rfl⟩ kw_918 hdg kk
theorem gf_X7_55 {p : Program} {l : Launch} {e : Env} {R : Room} {s : State} {m : MethodId} {args : Array Value} {below : List Frame} {meth : Method} {c : Code} {H : Heap} {locs : List Loc} {cells slots : Nat} {Q : State → Prop} {cc : ByteArray} {nL : Nat} {G : GP} {A0 : Nat → Prop} {sk : Sk} {σ : St} {pc : Nat} {ls : Array Slot} {rest : List Value} (E : En p m c s cc nL RX7 G A0) (hW : Wo G sk A0 s σ H locs) {q : Nat} (hk : sk.2.1 q = (0, 7)) (hdg : decode cc pc = .ok (.getfield 55, 3)) (kk : W p l e R s m args below meth c H locs cells slots Q (F0 m (pc + 3) ls (.ref (G.2.2.2 + sk.2.2 q 21) :: rest))) : W p l e R s m args below meth c H locs cells slots Q (F0 m pc ls (.ref (G.2.2.2 + q) :: rest)) :=
  r_get E hW hk (k := 21) (T := TX7) (n := 30) rfl in_X7 (by decide) rfl ⟨rfl, rfl, rfl⟩ kw_930 hdg kk
theorem gf_X7_58 {p : Program} {l : Launch} {e : Env} {R : Room} {s : State} {m : MethodId} {args : Array Value} {below : List Frame} {meth : Method} {c : Code} {H : Heap} {locs : List Loc} {cells slots : Nat} {Q : State → Prop} {cc : ByteArray} {nL : Nat} {G : GP} {A0 : Nat → Prop} {sk : Sk} {σ : St} {pc : Nat} {ls : Array Slot} {rest : List Value} (E : En p m c s cc nL RX7 G A0) (hW : Wo G sk A0 s σ H locs) {q : Nat} (hk : sk.2.1 q = (0, 7)) (hdg : decode cc pc = .ok (.getfield 58, 3)) (kk : W p l e R s m args below meth c H locs cells slots Q (F0 m (pc + 3) ls (.ref (G.2.2.2 + sk.2.2 q 22) :: rest))) : W p l e R s m args below meth c H locs cells slots Q (F0 m pc ls (.ref (G.2.2.2 + q) :: rest)) :=
  r_get E hW hk (k := 22) (T := TX7) (n := 30) rfl in_X7 (by decide) rfl ⟨rfl, rfl, rfl⟩ kw_931 hdg kk
theorem gf_X7_49 {p : Program} {l : Launch} {e : Env} {R : Room} {s : State} {m : MethodId} {args : Array Value} {below : List Frame} {meth : Method} {c : Code} {H : Heap} {locs : List Loc} {cells slots : Nat} {Q : State → Prop} {cc : ByteArray} {nL : Nat} {G : GP} {A0 : Nat → Prop} {sk : Sk} {σ : St} {pc : Nat} {ls : Array Slot} {rest : List Value} (E : En p m c s cc nL RX7 G A0) (hW : Wo G sk A0 s σ H locs) {q : Nat} (hk : sk.2.1 q = (0, 7)) (hdg : decode cc pc = .ok (.getfield 49, 3)) (kk : W p l e R s m args below meth c H locs cells slots Q (F0 m (pc + 3) ls (.ref (G.2.2.2 + sk.2.2 q 19) :: rest))) : W p l e R s m args below meth c H locs cells slots Q (F0 m pc ls (.ref (G.2.2.2 + q) :: rest)) :=
  r_get E hW hk (k := 19) (T := TX7) (n := 30) rfl in_X7 (by decide) rfl ⟨rfl, rfl, rfl⟩ kw_928 hdg kk
theorem gf_X7_322 {p : Program} {l : Launch} {e : Env} {R : Room} {s : State} {m : MethodId} {args : Array Value} {below : List Frame} {meth : Method} {c : Code} {H : Heap} {locs : List Loc} {cells slots : Nat} {Q : State → Prop} {cc : ByteArray} {nL : Nat} {G : GP} {A0 : Nat → Prop} {sk : Sk} {σ : St} {pc : Nat} {ls : Array Slot} {rest : List Value} (E : En p m c s cc nL RX7 G A0) (hW : Wo G sk A0 s σ H locs) {q : Nat} (hk : sk.2.1 q = (0, 7)) (hdg : decode cc pc = .ok (.getfield 322, 3)) (kk : W p l e R s m args below meth c H locs cells slots Q (F0 m (pc + 3) ls (.int (σ.1 q 11) :: rest))) : W p l e R s m args below meth c H locs cells slots Q (F0 m pc ls (.ref (G.2.2.2 + q) :: rest)) :=
  r_get E hW hk (k := 11) (T := TX7) (n := 30) rfl in_X7 (by decide) rfl ⟨rfl, rfl, rfl⟩ kw_920 hdg kk
theorem gf_X7_17 {p : Program} {l : Launch} {e : Env} {R : Room} {s : State} {m : MethodId} {args : Array Value} {below : List Frame} {meth : Method} {c : Code} {H : Heap} {locs : List Loc} {cells slots : Nat} {Q : State → Prop} {cc : ByteArray} {nL : Nat} {G : GP} {A0 : Nat → Prop} {sk : Sk} {σ : St} {pc : Nat} {ls : Array Slot} {rest : List Value} (E : En p m c s cc nL RX7 G A0) (hW : Wo G sk A0 s σ H locs) {q : Nat} (hk : sk.2.1 q = (0, 7)) (hdg : decode cc pc = .ok (.getfield 17, 3)) (kk : W p l e R s m args below meth c H locs cells slots Q (F0 m (pc + 3) ls (.ref (G.2.2.2 + sk.2.2 q 8) :: rest))) : W p l e R s m args below meth c H locs cells slots Q (F0 m pc ls (.ref (G.2.2.2 + q) :: rest)) :=
  r_get E hW hk (k := 8) (T := TX7) (n := 30) rfl in_X7 (by decide) rfl ⟨rfl, rfl, rfl⟩ kw_917 hdg kk
theorem gf_X7_25 {p : Program} {l : Launch} {e : Env} {R : Room} {s : State} {m : MethodId} {args : Array Value} {below : List Frame} {meth : Method} {c : Code} {H : Heap} {locs : List Loc} {cells slots : Nat} {Q : State → Prop} {cc : ByteArray} {nL : Nat} {G : GP} {A0 : Nat → Prop} {sk : Sk} {σ : St} {pc : Nat} {ls : Array Slot} {rest : List Value} (E : En p m c s cc nL RX7 G A0) (hW : Wo G sk A0 s σ H locs) {q : Nat} (hk : sk.2.1 q = (0, 7)) (hdg : decode cc pc = .ok (.getfield 25, 3)) (kk : W p l e R s m args below meth c H locs cells slots Q (F0 m (pc + 3) ls (.ref (G.2.2.2 + sk.2.2 q 10) :: rest))) : W p l e R s m args below meth c H locs cells slots Q (F0 m pc ls (.ref (G.2.2.2 + q) :: rest)) :=
  r_get E hW hk (k := 10) (T := TX7) (n := 30) rfl in_X7 (by decide) rfl ⟨rfl, rfl, rfl⟩ kw_919 hdg kk
theorem pf_X7_322 {p : Program} {l : Launch} {e : Env} {R : Room} {s : State} {m : MethodId} {args : Array Value} {below : List Frame} {meth : Method} {c : Code} {H : Heap} {locs : List Loc} {cells slots : Nat} {Q : State → Prop} {cc : ByteArray} {nL : Nat} {G : GP} {A0 : Nat → Prop} {sk : Sk} {σ : St} {pc : Nat} {ls : Array Slot} {rest : List Value} (E : En p m c s cc nL RX7 G A0) (hW : Wo G sk A0 s σ H locs) {q : Nat} {v : Int32} (hk : sk.2.1 q = (0, 7)) (hdg : decode cc pc = .ok (.putfield 322, 3)) (kk : ∀ (σ9 : St) (H1 : Heap) (locs1 : List Loc), σ9 = sI σ q 11 v → Wo G sk A0 s σ9 H1 locs1 → W p l e R s m args below meth c H1 locs1 cells slots Q (F0 m (pc + 3) ls rest)) : W p l e R s m args below meth c H locs cells slots Q (F0 m pc ls (.int v :: .ref (G.2.2.2 + q) :: rest)) :=
  r_putI E hW hk (k := 11) (T := TX7) (n := 30) rfl in_X7 (by decide) rfl rfl tyX7_ok nmX7 ⟨rfl, rfl, rfl, rfl⟩ kw_920 hdg kk
theorem pf_X7_164 {p : Program} {l : Launch} {e : Env} {R : Room} {s : State} {m : MethodId} {args : Array Value} {below : List Frame} {meth : Method} {c : Code} {H : Heap} {locs : List Loc} {cells slots : Nat} {Q : State → Prop} {cc : ByteArray} {nL : Nat} {G : GP} {A0 : Nat → Prop} {sk : Sk} {σ : St} {pc : Nat} {ls : Array Slot} {rest : List Value} (E : En p m c s cc nL RX7 G A0) (hW : Wo G sk A0 s σ H locs) {q : Nat} {v : Int32} (hk : sk.2.1 q = (0, 7)) (hdg : decode cc pc = .ok (.putfield 164, 3)) (kk : ∀ (σ9 : St) (H1 : Heap) (locs1 : List Loc), σ9 = sI σ q 3 v → Wo G sk A0 s σ9 H1 locs1 → W p l e R s m args below meth c H1 locs1 cells slots Q (F0 m (pc + 3) ls rest)) : W p l e R s m args below meth c H locs cells slots Q (F0 m pc ls (.int v :: .ref (G.2.2.2 + q) :: rest)) :=
  r_putI E hW hk (k := 3) (T := TX7) (n := 30) rfl in_X7 (by decide) rfl rfl tyX7_ok nmX7 ⟨rfl, rfl, rfl, rfl⟩ kw_912 hdg kk
theorem gf_X7_176 {p : Program} {l : Launch} {e : Env} {R : Room} {s : State} {m : MethodId} {args : Array Value} {below : List Frame} {meth : Method} {c : Code} {H : Heap} {locs : List Loc} {cells slots : Nat} {Q : State → Prop} {cc : ByteArray} {nL : Nat} {G : GP} {A0 : Nat → Prop} {sk : Sk} {σ : St} {pc : Nat} {ls : Array Slot} {rest : List Value} (E : En p m c s cc nL RX7 G A0) (hW : Wo G sk A0 s σ H locs) {q : Nat} (hk : sk.2.1 q = (0, 7)) (hdg : decode cc pc = .ok (.getfield 176, 3)) (kk : W p l e R s m args below meth c H locs cells slots Q (F0 m (pc + 3) ls (.int (σ.1 q 6) :: rest))) : W p l e R s m args below meth c H locs cells slots Q (F0 m pc ls (.ref (G.2.2.2 + q) :: rest)) :=
  r_get E hW hk (k := 6) (T := TX7) (n := 30) rfl in_X7 (by decide) rfl ⟨rfl, rfl, rfl⟩ kw_915 hdg kk
theorem pf_X7_13 {p : Program} {l : Launch} {e : Env} {R : Room} {s : State} {m : MethodId} {args : Array Value} {below : List Frame} {meth : Method} {c : Code} {H : Heap} {locs : List Loc} {cells slots : Nat} {Q : State → Prop} {cc : ByteArray} {nL : Nat} {G : GP} {A0 : Nat → Prop} {sk : Sk} {σ : St} {pc : Nat} {ls : Array Slot} {rest : List Value} (E : En p m c s cc nL RX7 G A0) (hW : Wo G sk A0 s σ H locs) {q : Nat} {v : Int32} (hk : sk.2.1 q = (0, 7)) (hdg : decode cc pc = .ok (.putfield 13, 3)) (kk : ∀ (σ9 : St) (H1 : Heap) (locs1 : List Loc), σ9 = sI σ q 7 v → Wo G sk A0 s σ9 H1 locs1 → W p l e R s m args below meth c H1 locs1 cells slots Q (F0 m (pc + 3) ls rest)) : W p l e R s m args below meth c H locs cells slots Q (F0 m pc ls (.int v :: .ref (G.2.2.2 + q) :: rest)) :=
  r_putI E hW hk (k := 7) (T := TX7) (n := 30) rfl in_X7 (by decide) rfl rfl tyX7_ok nmX7 ⟨rfl, rfl, rfl, rfl⟩ kw_916 hdg kk
theorem gf_X7_13 {p : Program} {l : Launch} {e : Env} {R : Room} {s : State} {m : MethodId} {args : Array Value} {below : List Frame} {meth : Method} {c : Code} {H : Heap} {locs : List Loc} {cells slots : Nat} {Q : State → Prop} {cc : ByteArray} {nL : Nat} {G : GP} {A0 : Nat → Prop} {sk : Sk} {σ : St} {pc : Nat} {ls : Array Slot} {rest : List Value} (E : En p m c s cc nL RX7 G A0) (hW : Wo G sk A0 s σ H locs) {q : Nat} (hk : sk.2.1 q = (0, 7)) (hdg : decode cc pc = .ok (.getfield 13, 3)) (kk : W p l e R s m args below meth c H locs cells slots Q (F0 m (pc + 3) ls (.int (σ.1 q 7) :: rest))) : W p l e R s m args below meth c H locs cells slots Q (F0 m pc ls (.ref (G.2.2.2 + q) :: rest)) :=
  r_get E hW hk (k := 7) (T := TX7) (n := 30) rfl in_X7 (by decide) rfl ⟨rfl, rfl, rfl⟩ kw_916 hdg kk
theorem gf_X7_61 {p : Program} {l : Launch} {e : Env} {R : Room} {s : State} {m : MethodId} {args : Array Value} {below : List Frame} {meth : Method} {c : Code} {H : Heap} {locs : List Loc} {cells slots : Nat} {Q : State → Prop} {cc : ByteArray} {nL : Nat} {G : GP} {A0 : Nat → Prop} {sk : Sk} {σ : St} {pc : Nat} {ls : Array Slot} {rest : List Value} (E : En p m c s cc nL RX7 G A0) (hW : Wo G sk A0 s σ H locs) {q : Nat} (hk : sk.2.1 q = (0, 7)) (hdg : decode cc pc = .ok (.getfield 61, 3)) (kk : W p l e R s m args below meth c H locs cells slots Q (F0 m (pc + 3) ls (.ref (G.2.2.2 + sk.2.2 q 24) :: rest))) : W p l e R s m args below meth c H locs cells slots Q (F0 m pc ls (.ref (G.2.2.2 + q) :: rest)) :=
  r_get E hW hk (k := 24) (T := TX7) (n := 30) rfl in_X7 (by decide) rfl ⟨rfl, rfl, rfl⟩ kw_933 hdg kk
theorem gf_X7_64 {p : Program} {l : Launch} {e : Env} {R : Room} {s : State} {m : MethodId} {args : Array Value} {below : List Frame} {meth : Method} {c : Code} {H : Heap} {locs : List Loc} {cells slots : Nat} {Q : State → Prop} {cc : ByteArray} {nL : Nat} {G : GP} {A0 : Nat → Prop} {sk : Sk} {σ : St} {pc : Nat} {ls : Array Slot} {rest : List Value} (E : En p m c s cc nL RX7 G A0) (hW : Wo G sk A0 s σ H locs) {q : Nat} (hk : sk.2.1 q = (0, 7)) (hdg : decode cc pc = .ok (.getfield 64, 3)) (kk : W p l e R s m args below meth c H locs cells slots Q (F0 m (pc + 3) ls (.ref (G.2.2.2 + sk.2.2 q 25) :: rest))) : W p l e R s m args below meth c H locs cells slots Q (F0 m pc ls (.ref (G.2.2.2 + q) :: rest)) :=
  r_get E hW hk (k := 25) (T := TX7) (n := 30) rfl in_X7 (by decide) rfl ⟨rfl, rfl, rfl⟩ kw_934 hdg kk
theorem gf_X7_67 {p : Program} {l : Launch} {e : Env} {R : Room} {s : State} {m : MethodId} {args : Array Value} {below : List Frame} {meth : Method} {c : Code} {H : Heap} {locs : List Loc} {cells slots : Nat} {Q : State → Prop} {cc : ByteArray} {nL : Nat} {G : GP} {A0 : Nat → Prop} {sk : Sk} {σ : St} {pc : Nat} {ls : Array Slot} {rest : List Value} (E : En p m c s cc nL RX7 G A0) (hW : Wo G sk A0 s σ H locs) {q : Nat} (hk : sk.2.1 q = (0, 7)) (hdg : decode cc pc = .ok (.getfield 67, 3)) (kk : W p l e R s m args below meth c H locs cells slots Q (F0 m (pc + 3) ls (.ref (G.2.2.2 + sk.2.2 q 26) :: rest))) : W p l e R s m args below meth c H locs cells slots Q (F0 m pc ls (.ref (G.2.2.2 + q) :: rest)) :=
  r_get E hW hk (k := 26) (T := TX7) (n := 30) rfl in_X7 (by decide) rfl ⟨rfl, rfl, rfl⟩ kw_935 hdg kk
theorem gf_X7_70 {p : Program} {l : Launch} {e : Env} {R : Room} {s : State} {m : MethodId} {args : Array Value} {below : List Frame} {meth : Method} {c : Code} {H : Heap} {locs : List Loc} {cells slots : Nat} {Q : State → Prop} {cc : ByteArray} {nL : Nat} {G : GP} {A0 : Nat → Prop} {sk : Sk} {σ : St} {pc : Nat} {ls : Array Slot} {rest : List Value} (E : En p m c s cc nL RX7 G A0) (hW : Wo G sk A0 s σ H locs) {q : Nat} (hk : sk.2.1 q = (0, 7)) (hdg : decode cc pc = .ok (.getfield 70, 3)) (kk : W p l e R s m args below meth c H locs cells slots Q (F0 m (pc + 3) ls (.ref (G.2.2.2 + sk.2.2 q 27) :: rest))) : W p l e R s m args below meth c H locs cells slots Q (F0 m pc ls (.ref (G.2.2.2 + q) :: rest)) :=
  r_get E hW hk (k := 27) (T := TX7) (n := 30) rfl in_X7 (by decide) rfl ⟨rfl, rfl, rfl⟩ kw_936 hdg kk
theorem gf_X7_73 {p : Program} {l : Launch} {e : Env} {R : Room} {s : State} {m : MethodId} {args : Array Value} {below : List Frame} {meth : Method} {c : Code} {H : Heap} {locs : List Loc} {cells slots : Nat} {Q : State → Prop} {cc : ByteArray} {nL : Nat} {G : GP} {A0 : Nat → Prop} {sk : Sk} {σ : St} {pc : Nat} {ls : Array Slot} {rest : List Value} (E : En p m c s cc nL RX7 G A0) (hW : Wo G sk A0 s σ H locs) {q : Nat} (hk : sk.2.1 q = (0, 7)) (hdg : decode cc pc = .ok (.getfield 73, 3)) (kk : W p l e R s m args below meth c H locs cells slots Q (F0 m (pc + 3) ls (.ref (G.2.2.2 + sk.2.2 q 28) :: rest))) : W p l e R s m args below meth c H locs cells slots Q (F0 m pc ls (.ref (G.2.2.2 + q) :: rest)) :=
  r_get E hW hk (k := 28) (T := TX7) (n := 30) rfl in_X7 (by decide) rfl ⟨rfl, rfl, rfl⟩ kw_937 hdg kk
theorem gf_X7_76 {p : Program} {l : Launch} {e : Env} {R : Room} {s : State} {m : MethodId} {args : Array Value} {below : List Frame} {meth : Method} {c : Code} {H : Heap} {locs : List Loc} {cells slots : Nat} {Q : State → Prop} {cc : ByteArray} {nL : Nat} {G : GP} {A0 : Nat → Prop} {sk : Sk} {σ : St} {pc : Nat} {ls : Array Slot} {rest : List Value} (E : En p m c s cc nL RX7 G A0) (hW : Wo G sk A0 s σ H locs) {q : Nat} (hk : sk.2.1 q = (0, 7)) (hdg : decode cc pc = .ok (.getfield 76, 3)) (kk : W p l e R s m args below meth c H locs cells slots Q (F0 m (pc + 3) ls (.ref (G.2.2.2 + sk.2.2 q 29) :: rest))) : W p l e R s m args below meth c H locs cells slots Q (F0 m pc ls (.ref (G.2.2.2 + q) :: rest)) :=
  r_get E hW hk (k := 29) (T := TX7) (n := 30) rfl in_X7 (by decide) rfl ⟨rfl, rfl, rfl⟩ kw_938 hdg kk
