theorem fl_X11_76 : Cond.fieldLink RX11 76 "CopyOrders" "tapeLength" "I" ∈ TB := TB_t 323 (by decide +kernel) rfl
theorem u_X11 : ∀ w ∈ u_ws RX11 TX11 14, w ∈ TB := TB_all _ [336, 338, 340, 342, 344, 346, 348, 350, 352, 354, 356, 358, 360, 362] (by decide +kernel) (by decide +kernel)
theorem fl_X1_9 : Cond.fieldLink RX1 9 "CopyOrders$Copy" "name" "J" ∈ TB := TB_t 78 (by decide +kernel) rfl
theorem u_X1 : ∀ w ∈ u_ws RX1 TX1 6, w ∈ TB := TB_all _ [99, 101, 103, 105, 107, 109] (by decide +kernel) (by decide +kernel)
theorem fl_X1_15 : Cond.fieldLink RX1 15 "CopyOrders$Copy" "length" "I" ∈ TB := TB_t 81 (by decide +kernel) rfl
theorem fl_X1_19 : Cond.fieldLink RX1 19 "CopyOrders$Copy" "packed" "I" ∈ TB := TB_t 88 (by decide +kernel) rfl
theorem fl_X1_22 : Cond.fieldLink RX1 22 "CopyOrders$Copy" "lineBits" "I" ∈ TB := TB_t 91 (by decide +kernel) rfl
theorem fl_X1_25 : Cond.fieldLink RX1 25 "CopyOrders$Copy" "pairs" "I" ∈ TB := TB_t 93 (by decide +kernel) rfl
theorem fl_X1_28 : Cond.fieldLink RX1 28 "CopyOrders$Copy" "turned" "I" ∈ TB := TB_t 97 (by decide +kernel) rfl
theorem fl_X4_55 : Cond.fieldLink RX4 55 "CopyOrders$House" "copies" "I" ∈ TB := TB_t 141 (by decide +kernel) rfl
theorem u_X4 : ∀ w ∈ u_ws RX4 TX4 12, w ∈ TB := TB_all _ [165, 167, 169, 171, 173, 175, 177, 179, 181, 183, 185, 187] (by decide +kernel) (by decide +kernel)
theorem fl_X4_17 : Cond.fieldLink RX4 17 "CopyOrders$House" "copyRows" "[LCopyOrders$Copy;" ∈ TB := TB_t 144 (by decide +kernel) rfl
theorem ml_X4_93 : Cond.methodLink RX4 93 yX1_clear ∈ TB := TB_t 465 (by decide +kernel) rfl
theorem im_X1_clear : Cond.instanceMethod yX1_clear ∈ TB := TB_t 466 (by decide +kernel) rfl
theorem sl_X1_clear : Cond.selects "CopyOrders$Copy" yX1_clear yX1_clear ∈ TB := TB_t 467 (by decide +kernel) rfl
theorem ini_CopyOrders_Copy : Cond.initialized "CopyOrders$Copy" ∈ TB := TB_t 6 (by decide +kernel) rfl
theorem cd_X1_clear : Cond.code yX1_clear cX1_clear 1 none ∈ TB := TB_t 468 (by decide +kernel) rfl
theorem gv_X4_93 : GoodIn TB (wsV RX4 93 "CopyOrders$Copy" yX1_clear (wsO yX1_clear cX1_clear 1 none)) := gV ml_X4_93 im_X1_clear sl_X1_clear ini_CopyOrders_Copy cd_X1_clear
theorem hd_X1_clear : yX1_clear.cls = "CopyOrders$Copy" ∧ yX1_clear.cls ≠ "java/lang/invoke/MethodHandle" ∧ yX1_clear.cls ≠ "java/lang/invoke/VarHandle" ∧ (parseMethodDescriptor yX1_clear.desc).map (fun d => d.parameters.length) = some 0 := by decide +kernel
theorem fl_X11_9 : Cond.fieldLink RX11 9 "CopyOrders" "tape" "[B" ∈ TB := TB_t 322 (by decide +kernel) rfl
theorem mx_X11_315 : Cond.methodLink RX11 315 Lib.Math.max.name ∈ TB := TB_t 504 (by decide +kernel) rfl
theorem mx_X11_202 : Cond.methodLink RX11 202 Lib.Math.min.name ∈ TB := TB_t 507 (by decide +kernel) rfl
theorem cd_X11_lineOf : Cond.code yX11_lineOf cX11_lineOf 2 (some .int) ∈ TB := TB_t 500 (by decide +kernel) rfl
theorem go_X11_lineOf : GoodIn TB (wsO yX11_lineOf cX11_lineOf 2 (some .int)) := gO cd_X11_lineOf
theorem nm_X1_31 : (RX1, 31, yX11_lineOf, "CopyOrders") ∈ nestM := List.mem_of_getElem? (i := 3) rfl
theorem ini_CopyOrders : Cond.initialized "CopyOrders" ∈ TB := TB_t 1 (by decide +kernel) rfl
theorem stt_X11_lineOf : Cond.static yX11_lineOf ∈ TB := TB_t 499 (by decide +kernel) rfl
theorem hd_X11_lineOf : yX11_lineOf.cls = "CopyOrders" ∧ yX11_lineOf.cls ≠ "java/lang/invoke/MethodHandle" ∧ yX11_lineOf.cls ≠ "java/lang/invoke/VarHandle" ∧ (parseMethodDescriptor yX11_lineOf.desc).map (fun d => d.parameters.length) = some 2 := by decide +kernel
theorem cd_X11_pairBit : Cond.code yX11_pairBit cX11_pairBit 3 (some .int) ∈ TB := TB_t 503 (by decide +kernel) rfl
theorem go_X11_pairBit : GoodIn TB (wsO yX11_pairBit cX11_pairBit 3 (some .int)) := gO cd_X11_pairBit
theorem nm_X1_35 : (RX1, 35, yX11_pairBit, "CopyOrders") ∈ nestM := List.mem_of_getElem? (i := 4) rfl
theorem stt_X11_pairBit : Cond.static yX11_pairBit ∈ TB := TB_t 502 (by decide +kernel) rfl
theorem hd_X11_pairBit : yX11_pairBit.cls = "CopyOrders" ∧ yX11_pairBit.cls ≠ "java/lang/invoke/MethodHandle" ∧ yX11_pairBit.cls ≠ "java/lang/invoke/VarHandle" ∧ (parseMethodDescriptor yX11_pairBit.desc).map (fun d => d.parameters.length) = some 2 := by decide +kernel
theorem ml_X11_128 : Cond.methodLink RX11 128 yX11_byteAt ∈ TB := TB_t 573 (by decide +kernel) rfl
theorem im_X11_byteAt : Cond.instanceMethod yX11_byteAt ∈ TB := TB_t 575 (by decide +kernel) rfl
theorem sl_X11_byteAt : Cond.selects "CopyOrders" yX11_byteAt yX11_byteAt ∈ TB := TB_s 14 (by decide +kernel) rfl
theorem cd_X11_byteAt : Cond.code yX11_byteAt cX11_byteAt 2 (some .int) ∈ TB := TB_t 576 (by decide +kernel) rfl
theorem gv_X11_128 : GoodIn TB (wsV RX11 128 "CopyOrders" yX11_byteAt (wsO yX11_byteAt cX11_byteAt 2 (some .int))) := gV ml_X11_128 im_X11_byteAt sl_X11_byteAt ini_CopyOrders cd_X11_byteAt
theorem hd_X11_byteAt : yX11_byteAt.cls = "CopyOrders" ∧ yX11_byteAt.cls ≠ "java/lang/invoke/MethodHandle" ∧ yX11_byteAt.cls ≠ "java/lang/invoke/VarHandle" ∧ (parseMethodDescriptor yX11_byteAt.desc).map (fun d => d.parameters.length) = some 1 := by decide +kernel
theorem fl_X11_16 : Cond.fieldLink RX11 16 "CopyOrders" "told" "LCopyOrders$House;" ∈ TB := TB_t 324 (by decide +kernel) rfl
theorem fl_X11_132 : Cond.fieldLink RX11 132 "CopyOrders$House" "lines" "I" ∈ TB := TB_t 140 (by decide +kernel) rfl
theorem ml_X11_135 : Cond.methodLink RX11 135 yX1_hasLine ∈ TB := TB_t 577 (by decide +kernel) rfl
theorem im_X1_hasLine : Cond.instanceMethod yX1_hasLine ∈ TB := TB_t 491 (by decide +kernel) rfl
theorem sl_X1_hasLine : Cond.selects "CopyOrders$Copy" yX1_hasLine yX1_hasLine ∈ TB := TB_t 492 (by decide +kernel) rfl
theorem cd_X1_hasLine : Cond.code yX1_hasLine cX1_hasLine 2 (some .boolean) ∈ TB := TB_t 493 (by decide +kernel) rfl
theorem gv_X11_135 : GoodIn TB (wsV RX11 135 "CopyOrders$Copy" yX1_hasLine (wsO yX1_hasLine cX1_hasLine 2 (some .boolean))) := gV ml_X11_135 im_X1_hasLine sl_X1_hasLine ini_CopyOrders_Copy cd_X1_hasLine
theorem hd_X1_hasLine : yX1_hasLine.cls = "CopyOrders$Copy" ∧ yX1_hasLine.cls ≠ "java/lang/invoke/MethodHandle" ∧ yX1_hasLine.cls ≠ "java/lang/invoke/VarHandle" ∧ (parseMethodDescriptor yX1_hasLine.desc).map (fun d => d.parameters.length) = some 1 := by decide +kernel
theorem ml_X11_139 : Cond.methodLink RX11 139 yX1_append ∈ TB := TB_t 578 (by decide +kernel) rfl
theorem im_X1_append : Cond.instanceMethod yX1_append ∈ TB := TB_t 495 (by decide +kernel) rfl
theorem sl_X1_append : Cond.selects "CopyOrders$Copy" yX1_append yX1_append ∈ TB := TB_t 496 (by decide +kernel) rfl
theorem cd_X1_append : Cond.code yX1_append cX1_append 5 none ∈ TB := TB_t 497 (by decide +kernel) rfl
theorem gv_X11_139 : GoodIn TB (wsV RX11 139 "CopyOrders$Copy" yX1_append (wsO yX1_append cX1_append 5 none)) := gV ml_X11_139 im_X1_append sl_X1_append ini_CopyOrders_Copy cd_X1_append
theorem hd_X1_append : yX1_append.cls = "CopyOrders$Copy" ∧ yX1_append.cls ≠ "java/lang/invoke/MethodHandle" ∧ yX1_append.cls ≠ "java/lang/invoke/VarHandle" ∧ (parseMethodDescriptor yX1_append.desc).map (fun d => d.parameters.length) = some 1 := by decide +kernel
theorem fl_X11_142 : Cond.fieldLink RX11 142 "CopyOrders$House" "copies" "I" ∈ TB := TB_t 143 (by decide +kernel) rfl
theorem ml_X11_84 : Cond.methodLink RX11 84 yX11_takeTape ∈ TB := TB_t 381 (by decide +kernel) rfl
theorem im_X11_takeTape : Cond.instanceMethod yX11_takeTape ∈ TB := TB_t 383 (by decide +kernel) rfl
theorem sl_X11_takeTape : Cond.selects "CopyOrders" yX11_takeTape yX11_takeTape ∈ TB := TB_s 1 (by decide +kernel) rfl
theorem cd_X11_takeTape : Cond.code yX11_takeTape cX11_takeTape 2 (some .int) ∈ TB := TB_t 384 (by decide +kernel) rfl
theorem gv_X11_84 : GoodIn TB (wsV RX11 84 "CopyOrders" yX11_takeTape (wsO yX11_takeTape cX11_takeTape 2 (some .int))) := gV ml_X11_84 im_X11_takeTape sl_X11_takeTape ini_CopyOrders cd_X11_takeTape
theorem hd_X11_takeTape : yX11_takeTape.cls = "CopyOrders" ∧ yX11_takeTape.cls ≠ "java/lang/invoke/MethodHandle" ∧ yX11_takeTape.cls ≠ "java/lang/invoke/VarHandle" ∧ (parseMethodDescriptor yX11_takeTape.desc).map (fun d => d.parameters.length) = some 0 := by decide +kernel
theorem ml_X11_124 : Cond.methodLink RX11 124 yX4_nextCopy ∈ TB := TB_t 572 (by decide +kernel) rfl
theorem im_X4_nextCopy : Cond.instanceMethod yX4_nextCopy ∈ TB := TB_t 462 (by decide +kernel) rfl
theorem sl_X4_nextCopy : Cond.selects "CopyOrders$House" yX4_nextCopy yX4_nextCopy ∈ TB := TB_t 463 (by decide +kernel) rfl
theorem ini_CopyOrders_House : Cond.initialized "CopyOrders$House" ∈ TB := TB_t 2 (by decide +kernel) rfl
theorem cd_X4_nextCopy : Cond.code yX4_nextCopy cX4_nextCopy 1 (some (.object "CopyOrders$Copy")) ∈ TB := TB_t 464 (by decide +kernel) rfl
theorem gv_X11_124 : GoodIn TB (wsV RX11 124 "CopyOrders$House" yX4_nextCopy (wsO yX4_nextCopy cX4_nextCopy 1 (some (.object "CopyOrders$Copy")))) := gV ml_X11_124 im_X4_nextCopy sl_X4_nextCopy ini_CopyOrders_House cd_X4_nextCopy
theorem hd_X4_nextCopy : yX4_nextCopy.cls = "CopyOrders$House" ∧ yX4_nextCopy.cls ≠ "java/lang/invoke/MethodHandle" ∧ yX4_nextCopy.cls ≠ "java/lang/invoke/VarHandle" ∧ (parseMethodDescriptor yX4_nextCopy.desc).map (fun d => d.parameters.length) = some 0 := by decide +kernel
theorem fl_X11_348 : Cond.fieldLink RX11 348 "CopyOrders" "FACTORIALS" "[I" ∈ TB := TB_t 597 (by decide +kernel) rfl
theorem ob_X1_3 : Cond.methodLink RX1 3 objectInit ∈ TB := TB_t 77 (by decide +kernel) rfl
theorem ob_im : Cond.instanceMethod objectInit ∈ TB := TB_t 29 (by decide +kernel) rfl
theorem ob_cd : Cond.code objectInit ⟨#[0xb1]⟩ 1 none ∈ TB := TB_t 30 (by decide +kernel) rfl
theorem fl_X6_88 : Cond.fieldLink RX6 88 "CopyOrders$Copy" "length" "I" ∈ TB := TB_t 84 (by decide +kernel) rfl
theorem fl_X6_64 : Cond.fieldLink RX6 64 "CopyOrders$Copy" "packed" "I" ∈ TB := TB_t 87 (by decide +kernel) rfl
theorem nm_X6_119 : (RX6, 119, yX11_lineOf, "CopyOrders") ∈ nestM := List.mem_of_getElem? (i := 7) rfl
theorem fl_X6_18 : Cond.fieldLink RX6 18 "CopyOrders$Orders" "lines" "I" ∈ TB := TB_t 617 (by decide +kernel) rfl
theorem u_X6 : ∀ w ∈ u_ws RX6 TX6 9, w ∈ TB := TB_all _ [633, 635, 637, 639, 641, 643, 645, 647, 649] (by decide +kernel) (by decide +kernel)
theorem ml_X6_91 : Cond.methodLink RX6 91 yX6_lowerBehind ∈ TB := TB_t 607 (by decide +kernel) rfl
theorem stt_X6_lowerBehind : Cond.static yX6_lowerBehind ∈ TB := TB_t 608 (by decide +kernel) rfl
theorem ini_CopyOrders_Orders : Cond.initialized "CopyOrders$Orders" ∈ TB := TB_t 20 (by decide +kernel) rfl
theorem cd_X6_lowerBehind : Cond.code yX6_lowerBehind cX6_lowerBehind 4 (some .int) ∈ TB := TB_t 609 (by decide +kernel) rfl
theorem gs_X6_91 : GoodIn TB (va_wsS RX6 91 yX6_lowerBehind (wsO yX6_lowerBehind cX6_lowerBehind 4 (some .int))) := gS ml_X6_91 stt_X6_lowerBehind ini_CopyOrders_Orders cd_X6_lowerBehind
theorem hd_X6_lowerBehind : yX6_lowerBehind.cls = "CopyOrders$Orders" ∧ yX6_lowerBehind.cls ≠ "java/lang/invoke/MethodHandle" ∧ yX6_lowerBehind.cls ≠ "java/lang/invoke/VarHandle" ∧ (parseMethodDescriptor yX6_lowerBehind.desc).map (fun d => d.parameters.length) = some 2 := by decide +kernel
theorem fl_X6_41 : Cond.fieldLink RX6 41 "CopyOrders$Orders" "exchanges" "[I" ∈ TB := TB_t 627 (by decide +kernel) rfl
theorem cd_X11_factorial : Cond.code yX11_factorial cX11_factorial 1 (some .int) ∈ TB := TB_t 596 (by decide +kernel) rfl
theorem go_X11_factorial : GoodIn TB (wsO yX11_factorial cX11_factorial 1 (some .int)) := gO cd_X11_factorial
theorem nm_X6_24 : (RX6, 24, yX11_factorial, "CopyOrders") ∈ nestM := List.mem_of_getElem? (i := 5) rfl
theorem stt_X11_factorial : Cond.static yX11_factorial ∈ TB := TB_t 595 (by decide +kernel) rfl
theorem hd_X11_factorial : yX11_factorial.cls = "CopyOrders" ∧ yX11_factorial.cls ≠ "java/lang/invoke/MethodHandle" ∧ yX11_factorial.cls ≠ "java/lang/invoke/VarHandle" ∧ (parseMethodDescriptor yX11_factorial.desc).map (fun d => d.parameters.length) = some 1 := by decide +kernel
theorem ml_X6_125 : Cond.methodLink RX6 125 yX6_exchange ∈ TB := TB_t 614 (by decide +kernel) rfl
theorem stt_X6_exchange : Cond.static yX6_exchange ∈ TB := TB_t 615 (by decide +kernel) rfl
theorem cd_X6_exchange : Cond.code yX6_exchange cX6_exchange 4 none ∈ TB := TB_t 616 (by decide +kernel) rfl
theorem gs_X6_125 : GoodIn TB (va_wsS RX6 125 yX6_exchange (wsO yX6_exchange cX6_exchange 4 none)) := gS ml_X6_125 stt_X6_exchange ini_CopyOrders_Orders cd_X6_exchange
theorem hd_X6_exchange : yX6_exchange.cls = "CopyOrders$Orders" ∧ yX6_exchange.cls ≠ "java/lang/invoke/MethodHandle" ∧ yX6_exchange.cls ≠ "java/lang/invoke/VarHandle" ∧ (parseMethodDescriptor yX6_exchange.desc).map (fun d => d.parameters.length) = some 3 := by decide +kernel
theorem fl_X6_28 : Cond.fieldLink RX6 28 "CopyOrders$Orders" "total" "I" ∈ TB := TB_t 619 (by decide +kernel) rfl
theorem ml_X6_57 : Cond.methodLink RX6 57 yX1_clear ∈ TB := TB_t 601 (by decide +kernel) rfl
theorem gv_X6_57 : GoodIn TB (wsV RX6 57 "CopyOrders$Copy" yX1_clear (wsO yX1_clear cX1_clear 1 none)) := gV ml_X6_57 im_X1_clear sl_X1_clear ini_CopyOrders_Copy cd_X1_clear
theorem ml_X6_60 : Cond.methodLink RX6 60 yX1_append ∈ TB := TB_t 602 (by decide +kernel) rfl
theorem gv_X6_60 : GoodIn TB (wsV RX6 60 "CopyOrders$Copy" yX1_append (wsO yX1_append cX1_append 5 none)) := gV ml_X6_60 im_X1_append sl_X1_append ini_CopyOrders_Copy cd_X1_append
theorem fl_X6_34 : Cond.fieldLink RX6 34 "CopyOrders$Orders" "packed" "[I" ∈ TB := TB_t 623 (by decide +kernel) rfl
theorem fl_X6_38 : Cond.fieldLink RX6 38 "CopyOrders$Orders" "turned" "[I" ∈ TB := TB_t 625 (by decide +kernel) rfl
theorem fl_X6_66 : Cond.fieldLink RX6 66 "CopyOrders$Copy" "turned" "I" ∈ TB := TB_t 96 (by decide +kernel) rfl
theorem ml_X6_68 : Cond.methodLink RX6 68 yX6_putExchanges ∈ TB := TB_t 603 (by decide +kernel) rfl
theorem im_X6_putExchanges : Cond.instanceMethod yX6_putExchanges ∈ TB := TB_t 605 (by decide +kernel) rfl
theorem sl_X6_putExchanges : Cond.selects "CopyOrders$Orders" yX6_putExchanges yX6_putExchanges ∈ TB := TB_s 16 (by decide +kernel) rfl
theorem cd_X6_putExchanges : Cond.code yX6_putExchanges cX6_putExchanges 9 none ∈ TB := TB_t 606 (by decide +kernel) rfl
theorem gv_X6_68 : GoodIn TB (wsV RX6 68 "CopyOrders$Orders" yX6_putExchanges (wsO yX6_putExchanges cX6_putExchanges 9 none)) := gV ml_X6_68 im_X6_putExchanges sl_X6_putExchanges ini_CopyOrders_Orders cd_X6_putExchanges
theorem hd_X6_putExchanges : yX6_putExchanges.cls = "CopyOrders$Orders" ∧ yX6_putExchanges.cls ≠ "java/lang/invoke/MethodHandle" ∧ yX6_putExchanges.cls ≠ "java/lang/invoke/VarHandle" ∧ (parseMethodDescriptor yX6_putExchanges.desc).map (fun d => d.parameters.length) = some 2 := by decide +kernel
theorem ml_X6_72 : Cond.methodLink RX6 72 yX6_rise ∈ TB := TB_t 611 (by decide +kernel) rfl
theorem stt_X6_rise : Cond.static yX6_rise ∈ TB := TB_t 612 (by decide +kernel) rfl
theorem cd_X6_rise : Cond.code yX6_rise cX6_rise 5 none ∈ TB := TB_t 613 (by decide +kernel) rfl
theorem gs_X6_72 : GoodIn TB (va_wsS RX6 72 yX6_rise (wsO yX6_rise cX6_rise 5 none)) := gS ml_X6_72 stt_X6_rise ini_CopyOrders_Orders cd_X6_rise
theorem hd_X6_rise : yX6_rise.cls = "CopyOrders$Orders" ∧ yX6_rise.cls ≠ "java/lang/invoke/MethodHandle" ∧ yX6_rise.cls ≠ "java/lang/invoke/VarHandle" ∧ (parseMethodDescriptor yX6_rise.desc).map (fun d => d.parameters.length) = some 1 := by decide +kernel
theorem ob_X6_3 : Cond.methodLink RX6 3 objectInit ∈ TB := TB_t 591 (by decide +kernel) rfl
theorem mx_X6_9 : Cond.methodLink RX6 9 Lib.Math.min.name ∈ TB := TB_t 592 (by decide +kernel) rfl
theorem mx_X6_15 : Cond.methodLink RX6 15 Lib.Math.max.name ∈ TB := TB_t 593 (by decide +kernel) rfl
theorem fl_X6_31 : Cond.fieldLink RX6 31 "CopyOrders$Orders" "allPairs" "I" ∈ TB := TB_t 621 (by decide +kernel) rfl
theorem ac_int : Cond.arrayClass (newarray.typeOf .int) ∈ TB := TB_t 72 (by decide +kernel) rfl
theorem ac_long : Cond.arrayClass (newarray.typeOf .long) ∈ TB := TB_t 652 (by decide +kernel) rfl
theorem fl_X6_44 : Cond.fieldLink RX6 44 "CopyOrders$Orders" "now" "[J" ∈ TB := TB_t 628 (by decide +kernel) rfl
theorem fl_X6_48 : Cond.fieldLink RX6 48 "CopyOrders$Orders" "later" "[J" ∈ TB := TB_t 630 (by decide +kernel) rfl
theorem fl_X6_51 : Cond.fieldLink RX6 51 "CopyOrders$Orders" "kept" "[J" ∈ TB := TB_t 631 (by decide +kernel) rfl
theorem cl_X6_54 : Cond.classLink RX6 54 "CopyOrders$Copy" ∈ TB := TB_t 599 (by decide +kernel) rfl
theorem ist_X1 : Cond.instantiable "CopyOrders$Copy" 6 ∈ TB := TB_t 73 (by decide +kernel) rfl
theorem cd_X1_init : Cond.code yX1_init cX1_init 1 none ∈ TB := TB_t 76 (by decide +kernel) rfl
theorem go_X1_init : GoodIn TB (wsO yX1_init cX1_init 1 none) := gO cd_X1_init
theorem nm_X6_56 : (RX6, 56, yX1_init, "CopyOrders") ∈ nestM := List.mem_of_getElem? (i := 6) rfl
theorem im_X1_init : Cond.instanceMethod yX1_init ∈ TB := TB_t 75 (by decide +kernel) rfl
theorem hd_X1_init : yX1_init.cls = "CopyOrders$Copy" ∧ yX1_init.cls ≠ "java/lang/invoke/MethodHandle" ∧ yX1_init.cls ≠ "java/lang/invoke/VarHandle" ∧ (parseMethodDescriptor yX1_init.desc).map (fun d => d.parameters.length) = some 0 := by decide +kernel
theorem fl_X11_36 : Cond.fieldLink RX11 36 "CopyOrders" "tables" "[LCopyOrders$Orders;" ∈ TB := TB_t 328 (by decide +kernel) rfl
theorem cl_X11_34 : Cond.classLink RX11 34 "CopyOrders$Orders" ∈ TB := TB_t 193 (by decide +kernel) rfl
theorem ist_X6 : Cond.instantiable "CopyOrders$Orders" 9 ∈ TB := TB_t 587 (by decide +kernel) rfl
theorem cd_X6_init : Cond.code yX6_init cX6_init 6 none ∈ TB := TB_t 590 (by decide +kernel) rfl
theorem go_X6_init : GoodIn TB (wsO yX6_init cX6_init 6 none) := gO cd_X6_init
theorem ml_X11_346 : Cond.methodLink RX11 346 yX6_init ∈ TB := TB_t 588 (by decide +kernel) rfl
theorem im_X6_init : Cond.instanceMethod yX6_init ∈ TB := TB_t 589 (by decide +kernel) rfl
theorem hd_X6_init : yX6_init.cls = "CopyOrders$Orders" ∧ yX6_init.cls ≠ "java/lang/invoke/MethodHandle" ∧ yX6_init.cls ≠ "java/lang/invoke/VarHandle" ∧ (parseMethodDescriptor yX6_init.desc).map (fun d => d.parameters.length) = some 1 := by decide +kernel
theorem ml_X6_122 : Cond.methodLink RX6 122 yX6_exchanged ∈ TB := TB_t 830 (by decide +kernel) rfl
theorem im_X6_exchanged : Cond.instanceMethod yX6_exchanged ∈ TB := TB_t 831 (by decide +kernel) rfl
theorem sl_X6_exchanged : Cond.selects "CopyOrders$Orders" yX6_exchanged yX6_exchanged ∈ TB := TB_t 832 (by decide +kernel) rfl
theorem cd_X6_exchanged : Cond.code yX6_exchanged cX6_exchanged 4 (some .int) ∈ TB := TB_t 833 (by decide +kernel) rfl
theorem gv_X6_122 : GoodIn TB (wsV RX6 122 "CopyOrders$Orders" yX6_exchanged (wsO yX6_exchanged cX6_exchanged 4 (some .int))) := gV ml_X6_122 im_X6_exchanged sl_X6_exchanged ini_CopyOrders_Orders cd_X6_exchanged
theorem hd_X6_exchanged : yX6_exchanged.cls = "CopyOrders$Orders" ∧ yX6_exchanged.cls ≠ "java/lang/invoke/MethodHandle" ∧ yX6_exchanged.cls ≠ "java/lang/invoke/VarHandle" ∧ (parseMethodDescriptor yX6_exchanged.desc).map (fun d => d.parameters.length) = some 2 := by decide +kernel
theorem ml_X6_101 : Cond.methodLink RX6 101 yX6_has ∈ TB := TB_t 825 (by decide +kernel) rfl
theorem im_X6_has : Cond.instanceMethod yX6_has ∈ TB := TB_t 654 (by decide +kernel) rfl
theorem sl_X6_has : Cond.selects "CopyOrders$Orders" yX6_has yX6_has ∈ TB := TB_t 655 (by decide +kernel) rfl
theorem cd_X6_has : Cond.code yX6_has cX6_has 2 (some .boolean) ∈ TB := TB_t 656 (by decide +kernel) rfl
theorem gv_X6_101 : GoodIn TB (wsV RX6 101 "CopyOrders$Orders" yX6_has (wsO yX6_has cX6_has 2 (some .boolean))) := gV ml_X6_101 im_X6_has sl_X6_has ini_CopyOrders_Orders cd_X6_has
theorem hd_X6_has : yX6_has.cls = "CopyOrders$Orders" ∧ yX6_has.cls ≠ "java/lang/invoke/MethodHandle" ∧ yX6_has.cls ≠ "java/lang/invoke/VarHandle" ∧ (parseMethodDescriptor yX6_has.desc).map (fun d => d.parameters.length) = some 1 := by decide +kernel
theorem ml_X6_95 : Cond.methodLink RX6 95 yJ7_fill_d0a16 ∈ TB := TB_t 822 (by decide +kernel) rfl
theorem stt_J7_fill_d0a16 : Cond.static yJ7_fill_d0a16 ∈ TB := TB_t 823 (by decide +kernel) rfl
theorem ini_java_util_Arrays : Cond.initialized "java/util/Arrays" ∈ TB := TB_t 8 (by decide +kernel) rfl
theorem cd_J7_fill_d0a16 : Cond.code yJ7_fill_d0a16 cJ7_fill_d0a16 5 none ∈ TB := TB_t 824 (by decide +kernel) rfl
theorem gs_X6_95 : GoodIn TB (va_wsS RX6 95 yJ7_fill_d0a16 (wsO yJ7_fill_d0a16 cJ7_fill_d0a16 5 none)) := gS ml_X6_95 stt_J7_fill_d0a16 ini_java_util_Arrays cd_J7_fill_d0a16
theorem hd_J7_fill_d0a16 : yJ7_fill_d0a16.cls = "java/util/Arrays" ∧ yJ7_fill_d0a16.cls ≠ "java/lang/invoke/MethodHandle" ∧ yJ7_fill_d0a16.cls ≠ "java/lang/invoke/VarHandle" ∧ (parseMethodDescriptor yJ7_fill_d0a16.desc).map (fun d => d.parameters.length) = some 2 := by decide +kernel
theorem ml_X6_105 : Cond.methodLink RX6 105 yX6_passOn ∈ TB := TB_t 826 (by decide +kernel) rfl
theorem im_X6_passOn : Cond.instanceMethod yX6_passOn ∈ TB := TB_t 828 (by decide +kernel) rfl
theorem sl_X6_passOn : Cond.selects "CopyOrders$Orders" yX6_passOn yX6_passOn ∈ TB := TB_s 24 (by decide +kernel) rfl
theorem cd_X6_passOn : Cond.code yX6_passOn cX6_passOn 5 none ∈ TB := TB_t 829 (by decide +kernel) rfl
theorem gv_X6_105 : GoodIn TB (wsV RX6 105 "CopyOrders$Orders" yX6_passOn (wsO yX6_passOn cX6_passOn 5 none)) := gV ml_X6_105 im_X6_passOn sl_X6_passOn ini_CopyOrders_Orders cd_X6_passOn
theorem hd_X6_passOn : yX6_passOn.cls = "CopyOrders$Orders" ∧ yX6_passOn.cls ≠ "java/lang/invoke/MethodHandle" ∧ yX6_passOn.cls ≠ "java/lang/invoke/VarHandle" ∧ (parseMethodDescriptor yX6_passOn.desc).map (fun d => d.parameters.length) = some 2 := by decide +kernel
theorem ml_X11_235 : Cond.methodLink RX11 235 yX11_isWithin ∈ TB := TB_t 814 (by decide +kernel) rfl
theorem stt_X11_isWithin : Cond.static yX11_isWithin ∈ TB := TB_t 815 (by decide +kernel) rfl
theorem cd_X11_isWithin : Cond.code yX11_isWithin cX11_isWithin 2 (some .boolean) ∈ TB := TB_t 816 (by decide +kernel) rfl
theorem gs_X11_235 : GoodIn TB (va_wsS RX11 235 yX11_isWithin (wsO yX11_isWithin cX11_isWithin 2 (some .boolean))) := gS ml_X11_235 stt_X11_isWithin ini_CopyOrders cd_X11_isWithin
theorem hd_X11_isWithin : yX11_isWithin.cls = "CopyOrders" ∧ yX11_isWithin.cls ≠ "java/lang/invoke/MethodHandle" ∧ yX11_isWithin.cls ≠ "java/lang/invoke/VarHandle" ∧ (parseMethodDescriptor yX11_isWithin.desc).map (fun d => d.parameters.length) = some 2 := by decide +kernel
theorem ml_X11_145 : Cond.methodLink RX11 145 yX11_orders ∈ TB := TB_t 583 (by decide +kernel) rfl
theorem im_X11_orders : Cond.instanceMethod yX11_orders ∈ TB := TB_t 585 (by decide +kernel) rfl
theorem sl_X11_orders : Cond.selects "CopyOrders" yX11_orders yX11_orders ∈ TB := TB_s 15 (by decide +kernel) rfl
theorem cd_X11_orders : Cond.code yX11_orders cX11_orders 2 (some (.object "CopyOrders$Orders")) ∈ TB := TB_t 586 (by decide +kernel) rfl
theorem gv_X11_145 : GoodIn TB (wsV RX11 145 "CopyOrders" yX11_orders (wsO yX11_orders cX11_orders 2 (some (.object "CopyOrders$Orders")))) := gV ml_X11_145 im_X11_orders sl_X11_orders ini_CopyOrders cd_X11_orders
theorem hd_X11_orders : yX11_orders.cls = "CopyOrders" ∧ yX11_orders.cls ≠ "java/lang/invoke/MethodHandle" ∧ yX11_orders.cls ≠ "java/lang/invoke/VarHandle" ∧ (parseMethodDescriptor yX11_orders.desc).map (fun d => d.parameters.length) = some 0 := by decide +kernel
theorem fl_X11_274 : Cond.fieldLink RX11 274 "CopyOrders" "LIKE_WEIGHTS" "[I" ∈ TB := TB_t 875 (by decide +kernel) rfl
theorem ml_X11_243 : Cond.methodLink RX11 243 yX6_spread ∈ TB := TB_t 818 (by decide +kernel) rfl
theorem im_X6_spread : Cond.instanceMethod yX6_spread ∈ TB := TB_t 819 (by decide +kernel) rfl
theorem sl_X6_spread : Cond.selects "CopyOrders$Orders" yX6_spread yX6_spread ∈ TB := TB_t 820 (by decide +kernel) rfl
theorem cd_X6_spread : Cond.code yX6_spread cX6_spread 6 none ∈ TB := TB_t 821 (by decide +kernel) rfl
theorem gv_X11_243 : GoodIn TB (wsV RX11 243 "CopyOrders$Orders" yX6_spread (wsO yX6_spread cX6_spread 6 none)) := gV ml_X11_243 im_X6_spread sl_X6_spread ini_CopyOrders_Orders cd_X6_spread
theorem hd_X6_spread : yX6_spread.cls = "CopyOrders$Orders" ∧ yX6_spread.cls ≠ "java/lang/invoke/MethodHandle" ∧ yX6_spread.cls ≠ "java/lang/invoke/VarHandle" ∧ (parseMethodDescriptor yX6_spread.desc).map (fun d => d.parameters.length) = some 3 := by decide +kernel
theorem fl_X11_247 : Cond.fieldLink RX11 247 "CopyOrders$Orders" "now" "[J" ∈ TB := TB_t 629 (by decide +kernel) rfl
theorem ml_X4_86 : Cond.methodLink RX4 86 yX4_copyAt ∈ TB := TB_t 701 (by decide +kernel) rfl
theorem im_X4_copyAt : Cond.instanceMethod yX4_copyAt ∈ TB := TB_t 565 (by decide +kernel) rfl
theorem sl_X4_copyAt : Cond.selects "CopyOrders$House" yX4_copyAt yX4_copyAt ∈ TB := TB_t 566 (by decide +kernel) rfl
theorem cd_X4_copyAt : Cond.code yX4_copyAt cX4_copyAt 2 (some (.object "CopyOrders$Copy")) ∈ TB := TB_t 567 (by decide +kernel) rfl
theorem gv_X4_86 : GoodIn TB (wsV RX4 86 "CopyOrders$House" yX4_copyAt (wsO yX4_copyAt cX4_copyAt 2 (some (.object "CopyOrders$Copy")))) := gV ml_X4_86 im_X4_copyAt sl_X4_copyAt ini_CopyOrders_House cd_X4_copyAt
theorem hd_X4_copyAt : yX4_copyAt.cls = "CopyOrders$House" ∧ yX4_copyAt.cls ≠ "java/lang/invoke/MethodHandle" ∧ yX4_copyAt.cls ≠ "java/lang/invoke/VarHandle" ∧ (parseMethodDescriptor yX4_copyAt.desc).map (fun d => d.parameters.length) = some 1 := by decide +kernel
theorem fl_X4_90 : Cond.fieldLink RX4 90 "CopyOrders$Copy" "length" "I" ∈ TB := TB_t 83 (by decide +kernel) rfl
theorem fl_X4_9 : Cond.fieldLink RX4 9 "CopyOrders$House" "lines" "I" ∈ TB := TB_t 136 (by decide +kernel) rfl
theorem kc_J6_265 : Cond.constant RJ6 265 (1431655765) ∈ TB := TB_t 669 (by decide +kernel) rfl
theorem kc_J6_266 : Cond.constant RJ6 266 (858993459) ∈ TB := TB_t 670 (by decide +kernel) rfl
theorem kc_J6_267 : Cond.constant RJ6 267 (252645135) ∈ TB := TB_t 671 (by decide +kernel) rfl
theorem fl_X6_76 : Cond.fieldLink RX6 76 "CopyOrders$Copy" "pairs" "I" ∈ TB := TB_t 94 (by decide +kernel) rfl
theorem ml_X6_79 : Cond.methodLink RX6 79 yJ6_bitCount_0f7a4 ∈ TB := TB_t 743 (by decide +kernel) rfl
theorem stt_J6_bitCount_0f7a4 : Cond.static yJ6_bitCount_0f7a4 ∈ TB := TB_t 667 (by decide +kernel) rfl
theorem ini_java_lang_Integer : Cond.initialized "java/lang/Integer" ∈ TB := TB_t 21 (by decide +kernel) rfl
theorem cd_J6_bitCount_0f7a4 : Cond.code yJ6_bitCount_0f7a4 cJ6_bitCount_0f7a4 1 (some .int) ∈ TB := TB_t 668 (by decide +kernel) rfl
theorem gs_X6_79 : GoodIn TB (va_wsS RX6 79 yJ6_bitCount_0f7a4 (wsO yJ6_bitCount_0f7a4 cJ6_bitCount_0f7a4 1 (some .int))) := gS ml_X6_79 stt_J6_bitCount_0f7a4 ini_java_lang_Integer cd_J6_bitCount_0f7a4
theorem hd_J6_bitCount_0f7a4 : yJ6_bitCount_0f7a4.cls = "java/lang/Integer" ∧ yJ6_bitCount_0f7a4.cls ≠ "java/lang/invoke/MethodHandle" ∧ yJ6_bitCount_0f7a4.cls ≠ "java/lang/invoke/VarHandle" ∧ (parseMethodDescriptor yJ6_bitCount_0f7a4.desc).map (fun d => d.parameters.length) = some 1 := by decide +kernel
theorem fl_X4_37 : Cond.fieldLink RX4 37 "CopyOrders$House" "gains" "[I" ∈ TB := TB_t 162 (by decide +kernel) rfl
theorem nm_X4_107 : (RX4, 107, yX11_lineOf, "CopyOrders") ∈ nestM := List.mem_of_getElem? (i := 9) rfl
theorem ml_X4_110 : Cond.methodLink RX4 110 yX4_gainOf ∈ TB := TB_t 916 (by decide +kernel) rfl
theorem im_X4_gainOf : Cond.instanceMethod yX4_gainOf ∈ TB := TB_t 545 (by decide +kernel) rfl
theorem sl_X4_gainOf : Cond.selects "CopyOrders$House" yX4_gainOf yX4_gainOf ∈ TB := TB_t 546 (by decide +kernel) rfl
theorem cd_X4_gainOf : Cond.code yX4_gainOf cX4_gainOf 4 (some .int) ∈ TB := TB_t 547 (by decide +kernel) rfl
theorem gv_X4_110 : GoodIn TB (wsV RX4 110 "CopyOrders$House" yX4_gainOf (wsO yX4_gainOf cX4_gainOf 4 (some .int))) := gV ml_X4_110 im_X4_gainOf sl_X4_gainOf ini_CopyOrders_House cd_X4_gainOf
theorem hd_X4_gainOf : yX4_gainOf.cls = "CopyOrders$House" ∧ yX4_gainOf.cls ≠ "java/lang/invoke/MethodHandle" ∧ yX4_gainOf.cls ≠ "java/lang/invoke/VarHandle" ∧ (parseMethodDescriptor yX4_gainOf.desc).map (fun d => d.parameters.length) = some 2 := by decide +kernel
theorem fl_X11_199 : Cond.fieldLink RX11 199 "CopyOrders$Orders" "total" "I" ∈ TB := TB_t 620 (by decide +kernel) rfl
theorem ml_X11_309 : Cond.methodLink RX11 309 yX6_stepsTo ∈ TB := TB_t 921 (by decide +kernel) rfl
theorem im_X6_stepsTo : Cond.instanceMethod yX6_stepsTo ∈ TB := TB_t 740 (by decide +kernel) rfl
theorem sl_X6_stepsTo : Cond.selects "CopyOrders$Orders" yX6_stepsTo yX6_stepsTo ∈ TB := TB_t 741 (by decide +kernel) rfl
theorem cd_X6_stepsTo : Cond.code yX6_stepsTo cX6_stepsTo 3 (some .int) ∈ TB := TB_t 742 (by decide +kernel) rfl
theorem gv_X11_309 : GoodIn TB (wsV RX11 309 "CopyOrders$Orders" yX6_stepsTo (wsO yX6_stepsTo cX6_stepsTo 3 (some .int))) := gV ml_X11_309 im_X6_stepsTo sl_X6_stepsTo ini_CopyOrders_Orders cd_X6_stepsTo
theorem hd_X6_stepsTo : yX6_stepsTo.cls = "CopyOrders$Orders" ∧ yX6_stepsTo.cls ≠ "java/lang/invoke/MethodHandle" ∧ yX6_stepsTo.cls ≠ "java/lang/invoke/VarHandle" ∧ (parseMethodDescriptor yX6_stepsTo.desc).map (fun d => d.parameters.length) = some 2 := by decide +kernel
theorem fl_X11_153 : Cond.fieldLink RX11 153 "CopyOrders$Orders" "packed" "[I" ∈ TB := TB_t 624 (by decide +kernel) rfl
theorem fl_X11_152 : Cond.fieldLink RX11 152 "CopyOrders$Orders" "lines" "I" ∈ TB := TB_t 618 (by decide +kernel) rfl
theorem ml_X11_306 : Cond.methodLink RX11 306 yX4_songOf ∈ TB := TB_t 911 (by decide +kernel) rfl
theorem im_X4_songOf : Cond.instanceMethod yX4_songOf ∈ TB := TB_t 912 (by decide +kernel) rfl
theorem sl_X4_songOf : Cond.selects "CopyOrders$House" yX4_songOf yX4_songOf ∈ TB := TB_t 913 (by decide +kernel) rfl
theorem cd_X4_songOf : Cond.code yX4_songOf cX4_songOf 5 (some .int) ∈ TB := TB_t 914 (by decide +kernel) rfl
theorem gv_X11_306 : GoodIn TB (wsV RX11 306 "CopyOrders$House" yX4_songOf (wsO yX4_songOf cX4_songOf 5 (some .int))) := gV ml_X11_306 im_X4_songOf sl_X4_songOf ini_CopyOrders_House cd_X4_songOf
theorem hd_X4_songOf : yX4_songOf.cls = "CopyOrders$House" ∧ yX4_songOf.cls ≠ "java/lang/invoke/MethodHandle" ∧ yX4_songOf.cls ≠ "java/lang/invoke/VarHandle" ∧ (parseMethodDescriptor yX4_songOf.desc).map (fun d => d.parameters.length) = some 2 := by decide +kernel
theorem ml_X11_178 : Cond.methodLink RX11 178 yX4_wholeAt ∈ TB := TB_t 697 (by decide +kernel) rfl
theorem im_X4_wholeAt : Cond.instanceMethod yX4_wholeAt ∈ TB := TB_t 698 (by decide +kernel) rfl
theorem sl_X4_wholeAt : Cond.selects "CopyOrders$House" yX4_wholeAt yX4_wholeAt ∈ TB := TB_t 699 (by decide +kernel) rfl
theorem cd_X4_wholeAt : Cond.code yX4_wholeAt cX4_wholeAt 3 (some (.object "CopyOrders$Copy")) ∈ TB := TB_t 700 (by decide +kernel) rfl
theorem gv_X11_178 : GoodIn TB (wsV RX11 178 "CopyOrders$House" yX4_wholeAt (wsO yX4_wholeAt cX4_wholeAt 3 (some (.object "CopyOrders$Copy")))) := gV ml_X11_178 im_X4_wholeAt sl_X4_wholeAt ini_CopyOrders_House cd_X4_wholeAt
theorem hd_X4_wholeAt : yX4_wholeAt.cls = "CopyOrders$House" ∧ yX4_wholeAt.cls ≠ "java/lang/invoke/MethodHandle" ∧ yX4_wholeAt.cls ≠ "java/lang/invoke/VarHandle" ∧ (parseMethodDescriptor yX4_wholeAt.desc).map (fun d => d.parameters.length) = some 1 := by decide +kernel
theorem ml_X1_38 : Cond.methodLink RX1 38 yJ6_bitCount_0f7a4 ∈ TB := TB_t 666 (by decide +kernel) rfl
theorem gs_X1_38 : GoodIn TB (va_wsS RX1 38 yJ6_bitCount_0f7a4 (wsO yJ6_bitCount_0f7a4 cJ6_bitCount_0f7a4 1 (some .int))) := gS ml_X1_38 stt_J6_bitCount_0f7a4 ini_java_lang_Integer cd_J6_bitCount_0f7a4
theorem ml_X1_44 : Cond.methodLink RX1 44 yX1_stepsTo ∈ TB := TB_t 680 (by decide +kernel) rfl
theorem im_X1_stepsTo : Cond.instanceMethod yX1_stepsTo ∈ TB := TB_t 663 (by decide +kernel) rfl
theorem sl_X1_stepsTo : Cond.selects "CopyOrders$Copy" yX1_stepsTo yX1_stepsTo ∈ TB := TB_t 664 (by decide +kernel) rfl
theorem cd_X1_stepsTo : Cond.code yX1_stepsTo cX1_stepsTo 2 (some .int) ∈ TB := TB_t 665 (by decide +kernel) rfl
theorem gv_X1_44 : GoodIn TB (wsV RX1 44 "CopyOrders$Copy" yX1_stepsTo (wsO yX1_stepsTo cX1_stepsTo 2 (some .int))) := gV ml_X1_44 im_X1_stepsTo sl_X1_stepsTo ini_CopyOrders_Copy cd_X1_stepsTo
theorem hd_X1_stepsTo : yX1_stepsTo.cls = "CopyOrders$Copy" ∧ yX1_stepsTo.cls ≠ "java/lang/invoke/MethodHandle" ∧ yX1_stepsTo.cls ≠ "java/lang/invoke/VarHandle" ∧ (parseMethodDescriptor yX1_stepsTo.desc).map (fun d => d.parameters.length) = some 1 := by decide +kernel
theorem ml_X1_48 : Cond.methodLink RX1 48 yX1_fallenTo ∈ TB := TB_t 681 (by decide +kernel) rfl
theorem im_X1_fallenTo : Cond.instanceMethod yX1_fallenTo ∈ TB := TB_t 673 (by decide +kernel) rfl
theorem sl_X1_fallenTo : Cond.selects "CopyOrders$Copy" yX1_fallenTo yX1_fallenTo ∈ TB := TB_t 674 (by decide +kernel) rfl
theorem cd_X1_fallenTo : Cond.code yX1_fallenTo cX1_fallenTo 2 (some .int) ∈ TB := TB_t 675 (by decide +kernel) rfl
theorem gv_X1_48 : GoodIn TB (wsV RX1 48 "CopyOrders$Copy" yX1_fallenTo (wsO yX1_fallenTo cX1_fallenTo 2 (some .int))) := gV ml_X1_48 im_X1_fallenTo sl_X1_fallenTo ini_CopyOrders_Copy cd_X1_fallenTo
theorem hd_X1_fallenTo : yX1_fallenTo.cls = "CopyOrders$Copy" ∧ yX1_fallenTo.cls ≠ "java/lang/invoke/MethodHandle" ∧ yX1_fallenTo.cls ≠ "java/lang/invoke/VarHandle" ∧ (parseMethodDescriptor yX1_fallenTo.desc).map (fun d => d.parameters.length) = some 1 := by decide +kernel
theorem ml_X11_105 : Cond.methodLink RX11 105 yX4_copyAt ∈ TB := TB_t 564 (by decide +kernel) rfl
theorem gv_X11_105 : GoodIn TB (wsV RX11 105 "CopyOrders$House" yX4_copyAt (wsO yX4_copyAt cX4_copyAt 2 (some (.object "CopyOrders$Copy")))) := gV ml_X11_105 im_X4_copyAt sl_X4_copyAt ini_CopyOrders_House cd_X4_copyAt
theorem ml_X11_155 : Cond.methodLink RX11 155 yX1_stepsTo ∈ TB := TB_t 662 (by decide +kernel) rfl
theorem gv_X11_155 : GoodIn TB (wsV RX11 155 "CopyOrders$Copy" yX1_stepsTo (wsO yX1_stepsTo cX1_stepsTo 2 (some .int))) := gV ml_X11_155 im_X1_stepsTo sl_X1_stepsTo ini_CopyOrders_Copy cd_X1_stepsTo
theorem ml_X11_159 : Cond.methodLink RX11 159 yX1_fallenTo ∈ TB := TB_t 672 (by decide +kernel) rfl
theorem gv_X11_159 : GoodIn TB (wsV RX11 159 "CopyOrders$Copy" yX1_fallenTo (wsO yX1_fallenTo cX1_fallenTo 2 (some .int))) := gV ml_X11_159 im_X1_fallenTo sl_X1_fallenTo ini_CopyOrders_Copy cd_X1_fallenTo
theorem ml_X11_162 : Cond.methodLink RX11 162 yX1_farTo ∈ TB := TB_t 676 (by decide +kernel) rfl
theorem im_X1_farTo : Cond.instanceMethod yX1_farTo ∈ TB := TB_t 677 (by decide +kernel) rfl
theorem sl_X1_farTo : Cond.selects "CopyOrders$Copy" yX1_farTo yX1_farTo ∈ TB := TB_t 678 (by decide +kernel) rfl
theorem cd_X1_farTo : Cond.code yX1_farTo cX1_farTo 2 (some .int) ∈ TB := TB_t 679 (by decide +kernel) rfl
theorem gv_X11_162 : GoodIn TB (wsV RX11 162 "CopyOrders$Copy" yX1_farTo (wsO yX1_farTo cX1_farTo 2 (some .int))) := gV ml_X11_162 im_X1_farTo sl_X1_farTo ini_CopyOrders_Copy cd_X1_farTo
theorem hd_X1_farTo : yX1_farTo.cls = "CopyOrders$Copy" ∧ yX1_farTo.cls ≠ "java/lang/invoke/MethodHandle" ∧ yX1_farTo.cls ≠ "java/lang/invoke/VarHandle" ∧ (parseMethodDescriptor yX1_farTo.desc).map (fun d => d.parameters.length) = some 1 := by decide +kernel
theorem fl_X11_165 : Cond.fieldLink RX11 165 "CopyOrders$House" "desks" "I" ∈ TB := TB_t 148 (by decide +kernel) rfl
theorem ml_X11_337 : Cond.methodLink RX11 337 yX11_factorial ∈ TB := TB_t 1065 (by decide +kernel) rfl
theorem gs_X11_337 : GoodIn TB (va_wsS RX11 337 yX11_factorial (wsO yX11_factorial cX11_factorial 1 (some .int))) := gS ml_X11_337 stt_X11_factorial ini_CopyOrders cd_X11_factorial
theorem fl_X11_340 : Cond.fieldLink RX11 340 "CopyOrders$House" "senses" "I" ∈ TB := TB_t 156 (by decide +kernel) rfl
theorem fl_X11_343 : Cond.fieldLink RX11 343 "CopyOrders$House" "rhymes" "I" ∈ TB := TB_t 161 (by decide +kernel) rfl
theorem fl_X4_27 : Cond.fieldLink RX4 27 "CopyOrders$House" "weights" "[I" ∈ TB := TB_t 151 (by decide +kernel) rfl
theorem kc_X11_267 : Cond.constant RX11 267 (1103515245) ∈ TB := TB_t 865 (by decide +kernel) rfl
theorem ml_X11_268 : Cond.methodLink RX11 268 yX4_placeDrawn ∈ TB := TB_t 866 (by decide +kernel) rfl
theorem im_X4_placeDrawn : Cond.instanceMethod yX4_placeDrawn ∈ TB := TB_t 867 (by decide +kernel) rfl
theorem sl_X4_placeDrawn : Cond.selects "CopyOrders$House" yX4_placeDrawn yX4_placeDrawn ∈ TB := TB_t 868 (by decide +kernel) rfl
theorem cd_X4_placeDrawn : Cond.code yX4_placeDrawn cX4_placeDrawn 4 (some .int) ∈ TB := TB_t 869 (by decide +kernel) rfl
theorem gv_X11_268 : GoodIn TB (wsV RX11 268 "CopyOrders$House" yX4_placeDrawn (wsO yX4_placeDrawn cX4_placeDrawn 4 (some .int))) := gV ml_X11_268 im_X4_placeDrawn sl_X4_placeDrawn ini_CopyOrders_House cd_X4_placeDrawn
theorem hd_X4_placeDrawn : yX4_placeDrawn.cls = "CopyOrders$House" ∧ yX4_placeDrawn.cls ≠ "java/lang/invoke/MethodHandle" ∧ yX4_placeDrawn.cls ≠ "java/lang/invoke/VarHandle" ∧ (parseMethodDescriptor yX4_placeDrawn.desc).map (fun d => d.parameters.length) = some 1 := by decide +kernel
theorem ml_X11_271 : Cond.methodLink RX11 271 yX6_exchanged ∈ TB := TB_t 870 (by decide +kernel) rfl
theorem gv_X11_271 : GoodIn TB (wsV RX11 271 "CopyOrders$Orders" yX6_exchanged (wsO yX6_exchanged cX6_exchanged 4 (some .int))) := gV ml_X11_271 im_X6_exchanged sl_X6_exchanged ini_CopyOrders_Orders cd_X6_exchanged
theorem ml_X11_264 : Cond.methodLink RX11 264 yX4_allWeights ∈ TB := TB_t 861 (by decide +kernel) rfl
theorem im_X4_allWeights : Cond.instanceMethod yX4_allWeights ∈ TB := TB_t 862 (by decide +kernel) rfl
theorem sl_X4_allWeights : Cond.selects "CopyOrders$House" yX4_allWeights yX4_allWeights ∈ TB := TB_t 863 (by decide +kernel) rfl
theorem cd_X4_allWeights : Cond.code yX4_allWeights cX4_allWeights 3 (some .int) ∈ TB := TB_t 864 (by decide +kernel) rfl
theorem gv_X11_264 : GoodIn TB (wsV RX11 264 "CopyOrders$House" yX4_allWeights (wsO yX4_allWeights cX4_allWeights 3 (some .int))) := gV ml_X11_264 im_X4_allWeights sl_X4_allWeights ini_CopyOrders_House cd_X4_allWeights
theorem hd_X4_allWeights : yX4_allWeights.cls = "CopyOrders$House" ∧ yX4_allWeights.cls ≠ "java/lang/invoke/MethodHandle" ∧ yX4_allWeights.cls ≠ "java/lang/invoke/VarHandle" ∧ (parseMethodDescriptor yX4_allWeights.desc).map (fun d => d.parameters.length) = some 0 := by decide +kernel
theorem ml_X11_149 : Cond.methodLink RX11 149 yX6_has ∈ TB := TB_t 653 (by decide +kernel) rfl
theorem gv_X11_149 : GoodIn TB (wsV RX11 149 "CopyOrders$Orders" yX6_has (wsO yX6_has cX6_has 2 (some .boolean))) := gV ml_X11_149 im_X6_has sl_X6_has ini_CopyOrders_Orders cd_X6_has
theorem ml_X6_84 : Cond.methodLink RX6 84 yX6_stepsTo ∈ TB := TB_t 739 (by decide +kernel) rfl
theorem gv_X6_84 : GoodIn TB (wsV RX6 84 "CopyOrders$Orders" yX6_stepsTo (wsO yX6_stepsTo cX6_stepsTo 3 (some .int))) := gV ml_X6_84 im_X6_stepsTo sl_X6_stepsTo ini_CopyOrders_Orders cd_X6_stepsTo
theorem fl_X11_325 : Cond.fieldLink RX11 325 "CopyOrders$House" "copyRows" "[LCopyOrders$Copy;" ∈ TB := TB_t 145 (by decide +kernel) rfl
theorem ml_X11_303 : Cond.methodLink RX11 303 yX6_farTo ∈ TB := TB_t 735 (by decide +kernel) rfl
theorem im_X6_farTo : Cond.instanceMethod yX6_farTo ∈ TB := TB_t 736 (by decide +kernel) rfl
theorem sl_X6_farTo : Cond.selects "CopyOrders$Orders" yX6_farTo yX6_farTo ∈ TB := TB_t 737 (by decide +kernel) rfl
theorem cd_X6_farTo : Cond.code yX6_farTo cX6_farTo 3 (some .int) ∈ TB := TB_t 738 (by decide +kernel) rfl
theorem gv_X11_303 : GoodIn TB (wsV RX11 303 "CopyOrders$Orders" yX6_farTo (wsO yX6_farTo cX6_farTo 3 (some .int))) := gV ml_X11_303 im_X6_farTo sl_X6_farTo ini_CopyOrders_Orders cd_X6_farTo
theorem hd_X6_farTo : yX6_farTo.cls = "CopyOrders$Orders" ∧ yX6_farTo.cls ≠ "java/lang/invoke/MethodHandle" ∧ yX6_farTo.cls ≠ "java/lang/invoke/VarHandle" ∧ (parseMethodDescriptor yX6_farTo.desc).map (fun d => d.parameters.length) = some 2 := by decide +kernel
theorem fl_X11_99 : Cond.fieldLink RX11 99 "CopyOrders" "latestFault" "I" ∈ TB := TB_t 334 (by decide +kernel) rfl
theorem ml_X11_80 : Cond.methodLink RX11 80 yX11_putNumber ∈ TB := TB_t 369 (by decide +kernel) rfl
theorem im_X11_putNumber : Cond.instanceMethod yX11_putNumber ∈ TB := TB_t 371 (by decide +kernel) rfl
theorem sl_X11_putNumber : Cond.selects "CopyOrders" yX11_putNumber yX11_putNumber ∈ TB := TB_s 0 (by decide +kernel) rfl
theorem cd_X11_putNumber : Cond.code yX11_putNumber cX11_putNumber 3 none ∈ TB := TB_t 372 (by decide +kernel) rfl
theorem gv_X11_80 : GoodIn TB (wsV RX11 80 "CopyOrders" yX11_putNumber (wsO yX11_putNumber cX11_putNumber 3 none)) := gV ml_X11_80 im_X11_putNumber sl_X11_putNumber ini_CopyOrders cd_X11_putNumber
theorem hd_X11_putNumber : yX11_putNumber.cls = "CopyOrders" ∧ yX11_putNumber.cls ≠ "java/lang/invoke/MethodHandle" ∧ yX11_putNumber.cls ≠ "java/lang/invoke/VarHandle" ∧ (parseMethodDescriptor yX11_putNumber.desc).map (fun d => d.parameters.length) = some 1 := by decide +kernel
theorem fl_X4_58 : Cond.fieldLink RX4 58 "CopyOrders$House" "desks" "I" ∈ TB := TB_t 146 (by decide +kernel) rfl
theorem fl_X4_23 : Cond.fieldLink RX4 23 "CopyOrders$House" "deskRows" "[LCopyOrders$Desk;" ∈ TB := TB_t 149 (by decide +kernel) rfl
theorem fl_X2_37 : Cond.fieldLink RX2 37 "CopyOrders$1" "$SwitchMap$CopyOrders$Word" "[I" ∈ TB := TB_t 691 (by decide +kernel) rfl
theorem fl_X2_15 : Cond.fieldLink RX2 15 "CopyOrders$Desk" "way" "LCopyOrders$Word;" ∈ TB := TB_t 119 (by decide +kernel) rfl
theorem u_X2 : ∀ w ∈ u_ws RX2 TX2 3, w ∈ TB := TB_all _ [126, 128, 130] (by decide +kernel) (by decide +kernel)
theorem or_X2_43 : Cond.methodLink RX2 43 ⟨"CopyOrders$Word", "ordinal", "()I"⟩ ∈ TB := TB_t 692 (by decide +kernel) rfl
theorem fl_X2_20 : Cond.fieldLink RX2 20 "CopyOrders$Desk" "limit" "I" ∈ TB := TB_t 121 (by decide +kernel) rfl
theorem ml_X11_181 : Cond.methodLink RX11 181 yX4_deskAt ∈ TB := TB_t 702 (by decide +kernel) rfl
theorem im_X4_deskAt : Cond.instanceMethod yX4_deskAt ∈ TB := TB_t 703 (by decide +kernel) rfl
theorem sl_X4_deskAt : Cond.selects "CopyOrders$House" yX4_deskAt yX4_deskAt ∈ TB := TB_t 704 (by decide +kernel) rfl
theorem cd_X4_deskAt : Cond.code yX4_deskAt cX4_deskAt 2 (some (.object "CopyOrders$Desk")) ∈ TB := TB_t 705 (by decide +kernel) rfl
theorem gv_X11_181 : GoodIn TB (wsV RX11 181 "CopyOrders$House" yX4_deskAt (wsO yX4_deskAt cX4_deskAt 2 (some (.object "CopyOrders$Desk")))) := gV ml_X11_181 im_X4_deskAt sl_X4_deskAt ini_CopyOrders_House cd_X4_deskAt
theorem hd_X4_deskAt : yX4_deskAt.cls = "CopyOrders$House" ∧ yX4_deskAt.cls ≠ "java/lang/invoke/MethodHandle" ∧ yX4_deskAt.cls ≠ "java/lang/invoke/VarHandle" ∧ (parseMethodDescriptor yX4_deskAt.desc).map (fun d => d.parameters.length) = some 1 := by decide +kernel
theorem ml_X11_185 : Cond.methodLink RX11 185 yX2_fewestFor ∈ TB := TB_t 706 (by decide +kernel) rfl
theorem im_X2_fewestFor : Cond.instanceMethod yX2_fewestFor ∈ TB := TB_t 707 (by decide +kernel) rfl
theorem sl_X2_fewestFor : Cond.selects "CopyOrders$Desk" yX2_fewestFor yX2_fewestFor ∈ TB := TB_t 708 (by decide +kernel) rfl
theorem ini_CopyOrders_Desk : Cond.initialized "CopyOrders$Desk" ∈ TB := TB_t 7 (by decide +kernel) rfl
theorem cd_X2_fewestFor : Cond.code yX2_fewestFor cX2_fewestFor 2 (some .int) ∈ TB := TB_t 709 (by decide +kernel) rfl
theorem gv_X11_185 : GoodIn TB (wsV RX11 185 "CopyOrders$Desk" yX2_fewestFor (wsO yX2_fewestFor cX2_fewestFor 2 (some .int))) := gV ml_X11_185 im_X2_fewestFor sl_X2_fewestFor ini_CopyOrders_Desk cd_X2_fewestFor
theorem hd_X2_fewestFor : yX2_fewestFor.cls = "CopyOrders$Desk" ∧ yX2_fewestFor.cls ≠ "java/lang/invoke/MethodHandle" ∧ yX2_fewestFor.cls ≠ "java/lang/invoke/VarHandle" ∧ (parseMethodDescriptor yX2_fewestFor.desc).map (fun d => d.parameters.length) = some 1 := by decide +kernel
theorem fl_X11_240 : Cond.fieldLink RX11 240 "CopyOrders$House" "weights" "[I" ∈ TB := TB_t 153 (by decide +kernel) rfl
theorem fl_X3_31 : Cond.fieldLink RX3 31 "CopyOrders$Family" "members" "I" ∈ TB := TB_t 298 (by decide +kernel) rfl
theorem u_X3 : ∀ w ∈ u_ws RX3 TX3 7, w ∈ TB := TB_all _ [306, 308, 310, 312, 314, 316, 318] (by decide +kernel) (by decide +kernel)
theorem fl_X3_15 : Cond.fieldLink RX3 15 "CopyOrders$Family" "sources" "[I" ∈ TB := TB_t 301 (by decide +kernel) rfl
theorem fl_X11_68 : Cond.fieldLink RX11 68 "CopyOrders" "family" "LCopyOrders$Family;" ∈ TB := TB_t 332 (by decide +kernel) rfl
theorem ml_X11_222 : Cond.methodLink RX11 222 yX3_sourceOf ∈ TB := TB_t 796 (by decide +kernel) rfl
theorem im_X3_sourceOf : Cond.instanceMethod yX3_sourceOf ∈ TB := TB_t 797 (by decide +kernel) rfl
theorem sl_X3_sourceOf : Cond.selects "CopyOrders$Family" yX3_sourceOf yX3_sourceOf ∈ TB := TB_t 798 (by decide +kernel) rfl
theorem ini_CopyOrders_Family : Cond.initialized "CopyOrders$Family" ∈ TB := TB_t 12 (by decide +kernel) rfl
theorem cd_X3_sourceOf : Cond.code yX3_sourceOf cX3_sourceOf 2 (some .int) ∈ TB := TB_t 799 (by decide +kernel) rfl
theorem gv_X11_222 : GoodIn TB (wsV RX11 222 "CopyOrders$Family" yX3_sourceOf (wsO yX3_sourceOf cX3_sourceOf 2 (some .int))) := gV ml_X11_222 im_X3_sourceOf sl_X3_sourceOf ini_CopyOrders_Family cd_X3_sourceOf
theorem hd_X3_sourceOf : yX3_sourceOf.cls = "CopyOrders$Family" ∧ yX3_sourceOf.cls ≠ "java/lang/invoke/MethodHandle" ∧ yX3_sourceOf.cls ≠ "java/lang/invoke/VarHandle" ∧ (parseMethodDescriptor yX3_sourceOf.desc).map (fun d => d.parameters.length) = some 1 := by decide +kernel
theorem ml_X6_115 : Cond.methodLink RX6 115 yX6_hasLikeMarks ∈ TB := TB_t 885 (by decide +kernel) rfl
theorem im_X6_hasLikeMarks : Cond.instanceMethod yX6_hasLikeMarks ∈ TB := TB_t 887 (by decide +kernel) rfl
theorem sl_X6_hasLikeMarks : Cond.selects "CopyOrders$Orders" yX6_hasLikeMarks yX6_hasLikeMarks ∈ TB := TB_s 25 (by decide +kernel) rfl
theorem cd_X6_hasLikeMarks : Cond.code yX6_hasLikeMarks cX6_hasLikeMarks 5 (some .boolean) ∈ TB := TB_t 888 (by decide +kernel) rfl
theorem gv_X6_115 : GoodIn TB (wsV RX6 115 "CopyOrders$Orders" yX6_hasLikeMarks (wsO yX6_hasLikeMarks cX6_hasLikeMarks 5 (some .boolean))) := gV ml_X6_115 im_X6_hasLikeMarks sl_X6_hasLikeMarks ini_CopyOrders_Orders cd_X6_hasLikeMarks
theorem hd_X6_hasLikeMarks : yX6_hasLikeMarks.cls = "CopyOrders$Orders" ∧ yX6_hasLikeMarks.cls ≠ "java/lang/invoke/MethodHandle" ∧ yX6_hasLikeMarks.cls ≠ "java/lang/invoke/VarHandle" ∧ (parseMethodDescriptor yX6_hasLikeMarks.desc).map (fun d => d.parameters.length) = some 2 := by decide +kernel
theorem fl_X11_72 : Cond.fieldLink RX11 72 "CopyOrders" "markRow" "[I" ∈ TB := TB_t 333 (by decide +kernel) rfl
theorem ml_X11_289 : Cond.methodLink RX11 289 yX6_marksHold ∈ TB := TB_t 881 (by decide +kernel) rfl
theorem im_X6_marksHold : Cond.instanceMethod yX6_marksHold ∈ TB := TB_t 882 (by decide +kernel) rfl
theorem sl_X6_marksHold : Cond.selects "CopyOrders$Orders" yX6_marksHold yX6_marksHold ∈ TB := TB_t 883 (by decide +kernel) rfl
theorem cd_X6_marksHold : Cond.code yX6_marksHold cX6_marksHold 4 (some .boolean) ∈ TB := TB_t 884 (by decide +kernel) rfl
theorem gv_X11_289 : GoodIn TB (wsV RX11 289 "CopyOrders$Orders" yX6_marksHold (wsO yX6_marksHold cX6_marksHold 4 (some .boolean))) := gV ml_X11_289 im_X6_marksHold sl_X6_marksHold ini_CopyOrders_Orders cd_X6_marksHold
theorem hd_X6_marksHold : yX6_marksHold.cls = "CopyOrders$Orders" ∧ yX6_marksHold.cls ≠ "java/lang/invoke/MethodHandle" ∧ yX6_marksHold.cls ≠ "java/lang/invoke/VarHandle" ∧ (parseMethodDescriptor yX6_marksHold.desc).map (fun d => d.parameters.length) = some 2 := by decide +kernel
theorem fl_X9_9 : Cond.fieldLink RX9 9 "CopyOrders$Word" "OTHER" "LCopyOrders$Word;" ∈ TB := TB_t 201 (by decide +kernel) rfl
theorem fl_X9_94 : Cond.fieldLink RX9 94 "CopyOrders$Word" "code" "J" ∈ TB := TB_t 1750 (by decide +kernel) rfl
theorem nf_X9_90 : (RX9, 90, RX11, "WORDS", "[LCopyOrders$Word;", "CopyOrders") ∈ nestF := List.mem_of_getElem? (i := 0) rfl
theorem fl_X9_30 : Cond.fieldLink RX9 30 "CopyOrders$Tokens" "length" "I" ∈ TB := TB_t 203 (by decide +kernel) rfl
theorem u_X9 : ∀ w ∈ u_ws RX9 TX9 12, w ∈ TB := TB_all _ [223, 225, 227, 229, 231, 233, 235, 237, 239, 241, 243, 245] (by decide +kernel) (by decide +kernel)
theorem fl_X9_20 : Cond.fieldLink RX9 20 "CopyOrders$Tokens" "text" "[B" ∈ TB := TB_t 202 (by decide +kernel) rfl
theorem ml_X9_69 : Cond.methodLink RX9 69 yX9_isLetter ∈ TB := TB_t 399 (by decide +kernel) rfl
theorem stt_X9_isLetter : Cond.static yX9_isLetter ∈ TB := TB_t 400 (by decide +kernel) rfl
theorem ini_CopyOrders_Tokens : Cond.initialized "CopyOrders$Tokens" ∈ TB := TB_t 9 (by decide +kernel) rfl
theorem cd_X9_isLetter : Cond.code yX9_isLetter cX9_isLetter 1 (some .boolean) ∈ TB := TB_t 401 (by decide +kernel) rfl
theorem gs_X9_69 : GoodIn TB (va_wsS RX9 69 yX9_isLetter (wsO yX9_isLetter cX9_isLetter 1 (some .boolean))) := gS ml_X9_69 stt_X9_isLetter ini_CopyOrders_Tokens cd_X9_isLetter
theorem hd_X9_isLetter : yX9_isLetter.cls = "CopyOrders$Tokens" ∧ yX9_isLetter.cls ≠ "java/lang/invoke/MethodHandle" ∧ yX9_isLetter.cls ≠ "java/lang/invoke/VarHandle" ∧ (parseMethodDescriptor yX9_isLetter.desc).map (fun d => d.parameters.length) = some 1 := by decide +kernel
theorem ml_X9_72 : Cond.methodLink RX9 72 yX9_isDigit ∈ TB := TB_t 402 (by decide +kernel) rfl
theorem stt_X9_isDigit : Cond.static yX9_isDigit ∈ TB := TB_t 403 (by decide +kernel) rfl
theorem cd_X9_isDigit : Cond.code yX9_isDigit cX9_isDigit 1 (some .boolean) ∈ TB := TB_t 404 (by decide +kernel) rfl
theorem gs_X9_72 : GoodIn TB (va_wsS RX9 72 yX9_isDigit (wsO yX9_isDigit cX9_isDigit 1 (some .boolean))) := gS ml_X9_72 stt_X9_isDigit ini_CopyOrders_Tokens cd_X9_isDigit
theorem hd_X9_isDigit : yX9_isDigit.cls = "CopyOrders$Tokens" ∧ yX9_isDigit.cls ≠ "java/lang/invoke/MethodHandle" ∧ yX9_isDigit.cls ≠ "java/lang/invoke/VarHandle" ∧ (parseMethodDescriptor yX9_isDigit.desc).map (fun d => d.parameters.length) = some 1 := by decide +kernel
theorem fl_X9_60 : Cond.fieldLink RX9 60 "CopyOrders$Tokens" "value" "I" ∈ TB := TB_t 218 (by decide +kernel) rfl
theorem fl_X9_56 : Cond.fieldLink RX9 56 "CopyOrders$Tokens" "code" "J" ∈ TB := TB_t 210 (by decide +kernel) rfl
theorem kc_X9_84 : Cond.constantLong RX9 84 (32) ∈ TB := TB_t 409 (by decide +kernel) rfl
theorem fl_X9_37 : Cond.fieldLink RX9 37 "CopyOrders$Tokens" "next" "I" ∈ TB := TB_t 206 (by decide +kernel) rfl
theorem fl_X9_66 : Cond.fieldLink RX9 66 "CopyOrders$Tokens" "kind" "I" ∈ TB := TB_t 209 (by decide +kernel) rfl
theorem ml_X9_86 : Cond.methodLink RX9 86 yX9_wordOf ∈ TB := TB_t 410 (by decide +kernel) rfl
theorem stt_X9_wordOf : Cond.static yX9_wordOf ∈ TB := TB_t 411 (by decide +kernel) rfl
theorem cd_X9_wordOf : Cond.code yX9_wordOf cX9_wordOf 6 (some (.object "CopyOrders$Word")) ∈ TB := TB_t 412 (by decide +kernel) rfl
theorem gs_X9_86 : GoodIn TB (va_wsS RX9 86 yX9_wordOf (wsO yX9_wordOf cX9_wordOf 6 (some (.object "CopyOrders$Word")))) := gS ml_X9_86 stt_X9_wordOf ini_CopyOrders_Tokens cd_X9_wordOf
theorem hd_X9_wordOf : yX9_wordOf.cls = "CopyOrders$Tokens" ∧ yX9_wordOf.cls ≠ "java/lang/invoke/MethodHandle" ∧ yX9_wordOf.cls ≠ "java/lang/invoke/VarHandle" ∧ (parseMethodDescriptor yX9_wordOf.desc).map (fun d => d.parameters.length) = some 1 := by decide +kernel
theorem fl_X9_15 : Cond.fieldLink RX9 15 "CopyOrders$Tokens" "keyword" "LCopyOrders$Word;" ∈ TB := TB_t 213 (by decide +kernel) rfl
theorem fl_X9_63 : Cond.fieldLink RX9 63 "CopyOrders$Tokens" "start" "I" ∈ TB := TB_t 205 (by decide +kernel) rfl
theorem fl_X9_53 : Cond.fieldLink RX9 53 "CopyOrders$Tokens" "sign" "I" ∈ TB := TB_t 216 (by decide +kernel) rfl
theorem ml_X9_49 : Cond.methodLink RX9 49 yX9_isBlank ∈ TB := TB_t 396 (by decide +kernel) rfl
theorem stt_X9_isBlank : Cond.static yX9_isBlank ∈ TB := TB_t 397 (by decide +kernel) rfl
theorem cd_X9_isBlank : Cond.code yX9_isBlank cX9_isBlank 1 (some .boolean) ∈ TB := TB_t 398 (by decide +kernel) rfl
theorem gs_X9_49 : GoodIn TB (va_wsS RX9 49 yX9_isBlank (wsO yX9_isBlank cX9_isBlank 1 (some .boolean))) := gS ml_X9_49 stt_X9_isBlank ini_CopyOrders_Tokens cd_X9_isBlank
theorem hd_X9_isBlank : yX9_isBlank.cls = "CopyOrders$Tokens" ∧ yX9_isBlank.cls ≠ "java/lang/invoke/MethodHandle" ∧ yX9_isBlank.cls ≠ "java/lang/invoke/VarHandle" ∧ (parseMethodDescriptor yX9_isBlank.desc).map (fun d => d.parameters.length) = some 1 := by decide +kernel
theorem ml_X9_75 : Cond.methodLink RX9 75 yX9_readRun ∈ TB := TB_t 405 (by decide +kernel) rfl
theorem im_X9_readRun : Cond.instanceMethod yX9_readRun ∈ TB := TB_t 407 (by decide +kernel) rfl
theorem sl_X9_readRun : Cond.selects "CopyOrders$Tokens" yX9_readRun yX9_readRun ∈ TB := TB_s 2 (by decide +kernel) rfl
theorem cd_X9_readRun : Cond.code yX9_readRun cX9_readRun 4 none ∈ TB := TB_t 408 (by decide +kernel) rfl
theorem gv_X9_75 : GoodIn TB (wsV RX9 75 "CopyOrders$Tokens" yX9_readRun (wsO yX9_readRun cX9_readRun 4 none)) := gV ml_X9_75 im_X9_readRun sl_X9_readRun ini_CopyOrders_Tokens cd_X9_readRun
theorem hd_X9_readRun : yX9_readRun.cls = "CopyOrders$Tokens" ∧ yX9_readRun.cls ≠ "java/lang/invoke/MethodHandle" ∧ yX9_readRun.cls ≠ "java/lang/invoke/VarHandle" ∧ (parseMethodDescriptor yX9_readRun.desc).map (fun d => d.parameters.length) = some 0 := by decide +kernel
theorem ml_X9_78 : Cond.methodLink RX9 78 yX9_readSign ∈ TB := TB_t 415 (by decide +kernel) rfl
theorem im_X9_readSign : Cond.instanceMethod yX9_readSign ∈ TB := TB_t 417 (by decide +kernel) rfl
theorem sl_X9_readSign : Cond.selects "CopyOrders$Tokens" yX9_readSign yX9_readSign ∈ TB := TB_s 3 (by decide +kernel) rfl
theorem cd_X9_readSign : Cond.code yX9_readSign cX9_readSign 3 none ∈ TB := TB_t 418 (by decide +kernel) rfl
theorem gv_X9_78 : GoodIn TB (wsV RX9 78 "CopyOrders$Tokens" yX9_readSign (wsO yX9_readSign cX9_readSign 3 none)) := gV ml_X9_78 im_X9_readSign sl_X9_readSign ini_CopyOrders_Tokens cd_X9_readSign
theorem hd_X9_readSign : yX9_readSign.cls = "CopyOrders$Tokens" ∧ yX9_readSign.cls ≠ "java/lang/invoke/MethodHandle" ∧ yX9_readSign.cls ≠ "java/lang/invoke/VarHandle" ∧ (parseMethodDescriptor yX9_readSign.desc).map (fun d => d.parameters.length) = some 0 := by decide +kernel
theorem fl_X9_34 : Cond.fieldLink RX9 34 "CopyOrders$Tokens" "room" "I" ∈ TB := TB_t 204 (by decide +kernel) rfl
theorem mx_X9_24 : Cond.methodLink RX9 24 Lib.Math.min.name ∈ TB := TB_t 389 (by decide +kernel) rfl
theorem fl_X9_40 : Cond.fieldLink RX9 40 "CopyOrders$Tokens" "faultKind" "I" ∈ TB := TB_t 219 (by decide +kernel) rfl
theorem fl_X9_43 : Cond.fieldLink RX9 43 "CopyOrders$Tokens" "faultPlace" "I" ∈ TB := TB_t 221 (by decide +kernel) rfl
theorem ml_X9_46 : Cond.methodLink RX9 46 yX9_advance ∈ TB := TB_t 392 (by decide +kernel) rfl
theorem im_X9_advance : Cond.instanceMethod yX9_advance ∈ TB := TB_t 393 (by decide +kernel) rfl
theorem sl_X9_advance : Cond.selects "CopyOrders$Tokens" yX9_advance yX9_advance ∈ TB := TB_t 394 (by decide +kernel) rfl
theorem cd_X9_advance : Cond.code yX9_advance cX9_advance 3 none ∈ TB := TB_t 395 (by decide +kernel) rfl
theorem gv_X9_46 : GoodIn TB (wsV RX9 46 "CopyOrders$Tokens" yX9_advance (wsO yX9_advance cX9_advance 3 none)) := gV ml_X9_46 im_X9_advance sl_X9_advance ini_CopyOrders_Tokens cd_X9_advance
theorem hd_X9_advance : yX9_advance.cls = "CopyOrders$Tokens" ∧ yX9_advance.cls ≠ "java/lang/invoke/MethodHandle" ∧ yX9_advance.cls ≠ "java/lang/invoke/VarHandle" ∧ (parseMethodDescriptor yX9_advance.desc).map (fun d => d.parameters.length) = some 0 := by decide +kernel
theorem fl_X7_34 : Cond.fieldLink RX7 34 "CopyOrders$Sentence" "length" "I" ∈ TB := TB_t 51 (by decide +kernel) rfl
theorem u_X7 : ∀ w ∈ u_ws RX7 TX7 6, w ∈ TB := TB_all _ [58, 60, 62, 64, 66, 68] (by decide +kernel) (by decide +kernel)
theorem ml_X4_49 : Cond.methodLink RX4 49 yJ7_fill_53178 ∈ TB := TB_t 133 (by decide +kernel) rfl
theorem stt_J7_fill_53178 : Cond.static yJ7_fill_53178 ∈ TB := TB_t 134 (by decide +kernel) rfl
theorem cd_J7_fill_53178 : Cond.code yJ7_fill_53178 cJ7_fill_53178 4 none ∈ TB := TB_t 135 (by decide +kernel) rfl
theorem gs_X4_49 : GoodIn TB (va_wsS RX4 49 yJ7_fill_53178 (wsO yJ7_fill_53178 cJ7_fill_53178 4 none)) := gS ml_X4_49 stt_J7_fill_53178 ini_java_util_Arrays cd_J7_fill_53178
theorem hd_J7_fill_53178 : yJ7_fill_53178.cls = "java/util/Arrays" ∧ yJ7_fill_53178.cls ≠ "java/lang/invoke/MethodHandle" ∧ yJ7_fill_53178.cls ≠ "java/lang/invoke/VarHandle" ∧ (parseMethodDescriptor yJ7_fill_53178.desc).map (fun d => d.parameters.length) = some 2 := by decide +kernel
theorem fl_X4_61 : Cond.fieldLink RX4 61 "CopyOrders$House" "senses" "I" ∈ TB := TB_t 154 (by decide +kernel) rfl
theorem fl_X4_64 : Cond.fieldLink RX4 64 "CopyOrders$House" "rhymes" "I" ∈ TB := TB_t 159 (by decide +kernel) rfl
theorem fl_X4_43 : Cond.fieldLink RX4 43 "CopyOrders$House" "sentence" "LCopyOrders$Sentence;" ∈ TB := TB_t 163 (by decide +kernel) rfl
theorem ml_X4_67 : Cond.methodLink RX4 67 yX7_clear ∈ TB := TB_t 427 (by decide +kernel) rfl
theorem im_X7_clear : Cond.instanceMethod yX7_clear ∈ TB := TB_t 428 (by decide +kernel) rfl
theorem sl_X7_clear : Cond.selects "CopyOrders$Sentence" yX7_clear yX7_clear ∈ TB := TB_t 429 (by decide +kernel) rfl
theorem ini_CopyOrders_Sentence : Cond.initialized "CopyOrders$Sentence" ∈ TB := TB_t 3 (by decide +kernel) rfl
theorem cd_X7_clear : Cond.code yX7_clear cX7_clear 1 none ∈ TB := TB_t 430 (by decide +kernel) rfl
theorem gv_X4_67 : GoodIn TB (wsV RX4 67 "CopyOrders$Sentence" yX7_clear (wsO yX7_clear cX7_clear 1 none)) := gV ml_X4_67 im_X7_clear sl_X7_clear ini_CopyOrders_Sentence cd_X7_clear
theorem hd_X7_clear : yX7_clear.cls = "CopyOrders$Sentence" ∧ yX7_clear.cls ≠ "java/lang/invoke/MethodHandle" ∧ yX7_clear.cls ≠ "java/lang/invoke/VarHandle" ∧ (parseMethodDescriptor yX7_clear.desc).map (fun d => d.parameters.length) = some 0 := by decide +kernel
theorem ml_X9_81 : Cond.methodLink RX9 81 yX9_fail ∈ TB := TB_t 456 (by decide +kernel) rfl
theorem im_X9_fail : Cond.instanceMethod yX9_fail ∈ TB := TB_t 448 (by decide +kernel) rfl
theorem sl_X9_fail : Cond.selects "CopyOrders$Tokens" yX9_fail yX9_fail ∈ TB := TB_t 449 (by decide +kernel) rfl
theorem cd_X9_fail : Cond.code yX9_fail cX9_fail 2 (some .boolean) ∈ TB := TB_t 450 (by decide +kernel) rfl
theorem gv_X9_81 : GoodIn TB (wsV RX9 81 "CopyOrders$Tokens" yX9_fail (wsO yX9_fail cX9_fail 2 (some .boolean))) := gV ml_X9_81 im_X9_fail sl_X9_fail ini_CopyOrders_Tokens cd_X9_fail
theorem hd_X9_fail : yX9_fail.cls = "CopyOrders$Tokens" ∧ yX9_fail.cls ≠ "java/lang/invoke/MethodHandle" ∧ yX9_fail.cls ≠ "java/lang/invoke/VarHandle" ∧ (parseMethodDescriptor yX9_fail.desc).map (fun d => d.parameters.length) = some 1 := by decide +kernel
theorem fl_X5_24 : Cond.fieldLink RX5 24 "CopyOrders$HouseReader" "linesClosed" "Z" ∈ TB := TB_t 256 (by decide +kernel) rfl
theorem u_X5 : ∀ w ∈ u_ws RX5 TX5 6, w ∈ TB := TB_all _ [260, 262, 264, 266, 268, 270] (by decide +kernel) (by decide +kernel)
theorem fl_X5_9 : Cond.fieldLink RX5 9 "CopyOrders$HouseReader" "tokens" "LCopyOrders$Tokens;" ∈ TB := TB_t 254 (by decide +kernel) rfl
theorem ml_X5_82 : Cond.methodLink RX5 82 yX9_advance ∈ TB := TB_t 451 (by decide +kernel) rfl
theorem gv_X5_82 : GoodIn TB (wsV RX5 82 "CopyOrders$Tokens" yX9_advance (wsO yX9_advance cX9_advance 3 none)) := gV ml_X5_82 im_X9_advance sl_X9_advance ini_CopyOrders_Tokens cd_X9_advance
theorem ml_X5_85 : Cond.methodLink RX5 85 yX9_numberHere ∈ TB := TB_t 452 (by decide +kernel) rfl
theorem im_X9_numberHere : Cond.instanceMethod yX9_numberHere ∈ TB := TB_t 453 (by decide +kernel) rfl
theorem sl_X9_numberHere : Cond.selects "CopyOrders$Tokens" yX9_numberHere yX9_numberHere ∈ TB := TB_t 454 (by decide +kernel) rfl
theorem cd_X9_numberHere : Cond.code yX9_numberHere cX9_numberHere 3 (some .int) ∈ TB := TB_t 455 (by decide +kernel) rfl
theorem gv_X5_85 : GoodIn TB (wsV RX5 85 "CopyOrders$Tokens" yX9_numberHere (wsO yX9_numberHere cX9_numberHere 3 (some .int))) := gV ml_X5_85 im_X9_numberHere sl_X9_numberHere ini_CopyOrders_Tokens cd_X9_numberHere
theorem hd_X9_numberHere : yX9_numberHere.cls = "CopyOrders$Tokens" ∧ yX9_numberHere.cls ≠ "java/lang/invoke/MethodHandle" ∧ yX9_numberHere.cls ≠ "java/lang/invoke/VarHandle" ∧ (parseMethodDescriptor yX9_numberHere.desc).map (fun d => d.parameters.length) = some 2 := by decide +kernel
theorem fl_X5_15 : Cond.fieldLink RX5 15 "CopyOrders$HouseReader" "house" "LCopyOrders$House;" ∈ TB := TB_t 255 (by decide +kernel) rfl
theorem fl_X5_89 : Cond.fieldLink RX5 89 "CopyOrders$House" "lines" "I" ∈ TB := TB_t 137 (by decide +kernel) rfl
theorem ml_X5_79 : Cond.methodLink RX5 79 yX9_fail ∈ TB := TB_t 447 (by decide +kernel) rfl
theorem gv_X5_79 : GoodIn TB (wsV RX5 79 "CopyOrders$Tokens" yX9_fail (wsO yX9_fail cX9_fail 2 (some .boolean))) := gV ml_X5_79 im_X9_fail sl_X9_fail ini_CopyOrders_Tokens cd_X9_fail
theorem fl_X4_94 : Cond.fieldLink RX4 94 "CopyOrders$Copy" "name" "J" ∈ TB := TB_t 80 (by decide +kernel) rfl
theorem fl_X4_98 : Cond.fieldLink RX4 98 "CopyOrders$Desk" "name" "J" ∈ TB := TB_t 125 (by decide +kernel) rfl
theorem ml_X4_99 : Cond.methodLink RX4 99 yX4_copyNamed ∈ TB := TB_t 481 (by decide +kernel) rfl
theorem im_X4_copyNamed : Cond.instanceMethod yX4_copyNamed ∈ TB := TB_t 482 (by decide +kernel) rfl
theorem sl_X4_copyNamed : Cond.selects "CopyOrders$House" yX4_copyNamed yX4_copyNamed ∈ TB := TB_t 483 (by decide +kernel) rfl
theorem cd_X4_copyNamed : Cond.code yX4_copyNamed cX4_copyNamed 4 (some .int) ∈ TB := TB_t 484 (by decide +kernel) rfl
theorem gv_X4_99 : GoodIn TB (wsV RX4 99 "CopyOrders$House" yX4_copyNamed (wsO yX4_copyNamed cX4_copyNamed 4 (some .int))) := gV ml_X4_99 im_X4_copyNamed sl_X4_copyNamed ini_CopyOrders_House cd_X4_copyNamed
theorem hd_X4_copyNamed : yX4_copyNamed.cls = "CopyOrders$House" ∧ yX4_copyNamed.cls ≠ "java/lang/invoke/MethodHandle" ∧ yX4_copyNamed.cls ≠ "java/lang/invoke/VarHandle" ∧ (parseMethodDescriptor yX4_copyNamed.desc).map (fun d => d.parameters.length) = some 1 := by decide +kernel
theorem ml_X5_140 : Cond.methodLink RX5 140 yX9_isName ∈ TB := TB_t 473 (by decide +kernel) rfl
theorem im_X9_isName : Cond.instanceMethod yX9_isName ∈ TB := TB_t 474 (by decide +kernel) rfl
theorem sl_X9_isName : Cond.selects "CopyOrders$Tokens" yX9_isName yX9_isName ∈ TB := TB_t 475 (by decide +kernel) rfl
theorem cd_X9_isName : Cond.code yX9_isName cX9_isName 1 (some .boolean) ∈ TB := TB_t 476 (by decide +kernel) rfl
theorem gv_X5_140 : GoodIn TB (wsV RX5 140 "CopyOrders$Tokens" yX9_isName (wsO yX9_isName cX9_isName 1 (some .boolean))) := gV ml_X5_140 im_X9_isName sl_X9_isName ini_CopyOrders_Tokens cd_X9_isName
theorem hd_X9_isName : yX9_isName.cls = "CopyOrders$Tokens" ∧ yX9_isName.cls ≠ "java/lang/invoke/MethodHandle" ∧ yX9_isName.cls ≠ "java/lang/invoke/VarHandle" ∧ (parseMethodDescriptor yX9_isName.desc).map (fun d => d.parameters.length) = some 0 := by decide +kernel
theorem fl_X5_99 : Cond.fieldLink RX5 99 "CopyOrders$Tokens" "code" "J" ∈ TB := TB_t 211 (by decide +kernel) rfl
theorem ml_X5_143 : Cond.methodLink RX5 143 yX4_isNamed ∈ TB := TB_t 477 (by decide +kernel) rfl
theorem im_X4_isNamed : Cond.instanceMethod yX4_isNamed ∈ TB := TB_t 478 (by decide +kernel) rfl
theorem sl_X4_isNamed : Cond.selects "CopyOrders$House" yX4_isNamed yX4_isNamed ∈ TB := TB_t 479 (by decide +kernel) rfl
theorem cd_X4_isNamed : Cond.code yX4_isNamed cX4_isNamed 4 (some .boolean) ∈ TB := TB_t 480 (by decide +kernel) rfl
theorem gv_X5_143 : GoodIn TB (wsV RX5 143 "CopyOrders$House" yX4_isNamed (wsO yX4_isNamed cX4_isNamed 4 (some .boolean))) := gV ml_X5_143 im_X4_isNamed sl_X4_isNamed ini_CopyOrders_House cd_X4_isNamed
theorem hd_X4_isNamed : yX4_isNamed.cls = "CopyOrders$House" ∧ yX4_isNamed.cls ≠ "java/lang/invoke/MethodHandle" ∧ yX4_isNamed.cls ≠ "java/lang/invoke/VarHandle" ∧ (parseMethodDescriptor yX4_isNamed.desc).map (fun d => d.parameters.length) = some 1 := by decide +kernel
theorem kc_X5_115 : Cond.constantLong RX5 115 (31) ∈ TB := TB_t 489 (by decide +kernel) rfl
theorem ml_X5_117 : Cond.methodLink RX5 117 yX1_hasLine ∈ TB := TB_t 490 (by decide +kernel) rfl
theorem gv_X5_117 : GoodIn TB (wsV RX5 117 "CopyOrders$Copy" yX1_hasLine (wsO yX1_hasLine cX1_hasLine 2 (some .boolean))) := gV ml_X5_117 im_X1_hasLine sl_X1_hasLine ini_CopyOrders_Copy cd_X1_hasLine
theorem ml_X5_120 : Cond.methodLink RX5 120 yX1_append ∈ TB := TB_t 494 (by decide +kernel) rfl
theorem gv_X5_120 : GoodIn TB (wsV RX5 120 "CopyOrders$Copy" yX1_append (wsO yX1_append cX1_append 5 none)) := gV ml_X5_120 im_X1_append sl_X1_append ini_CopyOrders_Copy cd_X1_append
theorem ml_X5_92 : Cond.methodLink RX5 92 yX4_nextCopy ∈ TB := TB_t 461 (by decide +kernel) rfl
theorem gv_X5_92 : GoodIn TB (wsV RX5 92 "CopyOrders$House" yX4_nextCopy (wsO yX4_nextCopy cX4_nextCopy 1 (some (.object "CopyOrders$Copy")))) := gV ml_X5_92 im_X4_nextCopy sl_X4_nextCopy ini_CopyOrders_House cd_X4_nextCopy
theorem ml_X5_96 : Cond.methodLink RX5 96 yX5_isFreshName ∈ TB := TB_t 469 (by decide +kernel) rfl
theorem im_X5_isFreshName : Cond.instanceMethod yX5_isFreshName ∈ TB := TB_t 471 (by decide +kernel) rfl
theorem sl_X5_isFreshName : Cond.selects "CopyOrders$HouseReader" yX5_isFreshName yX5_isFreshName ∈ TB := TB_s 7 (by decide +kernel) rfl
theorem ini_CopyOrders_HouseReader : Cond.initialized "CopyOrders$HouseReader" ∈ TB := TB_t 10 (by decide +kernel) rfl
theorem cd_X5_isFreshName : Cond.code yX5_isFreshName cX5_isFreshName 1 (some .boolean) ∈ TB := TB_t 472 (by decide +kernel) rfl
theorem gv_X5_96 : GoodIn TB (wsV RX5 96 "CopyOrders$HouseReader" yX5_isFreshName (wsO yX5_isFreshName cX5_isFreshName 1 (some .boolean))) := gV ml_X5_96 im_X5_isFreshName sl_X5_isFreshName ini_CopyOrders_HouseReader cd_X5_isFreshName
theorem hd_X5_isFreshName : yX5_isFreshName.cls = "CopyOrders$HouseReader" ∧ yX5_isFreshName.cls ≠ "java/lang/invoke/MethodHandle" ∧ yX5_isFreshName.cls ≠ "java/lang/invoke/VarHandle" ∧ (parseMethodDescriptor yX5_isFreshName.desc).map (fun d => d.parameters.length) = some 0 := by decide +kernel
theorem fl_X5_103 : Cond.fieldLink RX5 103 "CopyOrders$Copy" "name" "J" ∈ TB := TB_t 79 (by decide +kernel) rfl
theorem fl_X5_32 : Cond.fieldLink RX5 32 "CopyOrders$Tokens" "kind" "I" ∈ TB := TB_t 207 (by decide +kernel) rfl
theorem ml_X5_108 : Cond.methodLink RX5 108 yX5_spell ∈ TB := TB_t 485 (by decide +kernel) rfl
theorem im_X5_spell : Cond.instanceMethod yX5_spell ∈ TB := TB_t 487 (by decide +kernel) rfl
theorem sl_X5_spell : Cond.selects "CopyOrders$HouseReader" yX5_spell yX5_spell ∈ TB := TB_s 8 (by decide +kernel) rfl
theorem cd_X5_spell : Cond.code yX5_spell cX5_spell 4 (some .boolean) ∈ TB := TB_t 488 (by decide +kernel) rfl
theorem gv_X5_108 : GoodIn TB (wsV RX5 108 "CopyOrders$HouseReader" yX5_spell (wsO yX5_spell cX5_spell 4 (some .boolean))) := gV ml_X5_108 im_X5_spell sl_X5_spell ini_CopyOrders_HouseReader cd_X5_spell
theorem hd_X5_spell : yX5_spell.cls = "CopyOrders$HouseReader" ∧ yX5_spell.cls ≠ "java/lang/invoke/MethodHandle" ∧ yX5_spell.cls ≠ "java/lang/invoke/VarHandle" ∧ (parseMethodDescriptor yX5_spell.desc).map (fun d => d.parameters.length) = some 1 := by decide +kernel
theorem fl_X5_112 : Cond.fieldLink RX5 112 "CopyOrders$House" "copies" "I" ∈ TB := TB_t 142 (by decide +kernel) rfl
theorem fl_X5_137 : Cond.fieldLink RX5 137 "CopyOrders$House" "desks" "I" ∈ TB := TB_t 147 (by decide +kernel) rfl
theorem ml_X5_124 : Cond.methodLink RX5 124 yX4_nextDesk ∈ TB := TB_t 512 (by decide +kernel) rfl
theorem im_X4_nextDesk : Cond.instanceMethod yX4_nextDesk ∈ TB := TB_t 513 (by decide +kernel) rfl
theorem sl_X4_nextDesk : Cond.selects "CopyOrders$House" yX4_nextDesk yX4_nextDesk ∈ TB := TB_t 514 (by decide +kernel) rfl
theorem cd_X4_nextDesk : Cond.code yX4_nextDesk cX4_nextDesk 1 (some (.object "CopyOrders$Desk")) ∈ TB := TB_t 515 (by decide +kernel) rfl
theorem gv_X5_124 : GoodIn TB (wsV RX5 124 "CopyOrders$House" yX4_nextDesk (wsO yX4_nextDesk cX4_nextDesk 1 (some (.object "CopyOrders$Desk")))) := gV ml_X5_124 im_X4_nextDesk sl_X4_nextDesk ini_CopyOrders_House cd_X4_nextDesk
theorem hd_X4_nextDesk : yX4_nextDesk.cls = "CopyOrders$House" ∧ yX4_nextDesk.cls ≠ "java/lang/invoke/MethodHandle" ∧ yX4_nextDesk.cls ≠ "java/lang/invoke/VarHandle" ∧ (parseMethodDescriptor yX4_nextDesk.desc).map (fun d => d.parameters.length) = some 0 := by decide +kernel
theorem fl_X5_128 : Cond.fieldLink RX5 128 "CopyOrders$Desk" "name" "J" ∈ TB := TB_t 124 (by decide +kernel) rfl
theorem fl_X5_51 : Cond.fieldLink RX5 51 "CopyOrders$Tokens" "keyword" "LCopyOrders$Word;" ∈ TB := TB_t 214 (by decide +kernel) rfl
theorem fl_X5_131 : Cond.fieldLink RX5 131 "CopyOrders$Desk" "way" "LCopyOrders$Word;" ∈ TB := TB_t 120 (by decide +kernel) rfl
theorem fl_X5_45 : Cond.fieldLink RX5 45 "CopyOrders$1" "$SwitchMap$CopyOrders$Word" "[I" ∈ TB := TB_t 435 (by decide +kernel) rfl
theorem or_X5_55 : Cond.methodLink RX5 55 ⟨"CopyOrders$Word", "ordinal", "()I"⟩ ∈ TB := TB_t 437 (by decide +kernel) rfl
theorem fl_X5_134 : Cond.fieldLink RX5 134 "CopyOrders$Desk" "limit" "I" ∈ TB := TB_t 122 (by decide +kernel) rfl
theorem fl_X5_28 : Cond.fieldLink RX5 28 "CopyOrders$HouseReader" "placesTold" "I" ∈ TB := TB_t 257 (by decide +kernel) rfl
theorem fl_X5_147 : Cond.fieldLink RX5 147 "CopyOrders$House" "weights" "[I" ∈ TB := TB_t 152 (by decide +kernel) rfl
theorem ml_X5_180 : Cond.methodLink RX5 180 yX9_letterHere ∈ TB := TB_t 528 (by decide +kernel) rfl
theorem im_X9_letterHere : Cond.instanceMethod yX9_letterHere ∈ TB := TB_t 529 (by decide +kernel) rfl
theorem sl_X9_letterHere : Cond.selects "CopyOrders$Tokens" yX9_letterHere yX9_letterHere ∈ TB := TB_t 530 (by decide +kernel) rfl
theorem cd_X9_letterHere : Cond.code yX9_letterHere cX9_letterHere 2 (some .int) ∈ TB := TB_t 531 (by decide +kernel) rfl
theorem gv_X5_180 : GoodIn TB (wsV RX5 180 "CopyOrders$Tokens" yX9_letterHere (wsO yX9_letterHere cX9_letterHere 2 (some .int))) := gV ml_X5_180 im_X9_letterHere sl_X9_letterHere ini_CopyOrders_Tokens cd_X9_letterHere
theorem hd_X9_letterHere : yX9_letterHere.cls = "CopyOrders$Tokens" ∧ yX9_letterHere.cls ≠ "java/lang/invoke/MethodHandle" ∧ yX9_letterHere.cls ≠ "java/lang/invoke/VarHandle" ∧ (parseMethodDescriptor yX9_letterHere.desc).map (fun d => d.parameters.length) = some 1 := by decide +kernel
theorem fl_X5_156 : Cond.fieldLink RX5 156 "CopyOrders$HouseReader" "pairFirst" "I" ∈ TB := TB_t 258 (by decide +kernel) rfl
theorem fl_X5_159 : Cond.fieldLink RX5 159 "CopyOrders$HouseReader" "pairSecond" "I" ∈ TB := TB_t 259 (by decide +kernel) rfl
theorem fl_X4_31 : Cond.fieldLink RX4 31 "CopyOrders$House" "senseAhead" "[I" ∈ TB := TB_t 157 (by decide +kernel) rfl
theorem fl_X4_34 : Cond.fieldLink RX4 34 "CopyOrders$House" "senseBehind" "[I" ∈ TB := TB_t 158 (by decide +kernel) rfl
theorem fl_X5_150 : Cond.fieldLink RX5 150 "CopyOrders$House" "senses" "I" ∈ TB := TB_t 155 (by decide +kernel) rfl
theorem ml_X5_153 : Cond.methodLink RX5 153 yX5_readPair ∈ TB := TB_t 524 (by decide +kernel) rfl
theorem im_X5_readPair : Cond.instanceMethod yX5_readPair ∈ TB := TB_t 526 (by decide +kernel) rfl
theorem sl_X5_readPair : Cond.selects "CopyOrders$HouseReader" yX5_readPair yX5_readPair ∈ TB := TB_s 12 (by decide +kernel) rfl
theorem cd_X5_readPair : Cond.code yX5_readPair cX5_readPair 1 (some .boolean) ∈ TB := TB_t 527 (by decide +kernel) rfl
theorem gv_X5_153 : GoodIn TB (wsV RX5 153 "CopyOrders$HouseReader" yX5_readPair (wsO yX5_readPair cX5_readPair 1 (some .boolean))) := gV ml_X5_153 im_X5_readPair sl_X5_readPair ini_CopyOrders_HouseReader cd_X5_readPair
theorem hd_X5_readPair : yX5_readPair.cls = "CopyOrders$HouseReader" ∧ yX5_readPair.cls ≠ "java/lang/invoke/MethodHandle" ∧ yX5_readPair.cls ≠ "java/lang/invoke/VarHandle" ∧ (parseMethodDescriptor yX5_readPair.desc).map (fun d => d.parameters.length) = some 0 := by decide +kernel
theorem ml_X5_162 : Cond.methodLink RX5 162 yX4_hasSense ∈ TB := TB_t 532 (by decide +kernel) rfl
theorem im_X4_hasSense : Cond.instanceMethod yX4_hasSense ∈ TB := TB_t 533 (by decide +kernel) rfl
theorem sl_X4_hasSense : Cond.selects "CopyOrders$House" yX4_hasSense yX4_hasSense ∈ TB := TB_t 534 (by decide +kernel) rfl
theorem cd_X4_hasSense : Cond.code yX4_hasSense cX4_hasSense 4 (some .boolean) ∈ TB := TB_t 535 (by decide +kernel) rfl
theorem gv_X5_162 : GoodIn TB (wsV RX5 162 "CopyOrders$House" yX4_hasSense (wsO yX4_hasSense cX4_hasSense 4 (some .boolean))) := gV ml_X5_162 im_X4_hasSense sl_X4_hasSense ini_CopyOrders_House cd_X4_hasSense
theorem hd_X4_hasSense : yX4_hasSense.cls = "CopyOrders$House" ∧ yX4_hasSense.cls ≠ "java/lang/invoke/MethodHandle" ∧ yX4_hasSense.cls ≠ "java/lang/invoke/VarHandle" ∧ (parseMethodDescriptor yX4_hasSense.desc).map (fun d => d.parameters.length) = some 2 := by decide +kernel
theorem ml_X5_166 : Cond.methodLink RX5 166 yX4_putSense ∈ TB := TB_t 536 (by decide +kernel) rfl
theorem im_X4_putSense : Cond.instanceMethod yX4_putSense ∈ TB := TB_t 537 (by decide +kernel) rfl
theorem sl_X4_putSense : Cond.selects "CopyOrders$House" yX4_putSense yX4_putSense ∈ TB := TB_t 538 (by decide +kernel) rfl
theorem cd_X4_putSense : Cond.code yX4_putSense cX4_putSense 3 none ∈ TB := TB_t 539 (by decide +kernel) rfl
theorem gv_X5_166 : GoodIn TB (wsV RX5 166 "CopyOrders$House" yX4_putSense (wsO yX4_putSense cX4_putSense 3 none)) := gV ml_X5_166 im_X4_putSense sl_X4_putSense ini_CopyOrders_House cd_X4_putSense
theorem hd_X4_putSense : yX4_putSense.cls = "CopyOrders$House" ∧ yX4_putSense.cls ≠ "java/lang/invoke/MethodHandle" ∧ yX4_putSense.cls ≠ "java/lang/invoke/VarHandle" ∧ (parseMethodDescriptor yX4_putSense.desc).map (fun d => d.parameters.length) = some 2 := by decide +kernel
theorem fl_X5_170 : Cond.fieldLink RX5 170 "CopyOrders$House" "rhymes" "I" ∈ TB := TB_t 160 (by decide +kernel) rfl
theorem ml_X5_173 : Cond.methodLink RX5 173 yX4_gainOf ∈ TB := TB_t 544 (by decide +kernel) rfl
theorem gv_X5_173 : GoodIn TB (wsV RX5 173 "CopyOrders$House" yX4_gainOf (wsO yX4_gainOf cX4_gainOf 4 (some .int))) := gV ml_X5_173 im_X4_gainOf sl_X4_gainOf ini_CopyOrders_House cd_X4_gainOf
theorem ml_X5_176 : Cond.methodLink RX5 176 yX4_putRhyme ∈ TB := TB_t 548 (by decide +kernel) rfl
theorem im_X4_putRhyme : Cond.instanceMethod yX4_putRhyme ∈ TB := TB_t 549 (by decide +kernel) rfl
theorem sl_X4_putRhyme : Cond.selects "CopyOrders$House" yX4_putRhyme yX4_putRhyme ∈ TB := TB_t 550 (by decide +kernel) rfl
theorem cd_X4_putRhyme : Cond.code yX4_putRhyme cX4_putRhyme 5 none ∈ TB := TB_t 551 (by decide +kernel) rfl
theorem gv_X5_176 : GoodIn TB (wsV RX5 176 "CopyOrders$House" yX4_putRhyme (wsO yX4_putRhyme cX4_putRhyme 5 none)) := gV ml_X5_176 im_X4_putRhyme sl_X4_putRhyme ini_CopyOrders_House cd_X4_putRhyme
theorem hd_X4_putRhyme : yX4_putRhyme.cls = "CopyOrders$House" ∧ yX4_putRhyme.cls ≠ "java/lang/invoke/MethodHandle" ∧ yX4_putRhyme.cls ≠ "java/lang/invoke/VarHandle" ∧ (parseMethodDescriptor yX4_putRhyme.desc).map (fun d => d.parameters.length) = some 3 := by decide +kernel
theorem ml_X5_61 : Cond.methodLink RX5 61 yX5_readLines ∈ TB := TB_t 443 (by decide +kernel) rfl
theorem im_X5_readLines : Cond.instanceMethod yX5_readLines ∈ TB := TB_t 445 (by decide +kernel) rfl
theorem sl_X5_readLines : Cond.selects "CopyOrders$HouseReader" yX5_readLines yX5_readLines ∈ TB := TB_s 5 (by decide +kernel) rfl
theorem cd_X5_readLines : Cond.code yX5_readLines cX5_readLines 2 (some .boolean) ∈ TB := TB_t 446 (by decide +kernel) rfl
theorem gv_X5_61 : GoodIn TB (wsV RX5 61 "CopyOrders$HouseReader" yX5_readLines (wsO yX5_readLines cX5_readLines 2 (some .boolean))) := gV ml_X5_61 im_X5_readLines sl_X5_readLines ini_CopyOrders_HouseReader cd_X5_readLines
theorem hd_X5_readLines : yX5_readLines.cls = "CopyOrders$HouseReader" ∧ yX5_readLines.cls ≠ "java/lang/invoke/MethodHandle" ∧ yX5_readLines.cls ≠ "java/lang/invoke/VarHandle" ∧ (parseMethodDescriptor yX5_readLines.desc).map (fun d => d.parameters.length) = some 0 := by decide +kernel
theorem ml_X5_64 : Cond.methodLink RX5 64 yX5_readCopy ∈ TB := TB_t 457 (by decide +kernel) rfl
theorem im_X5_readCopy : Cond.instanceMethod yX5_readCopy ∈ TB := TB_t 459 (by decide +kernel) rfl
theorem sl_X5_readCopy : Cond.selects "CopyOrders$HouseReader" yX5_readCopy yX5_readCopy ∈ TB := TB_s 6 (by decide +kernel) rfl
theorem cd_X5_readCopy : Cond.code yX5_readCopy cX5_readCopy 2 (some .boolean) ∈ TB := TB_t 460 (by decide +kernel) rfl
theorem gv_X5_64 : GoodIn TB (wsV RX5 64 "CopyOrders$HouseReader" yX5_readCopy (wsO yX5_readCopy cX5_readCopy 2 (some .boolean))) := gV ml_X5_64 im_X5_readCopy sl_X5_readCopy ini_CopyOrders_HouseReader cd_X5_readCopy
theorem hd_X5_readCopy : yX5_readCopy.cls = "CopyOrders$HouseReader" ∧ yX5_readCopy.cls ≠ "java/lang/invoke/MethodHandle" ∧ yX5_readCopy.cls ≠ "java/lang/invoke/VarHandle" ∧ (parseMethodDescriptor yX5_readCopy.desc).map (fun d => d.parameters.length) = some 0 := by decide +kernel
theorem ml_X5_67 : Cond.methodLink RX5 67 yX5_readDesk ∈ TB := TB_t 508 (by decide +kernel) rfl
theorem im_X5_readDesk : Cond.instanceMethod yX5_readDesk ∈ TB := TB_t 510 (by decide +kernel) rfl
theorem sl_X5_readDesk : Cond.selects "CopyOrders$HouseReader" yX5_readDesk yX5_readDesk ∈ TB := TB_s 9 (by decide +kernel) rfl
theorem cd_X5_readDesk : Cond.code yX5_readDesk cX5_readDesk 2 (some .boolean) ∈ TB := TB_t 511 (by decide +kernel) rfl
theorem gv_X5_67 : GoodIn TB (wsV RX5 67 "CopyOrders$HouseReader" yX5_readDesk (wsO yX5_readDesk cX5_readDesk 2 (some .boolean))) := gV ml_X5_67 im_X5_readDesk sl_X5_readDesk ini_CopyOrders_HouseReader cd_X5_readDesk
theorem hd_X5_readDesk : yX5_readDesk.cls = "CopyOrders$HouseReader" ∧ yX5_readDesk.cls ≠ "java/lang/invoke/MethodHandle" ∧ yX5_readDesk.cls ≠ "java/lang/invoke/VarHandle" ∧ (parseMethodDescriptor yX5_readDesk.desc).map (fun d => d.parameters.length) = some 0 := by decide +kernel
theorem ml_X5_70 : Cond.methodLink RX5 70 yX5_readLikely ∈ TB := TB_t 516 (by decide +kernel) rfl
theorem im_X5_readLikely : Cond.instanceMethod yX5_readLikely ∈ TB := TB_t 518 (by decide +kernel) rfl
theorem sl_X5_readLikely : Cond.selects "CopyOrders$HouseReader" yX5_readLikely yX5_readLikely ∈ TB := TB_s 10 (by decide +kernel) rfl
theorem cd_X5_readLikely : Cond.code yX5_readLikely cX5_readLikely 3 (some .boolean) ∈ TB := TB_t 519 (by decide +kernel) rfl
theorem gv_X5_70 : GoodIn TB (wsV RX5 70 "CopyOrders$HouseReader" yX5_readLikely (wsO yX5_readLikely cX5_readLikely 3 (some .boolean))) := gV ml_X5_70 im_X5_readLikely sl_X5_readLikely ini_CopyOrders_HouseReader cd_X5_readLikely
theorem hd_X5_readLikely : yX5_readLikely.cls = "CopyOrders$HouseReader" ∧ yX5_readLikely.cls ≠ "java/lang/invoke/MethodHandle" ∧ yX5_readLikely.cls ≠ "java/lang/invoke/VarHandle" ∧ (parseMethodDescriptor yX5_readLikely.desc).map (fun d => d.parameters.length) = some 0 := by decide +kernel
theorem ml_X5_73 : Cond.methodLink RX5 73 yX5_readSense ∈ TB := TB_t 520 (by decide +kernel) rfl
theorem im_X5_readSense : Cond.instanceMethod yX5_readSense ∈ TB := TB_t 522 (by decide +kernel) rfl
theorem sl_X5_readSense : Cond.selects "CopyOrders$HouseReader" yX5_readSense yX5_readSense ∈ TB := TB_s 11 (by decide +kernel) rfl
theorem cd_X5_readSense : Cond.code yX5_readSense cX5_readSense 1 (some .boolean) ∈ TB := TB_t 523 (by decide +kernel) rfl
theorem gv_X5_73 : GoodIn TB (wsV RX5 73 "CopyOrders$HouseReader" yX5_readSense (wsO yX5_readSense cX5_readSense 1 (some .boolean))) := gV ml_X5_73 im_X5_readSense sl_X5_readSense ini_CopyOrders_HouseReader cd_X5_readSense
theorem hd_X5_readSense : yX5_readSense.cls = "CopyOrders$HouseReader" ∧ yX5_readSense.cls ≠ "java/lang/invoke/MethodHandle" ∧ yX5_readSense.cls ≠ "java/lang/invoke/VarHandle" ∧ (parseMethodDescriptor yX5_readSense.desc).map (fun d => d.parameters.length) = some 0 := by decide +kernel
theorem ml_X5_76 : Cond.methodLink RX5 76 yX5_readRhyme ∈ TB := TB_t 540 (by decide +kernel) rfl
theorem im_X5_readRhyme : Cond.instanceMethod yX5_readRhyme ∈ TB := TB_t 542 (by decide +kernel) rfl
theorem sl_X5_readRhyme : Cond.selects "CopyOrders$HouseReader" yX5_readRhyme yX5_readRhyme ∈ TB := TB_s 13 (by decide +kernel) rfl
theorem cd_X5_readRhyme : Cond.code yX5_readRhyme cX5_readRhyme 2 (some .boolean) ∈ TB := TB_t 543 (by decide +kernel) rfl
theorem gv_X5_76 : GoodIn TB (wsV RX5 76 "CopyOrders$HouseReader" yX5_readRhyme (wsO yX5_readRhyme cX5_readRhyme 2 (some .boolean))) := gV ml_X5_76 im_X5_readRhyme sl_X5_readRhyme ini_CopyOrders_HouseReader cd_X5_readRhyme
theorem hd_X5_readRhyme : yX5_readRhyme.cls = "CopyOrders$HouseReader" ∧ yX5_readRhyme.cls ≠ "java/lang/invoke/MethodHandle" ∧ yX5_readRhyme.cls ≠ "java/lang/invoke/VarHandle" ∧ (parseMethodDescriptor yX5_readRhyme.desc).map (fun d => d.parameters.length) = some 0 := by decide +kernel
theorem ml_X5_37 : Cond.methodLink RX5 37 yX5_readLine ∈ TB := TB_t 431 (by decide +kernel) rfl
theorem im_X5_readLine : Cond.instanceMethod yX5_readLine ∈ TB := TB_t 433 (by decide +kernel) rfl
theorem sl_X5_readLine : Cond.selects "CopyOrders$HouseReader" yX5_readLine yX5_readLine ∈ TB := TB_s 4 (by decide +kernel) rfl
theorem cd_X5_readLine : Cond.code yX5_readLine cX5_readLine 1 (some .boolean) ∈ TB := TB_t 434 (by decide +kernel) rfl
theorem gv_X5_37 : GoodIn TB (wsV RX5 37 "CopyOrders$HouseReader" yX5_readLine (wsO yX5_readLine cX5_readLine 1 (some .boolean))) := gV ml_X5_37 im_X5_readLine sl_X5_readLine ini_CopyOrders_HouseReader cd_X5_readLine
theorem hd_X5_readLine : yX5_readLine.cls = "CopyOrders$HouseReader" ∧ yX5_readLine.cls ≠ "java/lang/invoke/MethodHandle" ∧ yX5_readLine.cls ≠ "java/lang/invoke/VarHandle" ∧ (parseMethodDescriptor yX5_readLine.desc).map (fun d => d.parameters.length) = some 0 := by decide +kernel
theorem ml_X5_41 : Cond.methodLink RX5 41 yX9_passSign ∈ TB := TB_t 552 (by decide +kernel) rfl
theorem im_X9_passSign : Cond.instanceMethod yX9_passSign ∈ TB := TB_t 553 (by decide +kernel) rfl
theorem sl_X9_passSign : Cond.selects "CopyOrders$Tokens" yX9_passSign yX9_passSign ∈ TB := TB_t 554 (by decide +kernel) rfl
theorem cd_X9_passSign : Cond.code yX9_passSign cX9_passSign 2 (some .boolean) ∈ TB := TB_t 555 (by decide +kernel) rfl
theorem gv_X5_41 : GoodIn TB (wsV RX5 41 "CopyOrders$Tokens" yX9_passSign (wsO yX9_passSign cX9_passSign 2 (some .boolean))) := gV ml_X5_41 im_X9_passSign sl_X9_passSign ini_CopyOrders_Tokens cd_X9_passSign
theorem hd_X9_passSign : yX9_passSign.cls = "CopyOrders$Tokens" ∧ yX9_passSign.cls ≠ "java/lang/invoke/MethodHandle" ∧ yX9_passSign.cls ≠ "java/lang/invoke/VarHandle" ∧ (parseMethodDescriptor yX9_passSign.desc).map (fun d => d.parameters.length) = some 1 := by decide +kernel
theorem ml_X5_19 : Cond.methodLink RX5 19 yX4_clear ∈ TB := TB_t 423 (by decide +kernel) rfl
theorem im_X4_clear : Cond.instanceMethod yX4_clear ∈ TB := TB_t 424 (by decide +kernel) rfl
theorem sl_X4_clear : Cond.selects "CopyOrders$House" yX4_clear yX4_clear ∈ TB := TB_t 425 (by decide +kernel) rfl
theorem cd_X4_clear : Cond.code yX4_clear cX4_clear 1 none ∈ TB := TB_t 426 (by decide +kernel) rfl
theorem gv_X5_19 : GoodIn TB (wsV RX5 19 "CopyOrders$House" yX4_clear (wsO yX4_clear cX4_clear 1 none)) := gV ml_X5_19 im_X4_clear sl_X4_clear ini_CopyOrders_House cd_X4_clear
theorem hd_X4_clear : yX4_clear.cls = "CopyOrders$House" ∧ yX4_clear.cls ≠ "java/lang/invoke/MethodHandle" ∧ yX4_clear.cls ≠ "java/lang/invoke/VarHandle" ∧ (parseMethodDescriptor yX4_clear.desc).map (fun d => d.parameters.length) = some 0 := by decide +kernel
theorem fl_X11_45 : Cond.fieldLink RX11 45 "CopyOrders" "tokens" "LCopyOrders$Tokens;" ∈ TB := TB_t 329 (by decide +kernel) rfl
theorem ml_X11_88 : Cond.methodLink RX11 88 yX9_open ∈ TB := TB_t 385 (by decide +kernel) rfl
theorem im_X9_open : Cond.instanceMethod yX9_open ∈ TB := TB_t 386 (by decide +kernel) rfl
theorem sl_X9_open : Cond.selects "CopyOrders$Tokens" yX9_open yX9_open ∈ TB := TB_t 387 (by decide +kernel) rfl
theorem cd_X9_open : Cond.code yX9_open cX9_open 3 none ∈ TB := TB_t 388 (by decide +kernel) rfl
theorem gv_X11_88 : GoodIn TB (wsV RX11 88 "CopyOrders$Tokens" yX9_open (wsO yX9_open cX9_open 3 none)) := gV ml_X11_88 im_X9_open sl_X9_open ini_CopyOrders_Tokens cd_X9_open
theorem hd_X9_open : yX9_open.cls = "CopyOrders$Tokens" ∧ yX9_open.cls ≠ "java/lang/invoke/MethodHandle" ∧ yX9_open.cls ≠ "java/lang/invoke/VarHandle" ∧ (parseMethodDescriptor yX9_open.desc).map (fun d => d.parameters.length) = some 2 := by decide +kernel
theorem fl_X11_54 : Cond.fieldLink RX11 54 "CopyOrders" "houseReader" "LCopyOrders$HouseReader;" ∈ TB := TB_t 330 (by decide +kernel) rfl
theorem fl_X11_20 : Cond.fieldLink RX11 20 "CopyOrders" "draft" "LCopyOrders$House;" ∈ TB := TB_t 325 (by decide +kernel) rfl
theorem ml_X11_92 : Cond.methodLink RX11 92 yX5_read ∈ TB := TB_t 419 (by decide +kernel) rfl
theorem im_X5_read : Cond.instanceMethod yX5_read ∈ TB := TB_t 420 (by decide +kernel) rfl
theorem sl_X5_read : Cond.selects "CopyOrders$HouseReader" yX5_read yX5_read ∈ TB := TB_t 421 (by decide +kernel) rfl
theorem cd_X5_read : Cond.code yX5_read cX5_read 3 (some .int) ∈ TB := TB_t 422 (by decide +kernel) rfl
theorem gv_X11_92 : GoodIn TB (wsV RX11 92 "CopyOrders$HouseReader" yX5_read (wsO yX5_read cX5_read 3 (some .int))) := gV ml_X11_92 im_X5_read sl_X5_read ini_CopyOrders_HouseReader cd_X5_read
theorem hd_X5_read : yX5_read.cls = "CopyOrders$HouseReader" ∧ yX5_read.cls ≠ "java/lang/invoke/MethodHandle" ∧ yX5_read.cls ≠ "java/lang/invoke/VarHandle" ∧ (parseMethodDescriptor yX5_read.desc).map (fun d => d.parameters.length) = some 1 := by decide +kernel
theorem fl_X11_96 : Cond.fieldLink RX11 96 "CopyOrders$Tokens" "faultKind" "I" ∈ TB := TB_t 220 (by decide +kernel) rfl
theorem fl_X11_102 : Cond.fieldLink RX11 102 "CopyOrders$Tokens" "faultPlace" "I" ∈ TB := TB_t 222 (by decide +kernel) rfl
theorem fl_X7_13 : Cond.fieldLink RX7 13 "CopyOrders$Sentence" "kinds" "[LCopyOrders$Word;" ∈ TB := TB_t 53 (by decide +kernel) rfl
theorem fl_X7_30 : Cond.fieldLink RX7 30 "CopyOrders$Word" "OTHER" "LCopyOrders$Word;" ∈ TB := TB_t 49 (by decide +kernel) rfl
theorem ob_X7_3 : Cond.methodLink RX7 3 objectInit ∈ TB := TB_t 46 (by decide +kernel) rfl
theorem cl_X7_11 : Cond.classLink RX7 11 "CopyOrders$Word" ∈ TB := TB_t 47 (by decide +kernel) rfl
theorem fl_X7_17 : Cond.fieldLink RX7 17 "CopyOrders$Sentence" "first" "[I" ∈ TB := TB_t 54 (by decide +kernel) rfl
theorem fl_X7_21 : Cond.fieldLink RX7 21 "CopyOrders$Sentence" "second" "[I" ∈ TB := TB_t 55 (by decide +kernel) rfl
theorem fl_X7_24 : Cond.fieldLink RX7 24 "CopyOrders$Sentence" "signs" "[I" ∈ TB := TB_t 56 (by decide +kernel) rfl
theorem fl_X7_27 : Cond.fieldLink RX7 27 "CopyOrders$Sentence" "numbers" "[I" ∈ TB := TB_t 57 (by decide +kernel) rfl
theorem ob_X2_3 : Cond.methodLink RX2 3 objectInit ∈ TB := TB_t 116 (by decide +kernel) rfl
theorem fl_X2_9 : Cond.fieldLink RX2 9 "CopyOrders$Word" "SWAP" "LCopyOrders$Word;" ∈ TB := TB_t 117 (by decide +kernel) rfl
theorem cl_X4_15 : Cond.classLink RX4 15 "CopyOrders$Copy" ∈ TB := TB_t 37 (by decide +kernel) rfl
theorem nm_X4_47 : (RX4, 47, yX1_init, "CopyOrders") ∈ nestM := List.mem_of_getElem? (i := 0) rfl
theorem cl_X4_21 : Cond.classLink RX4 21 "CopyOrders$Desk" ∈ TB := TB_t 39 (by decide +kernel) rfl
theorem ist_X2 : Cond.instantiable "CopyOrders$Desk" 3 ∈ TB := TB_t 112 (by decide +kernel) rfl
theorem cd_X2_init : Cond.code yX2_init cX2_init 1 none ∈ TB := TB_t 115 (by decide +kernel) rfl
theorem go_X2_init : GoodIn TB (wsO yX2_init cX2_init 1 none) := gO cd_X2_init
theorem nm_X4_48 : (RX4, 48, yX2_init, "CopyOrders") ∈ nestM := List.mem_of_getElem? (i := 1) rfl
theorem im_X2_init : Cond.instanceMethod yX2_init ∈ TB := TB_t 114 (by decide +kernel) rfl
theorem hd_X2_init : yX2_init.cls = "CopyOrders$Desk" ∧ yX2_init.cls ≠ "java/lang/invoke/MethodHandle" ∧ yX2_init.cls ≠ "java/lang/invoke/VarHandle" ∧ (parseMethodDescriptor yX2_init.desc).map (fun d => d.parameters.length) = some 0 := by decide +kernel
theorem ob_X4_3 : Cond.methodLink RX4 3 objectInit ∈ TB := TB_t 36 (by decide +kernel) rfl
theorem cl_X4_40 : Cond.classLink RX4 40 "CopyOrders$Sentence" ∈ TB := TB_t 41 (by decide +kernel) rfl
theorem ist_X7 : Cond.instantiable "CopyOrders$Sentence" 6 ∈ TB := TB_t 42 (by decide +kernel) rfl
theorem cd_X7_init : Cond.code yX7_init cX7_init 2 none ∈ TB := TB_t 45 (by decide +kernel) rfl
theorem go_X7_init : GoodIn TB (wsO yX7_init cX7_init 2 none) := gO cd_X7_init
theorem ml_X4_42 : Cond.methodLink RX4 42 yX7_init ∈ TB := TB_t 43 (by decide +kernel) rfl
theorem im_X7_init : Cond.instanceMethod yX7_init ∈ TB := TB_t 44 (by decide +kernel) rfl
theorem hd_X7_init : yX7_init.cls = "CopyOrders$Sentence" ∧ yX7_init.cls ≠ "java/lang/invoke/MethodHandle" ∧ yX7_init.cls ≠ "java/lang/invoke/VarHandle" ∧ (parseMethodDescriptor yX7_init.desc).map (fun d => d.parameters.length) = some 0 := by decide +kernel
theorem fl_X2_24 : Cond.fieldLink RX2 24 "CopyOrders$Desk" "name" "J" ∈ TB := TB_t 123 (by decide +kernel) rfl
theorem ml_X4_70 : Cond.methodLink RX4 70 yX1_become ∈ TB := TB_t 1044 (by decide +kernel) rfl
theorem im_X1_become : Cond.instanceMethod yX1_become ∈ TB := TB_t 1045 (by decide +kernel) rfl
theorem sl_X1_become : Cond.selects "CopyOrders$Copy" yX1_become yX1_become ∈ TB := TB_t 1046 (by decide +kernel) rfl
theorem cd_X1_become : Cond.code yX1_become cX1_become 2 none ∈ TB := TB_t 1047 (by decide +kernel) rfl
theorem gv_X4_70 : GoodIn TB (wsV RX4 70 "CopyOrders$Copy" yX1_become (wsO yX1_become cX1_become 2 none)) := gV ml_X4_70 im_X1_become sl_X1_become ini_CopyOrders_Copy cd_X1_become
theorem hd_X1_become : yX1_become.cls = "CopyOrders$Copy" ∧ yX1_become.cls ≠ "java/lang/invoke/MethodHandle" ∧ yX1_become.cls ≠ "java/lang/invoke/VarHandle" ∧ (parseMethodDescriptor yX1_become.desc).map (fun d => d.parameters.length) = some 1 := by decide +kernel
theorem ml_X4_74 : Cond.methodLink RX4 74 yX2_become ∈ TB := TB_t 1048 (by decide +kernel) rfl
theorem im_X2_become : Cond.instanceMethod yX2_become ∈ TB := TB_t 1049 (by decide +kernel) rfl
theorem sl_X2_become : Cond.selects "CopyOrders$Desk" yX2_become yX2_become ∈ TB := TB_t 1050 (by decide +kernel) rfl
theorem cd_X2_become : Cond.code yX2_become cX2_become 2 none ∈ TB := TB_t 1051 (by decide +kernel) rfl
theorem gv_X4_74 : GoodIn TB (wsV RX4 74 "CopyOrders$Desk" yX2_become (wsO yX2_become cX2_become 2 none)) := gV ml_X4_74 im_X2_become sl_X2_become ini_CopyOrders_Desk cd_X2_become
theorem hd_X2_become : yX2_become.cls = "CopyOrders$Desk" ∧ yX2_become.cls ≠ "java/lang/invoke/MethodHandle" ∧ yX2_become.cls ≠ "java/lang/invoke/VarHandle" ∧ (parseMethodDescriptor yX2_become.desc).map (fun d => d.parameters.length) = some 1 := by decide +kernel
theorem cp_X4_77 : Cond.methodLink RX4 77 arraycopyName ∈ TB := TB_t 1052 (by decide +kernel) rfl
theorem ml_X4_83 : Cond.methodLink RX4 83 yX7_become ∈ TB := TB_t 1053 (by decide +kernel) rfl
theorem im_X7_become : Cond.instanceMethod yX7_become ∈ TB := TB_t 1054 (by decide +kernel) rfl
theorem sl_X7_become : Cond.selects "CopyOrders$Sentence" yX7_become yX7_become ∈ TB := TB_t 1055 (by decide +kernel) rfl
theorem cd_X7_become : Cond.code yX7_become cX7_become 3 none ∈ TB := TB_t 1056 (by decide +kernel) rfl
theorem gv_X4_83 : GoodIn TB (wsV RX4 83 "CopyOrders$Sentence" yX7_become (wsO yX7_become cX7_become 3 none)) := gV ml_X4_83 im_X7_become sl_X7_become ini_CopyOrders_Sentence cd_X7_become
theorem hd_X7_become : yX7_become.cls = "CopyOrders$Sentence" ∧ yX7_become.cls ≠ "java/lang/invoke/MethodHandle" ∧ yX7_become.cls ≠ "java/lang/invoke/VarHandle" ∧ (parseMethodDescriptor yX7_become.desc).map (fun d => d.parameters.length) = some 1 := by decide +kernel
theorem fl_X11_30 : Cond.fieldLink RX11 30 "CopyOrders" "images" "[LCopyOrders$House;" ∈ TB := TB_t 327 (by decide +kernel) rfl
theorem ml_X11_333 : Cond.methodLink RX11 333 yX4_become ∈ TB := TB_t 1040 (by decide +kernel) rfl
theorem im_X4_become : Cond.instanceMethod yX4_become ∈ TB := TB_t 1041 (by decide +kernel) rfl
theorem sl_X4_become : Cond.selects "CopyOrders$House" yX4_become yX4_become ∈ TB := TB_t 1042 (by decide +kernel) rfl
theorem cd_X4_become : Cond.code yX4_become cX4_become 3 none ∈ TB := TB_t 1043 (by decide +kernel) rfl
theorem gv_X11_333 : GoodIn TB (wsV RX11 333 "CopyOrders$House" yX4_become (wsO yX4_become cX4_become 3 none)) := gV ml_X11_333 im_X4_become sl_X4_become ini_CopyOrders_House cd_X4_become
theorem hd_X4_become : yX4_become.cls = "CopyOrders$House" ∧ yX4_become.cls ≠ "java/lang/invoke/MethodHandle" ∧ yX4_become.cls ≠ "java/lang/invoke/VarHandle" ∧ (parseMethodDescriptor yX4_become.desc).map (fun d => d.parameters.length) = some 1 := by decide +kernel
theorem cl_X11_13 : Cond.classLink RX11 13 "CopyOrders$House" ∈ TB := TB_t 31 (by decide +kernel) rfl
theorem ist_X4 : Cond.instantiable "CopyOrders$House" 12 ∈ TB := TB_t 32 (by decide +kernel) rfl
theorem cd_X4_init : Cond.code yX4_init cX4_init 2 none ∈ TB := TB_t 35 (by decide +kernel) rfl
theorem go_X4_init : GoodIn TB (wsO yX4_init cX4_init 2 none) := gO cd_X4_init
theorem ml_X11_15 : Cond.methodLink RX11 15 yX4_init ∈ TB := TB_t 33 (by decide +kernel) rfl
theorem im_X4_init : Cond.instanceMethod yX4_init ∈ TB := TB_t 34 (by decide +kernel) rfl
theorem hd_X4_init : yX4_init.cls = "CopyOrders$House" ∧ yX4_init.cls ≠ "java/lang/invoke/MethodHandle" ∧ yX4_init.cls ≠ "java/lang/invoke/VarHandle" ∧ (parseMethodDescriptor yX4_init.desc).map (fun d => d.parameters.length) = some 0 := by decide +kernel
theorem ob_X9_3 : Cond.methodLink RX9 3 objectInit ∈ TB := TB_t 200 (by decide +kernel) rfl
theorem ob_X5_3 : Cond.methodLink RX5 3 objectInit ∈ TB := TB_t 253 (by decide +kernel) rfl
theorem ob_X8_3 : Cond.methodLink RX8 3 objectInit ∈ TB := TB_t 278 (by decide +kernel) rfl
theorem fl_X8_9 : Cond.fieldLink RX8 9 "CopyOrders$SentenceReader" "tokens" "LCopyOrders$Tokens;" ∈ TB := TB_t 279 (by decide +kernel) rfl
theorem u_X8 : ∀ w ∈ u_ws RX8 TX8 4, w ∈ TB := TB_all _ [283, 285, 287, 289] (by decide +kernel) (by decide +kernel)
theorem ob_X3_3 : Cond.methodLink RX3 3 objectInit ∈ TB := TB_t 297 (by decide +kernel) rfl
theorem fl_X3_11 : Cond.fieldLink RX3 11 "CopyOrders$Family" "numbers" "[I" ∈ TB := TB_t 300 (by decide +kernel) rfl
theorem fl_X3_18 : Cond.fieldLink RX3 18 "CopyOrders$Family" "fars" "[I" ∈ TB := TB_t 302 (by decide +kernel) rfl
theorem fl_X3_21 : Cond.fieldLink RX3 21 "CopyOrders$Family" "closest" "[I" ∈ TB := TB_t 303 (by decide +kernel) rfl
theorem fl_X3_24 : Cond.fieldLink RX3 24 "CopyOrders$Family" "gap" "[I" ∈ TB := TB_t 304 (by decide +kernel) rfl
theorem ac_boolean : Cond.arrayClass (newarray.typeOf .boolean) ∈ TB := TB_t 321 (by decide +kernel) rfl
theorem fl_X3_27 : Cond.fieldLink RX3 27 "CopyOrders$Family" "joined" "[Z" ∈ TB := TB_t 305 (by decide +kernel) rfl
theorem ob_X11_1 : Cond.methodLink RX11 1 objectInit ∈ TB := TB_t 28 (by decide +kernel) rfl
theorem ac_byte : Cond.arrayClass (newarray.typeOf .byte) ∈ TB := TB_t 71 (by decide +kernel) rfl
theorem cl_X11_23 : Cond.classLink RX11 23 "CopyOrders$Sentence" ∈ TB := TB_t 190 (by decide +kernel) rfl
theorem ml_X11_25 : Cond.methodLink RX11 25 yX7_init ∈ TB := TB_t 191 (by decide +kernel) rfl
theorem fl_X11_26 : Cond.fieldLink RX11 26 "CopyOrders" "draftSentence" "LCopyOrders$Sentence;" ∈ TB := TB_t 326 (by decide +kernel) rfl
theorem cl_X11_40 : Cond.classLink RX11 40 "CopyOrders$Tokens" ∈ TB := TB_t 195 (by decide +kernel) rfl
theorem ist_X9 : Cond.instantiable "CopyOrders$Tokens" 12 ∈ TB := TB_t 196 (by decide +kernel) rfl
theorem cd_X9_init : Cond.code yX9_init cX9_init 2 none ∈ TB := TB_t 199 (by decide +kernel) rfl
theorem go_X9_init : GoodIn TB (wsO yX9_init cX9_init 2 none) := gO cd_X9_init
theorem ml_X11_42 : Cond.methodLink RX11 42 yX9_init ∈ TB := TB_t 197 (by decide +kernel) rfl
theorem im_X9_init : Cond.instanceMethod yX9_init ∈ TB := TB_t 198 (by decide +kernel) rfl
theorem hd_X9_init : yX9_init.cls = "CopyOrders$Tokens" ∧ yX9_init.cls ≠ "java/lang/invoke/MethodHandle" ∧ yX9_init.cls ≠ "java/lang/invoke/VarHandle" ∧ (parseMethodDescriptor yX9_init.desc).map (fun d => d.parameters.length) = some 1 := by decide +kernel
theorem cl_X11_49 : Cond.classLink RX11 49 "CopyOrders$HouseReader" ∈ TB := TB_t 248 (by decide +kernel) rfl
theorem ist_X5 : Cond.instantiable "CopyOrders$HouseReader" 6 ∈ TB := TB_t 249 (by decide +kernel) rfl
theorem cd_X5_init : Cond.code yX5_init cX5_init 2 none ∈ TB := TB_t 252 (by decide +kernel) rfl
theorem go_X5_init : GoodIn TB (wsO yX5_init cX5_init 2 none) := gO cd_X5_init
theorem ml_X11_51 : Cond.methodLink RX11 51 yX5_init ∈ TB := TB_t 250 (by decide +kernel) rfl
theorem im_X5_init : Cond.instanceMethod yX5_init ∈ TB := TB_t 251 (by decide +kernel) rfl
theorem hd_X5_init : yX5_init.cls = "CopyOrders$HouseReader" ∧ yX5_init.cls ≠ "java/lang/invoke/MethodHandle" ∧ yX5_init.cls ≠ "java/lang/invoke/VarHandle" ∧ (parseMethodDescriptor yX5_init.desc).map (fun d => d.parameters.length) = some 1 := by decide +kernel
theorem cl_X11_58 : Cond.classLink RX11 58 "CopyOrders$SentenceReader" ∈ TB := TB_t 273 (by decide +kernel) rfl
theorem ist_X8 : Cond.instantiable "CopyOrders$SentenceReader" 4 ∈ TB := TB_t 274 (by decide +kernel) rfl
theorem ini_CopyOrders_SentenceReader : Cond.initialized "CopyOrders$SentenceReader" ∈ TB := TB_t 11 (by decide +kernel) rfl
theorem cd_X8_init : Cond.code yX8_init cX8_init 2 none ∈ TB := TB_t 277 (by decide +kernel) rfl
theorem go_X8_init : GoodIn TB (wsO yX8_init cX8_init 2 none) := gO cd_X8_init
theorem ml_X11_60 : Cond.methodLink RX11 60 yX8_init ∈ TB := TB_t 275 (by decide +kernel) rfl
theorem im_X8_init : Cond.instanceMethod yX8_init ∈ TB := TB_t 276 (by decide +kernel) rfl
theorem hd_X8_init : yX8_init.cls = "CopyOrders$SentenceReader" ∧ yX8_init.cls ≠ "java/lang/invoke/MethodHandle" ∧ yX8_init.cls ≠ "java/lang/invoke/VarHandle" ∧ (parseMethodDescriptor yX8_init.desc).map (fun d => d.parameters.length) = some 1 := by decide +kernel
theorem fl_X11_61 : Cond.fieldLink RX11 61 "CopyOrders" "sentenceReader" "LCopyOrders$SentenceReader;" ∈ TB := TB_t 331 (by decide +kernel) rfl
theorem cl_X11_65 : Cond.classLink RX11 65 "CopyOrders$Family" ∈ TB := TB_t 292 (by decide +kernel) rfl
theorem ist_X3 : Cond.instantiable "CopyOrders$Family" 7 ∈ TB := TB_t 293 (by decide +kernel) rfl
theorem cd_X3_init : Cond.code yX3_init cX3_init 1 none ∈ TB := TB_t 296 (by decide +kernel) rfl
theorem go_X3_init : GoodIn TB (wsO yX3_init cX3_init 1 none) := gO cd_X3_init
theorem nm_X11_67 : (RX11, 67, yX3_init, "CopyOrders") ∈ nestM := List.mem_of_getElem? (i := 2) rfl
theorem im_X3_init : Cond.instanceMethod yX3_init ∈ TB := TB_t 295 (by decide +kernel) rfl
theorem hd_X3_init : yX3_init.cls = "CopyOrders$Family" ∧ yX3_init.cls ≠ "java/lang/invoke/MethodHandle" ∧ yX3_init.cls ≠ "java/lang/invoke/VarHandle" ∧ (parseMethodDescriptor yX3_init.desc).map (fun d => d.parameters.length) = some 0 := by decide +kernel
theorem kc_X11_302 : Cond.constant RX11 302 (1000000) ∈ TB := TB_t 906 (by decide +kernel) rfl
theorem fl_X2_47 : Cond.fieldLink RX2 47 "CopyOrders$Copy" "length" "I" ∈ TB := TB_t 82 (by decide +kernel) rfl
theorem fl_X2_34 : Cond.fieldLink RX2 34 "CopyOrders$Copy" "lineBits" "I" ∈ TB := TB_t 92 (by decide +kernel) rfl
theorem ml_X2_28 : Cond.methodLink RX2 28 yX1_stepsTo ∈ TB := TB_t 690 (by decide +kernel) rfl
theorem gv_X2_28 : GoodIn TB (wsV RX2 28 "CopyOrders$Copy" yX1_stepsTo (wsO yX1_stepsTo cX1_stepsTo 2 (some .int))) := gV ml_X2_28 im_X1_stepsTo sl_X1_stepsTo ini_CopyOrders_Copy cd_X1_stepsTo
theorem ml_X11_172 : Cond.methodLink RX11 172 yX2_mayMake ∈ TB := TB_t 686 (by decide +kernel) rfl
theorem im_X2_mayMake : Cond.instanceMethod yX2_mayMake ∈ TB := TB_t 687 (by decide +kernel) rfl
theorem sl_X2_mayMake : Cond.selects "CopyOrders$Desk" yX2_mayMake yX2_mayMake ∈ TB := TB_t 688 (by decide +kernel) rfl
theorem cd_X2_mayMake : Cond.code yX2_mayMake cX2_mayMake 5 (some .boolean) ∈ TB := TB_t 689 (by decide +kernel) rfl
theorem gv_X11_172 : GoodIn TB (wsV RX11 172 "CopyOrders$Desk" yX2_mayMake (wsO yX2_mayMake cX2_mayMake 5 (some .boolean))) := gV ml_X11_172 im_X2_mayMake sl_X2_mayMake ini_CopyOrders_Desk cd_X2_mayMake
theorem hd_X2_mayMake : yX2_mayMake.cls = "CopyOrders$Desk" ∧ yX2_mayMake.cls ≠ "java/lang/invoke/MethodHandle" ∧ yX2_mayMake.cls ≠ "java/lang/invoke/VarHandle" ∧ (parseMethodDescriptor yX2_mayMake.desc).map (fun d => d.parameters.length) = some 2 := by decide +kernel
theorem ml_X11_192 : Cond.methodLink RX11 192 yX11_areCopies ∈ TB := TB_t 723 (by decide +kernel) rfl
theorem im_X11_areCopies : Cond.instanceMethod yX11_areCopies ∈ TB := TB_t 725 (by decide +kernel) rfl
theorem sl_X11_areCopies : Cond.selects "CopyOrders" yX11_areCopies yX11_areCopies ∈ TB := TB_s 17 (by decide +kernel) rfl
theorem cd_X11_areCopies : Cond.code yX11_areCopies cX11_areCopies 3 (some .boolean) ∈ TB := TB_t 726 (by decide +kernel) rfl
theorem gv_X11_192 : GoodIn TB (wsV RX11 192 "CopyOrders" yX11_areCopies (wsO yX11_areCopies cX11_areCopies 3 (some .boolean))) := gV ml_X11_192 im_X11_areCopies sl_X11_areCopies ini_CopyOrders cd_X11_areCopies
theorem hd_X11_areCopies : yX11_areCopies.cls = "CopyOrders" ∧ yX11_areCopies.cls ≠ "java/lang/invoke/MethodHandle" ∧ yX11_areCopies.cls ≠ "java/lang/invoke/VarHandle" ∧ (parseMethodDescriptor yX11_areCopies.desc).map (fun d => d.parameters.length) = some 1 := by decide +kernel
theorem ml_X2_50 : Cond.methodLink RX2 50 yX2_fewestFor ∈ TB := TB_t 718 (by decide +kernel) rfl
theorem gv_X2_50 : GoodIn TB (wsV RX2 50 "CopyOrders$Desk" yX2_fewestFor (wsO yX2_fewestFor cX2_fewestFor 2 (some .int))) := gV ml_X2_50 im_X2_fewestFor sl_X2_fewestFor ini_CopyOrders_Desk cd_X2_fewestFor
theorem ml_X11_188 : Cond.methodLink RX11 188 yX2_mayTake ∈ TB := TB_t 714 (by decide +kernel) rfl
theorem im_X2_mayTake : Cond.instanceMethod yX2_mayTake ∈ TB := TB_t 715 (by decide +kernel) rfl
theorem sl_X2_mayTake : Cond.selects "CopyOrders$Desk" yX2_mayTake yX2_mayTake ∈ TB := TB_t 716 (by decide +kernel) rfl
theorem cd_X2_mayTake : Cond.code yX2_mayTake cX2_mayTake 3 (some .boolean) ∈ TB := TB_t 717 (by decide +kernel) rfl
theorem gv_X11_188 : GoodIn TB (wsV RX11 188 "CopyOrders$Desk" yX2_mayTake (wsO yX2_mayTake cX2_mayTake 3 (some .boolean))) := gV ml_X11_188 im_X2_mayTake sl_X2_mayTake ini_CopyOrders_Desk cd_X2_mayTake
theorem hd_X2_mayTake : yX2_mayTake.cls = "CopyOrders$Desk" ∧ yX2_mayTake.cls ≠ "java/lang/invoke/MethodHandle" ∧ yX2_mayTake.cls ≠ "java/lang/invoke/VarHandle" ∧ (parseMethodDescriptor yX2_mayTake.desc).map (fun d => d.parameters.length) = some 2 := by decide +kernel
theorem cp_X6_109 : Cond.methodLink RX6 109 arraycopyName ∈ TB := TB_t 846 (by decide +kernel) rfl
theorem fl_X11_257 : Cond.fieldLink RX11 257 "CopyOrders$Orders" "kept" "[J" ∈ TB := TB_t 632 (by decide +kernel) rfl
theorem fl_X11_260 : Cond.fieldLink RX11 260 "CopyOrders" "latestLikely" "J" ∈ TB := TB_t 335 (by decide +kernel) rfl
theorem ml_X11_251 : Cond.methodLink RX11 251 yX6_numberOf ∈ TB := TB_t 838 (by decide +kernel) rfl
theorem im_X6_numberOf : Cond.instanceMethod yX6_numberOf ∈ TB := TB_t 839 (by decide +kernel) rfl
theorem sl_X6_numberOf : Cond.selects "CopyOrders$Orders" yX6_numberOf yX6_numberOf ∈ TB := TB_t 840 (by decide +kernel) rfl
theorem cd_X6_numberOf : Cond.code yX6_numberOf cX6_numberOf 4 (some .int) ∈ TB := TB_t 841 (by decide +kernel) rfl
theorem gv_X11_251 : GoodIn TB (wsV RX11 251 "CopyOrders$Orders" yX6_numberOf (wsO yX6_numberOf cX6_numberOf 4 (some .int))) := gV ml_X11_251 im_X6_numberOf sl_X6_numberOf ini_CopyOrders_Orders cd_X6_numberOf
theorem hd_X6_numberOf : yX6_numberOf.cls = "CopyOrders$Orders" ∧ yX6_numberOf.cls ≠ "java/lang/invoke/MethodHandle" ∧ yX6_numberOf.cls ≠ "java/lang/invoke/VarHandle" ∧ (parseMethodDescriptor yX6_numberOf.desc).map (fun d => d.parameters.length) = some 1 := by decide +kernel
theorem ml_X11_254 : Cond.methodLink RX11 254 yX6_keep ∈ TB := TB_t 842 (by decide +kernel) rfl
theorem im_X6_keep : Cond.instanceMethod yX6_keep ∈ TB := TB_t 843 (by decide +kernel) rfl
theorem sl_X6_keep : Cond.selects "CopyOrders$Orders" yX6_keep yX6_keep ∈ TB := TB_t 844 (by decide +kernel) rfl
theorem cd_X6_keep : Cond.code yX6_keep cX6_keep 1 none ∈ TB := TB_t 845 (by decide +kernel) rfl
theorem gv_X11_254 : GoodIn TB (wsV RX11 254 "CopyOrders$Orders" yX6_keep (wsO yX6_keep cX6_keep 1 none)) := gV ml_X11_254 im_X6_keep sl_X6_keep ini_CopyOrders_Orders cd_X6_keep
theorem hd_X6_keep : yX6_keep.cls = "CopyOrders$Orders" ∧ yX6_keep.cls ≠ "java/lang/invoke/MethodHandle" ∧ yX6_keep.cls ≠ "java/lang/invoke/VarHandle" ∧ (parseMethodDescriptor yX6_keep.desc).map (fun d => d.parameters.length) = some 0 := by decide +kernel
theorem fl_X11_168 : Cond.fieldLink RX11 168 "CopyOrders$House" "deskRows" "[LCopyOrders$Desk;" ∈ TB := TB_t 150 (by decide +kernel) rfl
theorem nm_X4_103 : (RX4, 103, yX11_pairBit, "CopyOrders") ∈ nestM := List.mem_of_getElem? (i := 8) rfl
theorem fl_X11_293 : Cond.fieldLink RX11 293 "CopyOrders$Orders" "turned" "[I" ∈ TB := TB_t 626 (by decide +kernel) rfl
theorem fl_X11_296 : Cond.fieldLink RX11 296 "CopyOrders$Orders" "allPairs" "I" ∈ TB := TB_t 622 (by decide +kernel) rfl
theorem ml_X11_299 : Cond.methodLink RX11 299 yX4_keepsSense ∈ TB := TB_t 897 (by decide +kernel) rfl
theorem im_X4_keepsSense : Cond.instanceMethod yX4_keepsSense ∈ TB := TB_t 898 (by decide +kernel) rfl
theorem sl_X4_keepsSense : Cond.selects "CopyOrders$House" yX4_keepsSense yX4_keepsSense ∈ TB := TB_t 899 (by decide +kernel) rfl
theorem cd_X4_keepsSense : Cond.code yX4_keepsSense cX4_keepsSense 7 (some .boolean) ∈ TB := TB_t 900 (by decide +kernel) rfl
theorem gv_X11_299 : GoodIn TB (wsV RX11 299 "CopyOrders$House" yX4_keepsSense (wsO yX4_keepsSense cX4_keepsSense 7 (some .boolean))) := gV ml_X11_299 im_X4_keepsSense sl_X4_keepsSense ini_CopyOrders_House cd_X4_keepsSense
theorem hd_X4_keepsSense : yX4_keepsSense.cls = "CopyOrders$House" ∧ yX4_keepsSense.cls ≠ "java/lang/invoke/MethodHandle" ∧ yX4_keepsSense.cls ≠ "java/lang/invoke/VarHandle" ∧ (parseMethodDescriptor yX4_keepsSense.desc).map (fun d => d.parameters.length) = some 2 := by decide +kernel
theorem ml_X3_35 : Cond.methodLink RX3 35 yX4_copyAt ∈ TB := TB_t 764 (by decide +kernel) rfl
theorem gv_X3_35 : GoodIn TB (wsV RX3 35 "CopyOrders$House" yX4_copyAt (wsO yX4_copyAt cX4_copyAt 2 (some (.object "CopyOrders$Copy")))) := gV ml_X3_35 im_X4_copyAt sl_X4_copyAt ini_CopyOrders_House cd_X4_copyAt
theorem ml_X3_41 : Cond.methodLink RX3 41 yX1_farTo ∈ TB := TB_t 765 (by decide +kernel) rfl
theorem gv_X3_41 : GoodIn TB (wsV RX3 41 "CopyOrders$Copy" yX1_farTo (wsO yX1_farTo cX1_farTo 2 (some .int))) := gV ml_X3_41 im_X1_farTo sl_X1_farTo ini_CopyOrders_Copy cd_X1_farTo
theorem ml_X3_47 : Cond.methodLink RX3 47 yX3_putFar ∈ TB := TB_t 766 (by decide +kernel) rfl
theorem im_X3_putFar : Cond.instanceMethod yX3_putFar ∈ TB := TB_t 768 (by decide +kernel) rfl
theorem sl_X3_putFar : Cond.selects "CopyOrders$Family" yX3_putFar yX3_putFar ∈ TB := TB_s 20 (by decide +kernel) rfl
theorem cd_X3_putFar : Cond.code yX3_putFar cX3_putFar 4 none ∈ TB := TB_t 769 (by decide +kernel) rfl
theorem gv_X3_47 : GoodIn TB (wsV RX3 47 "CopyOrders$Family" yX3_putFar (wsO yX3_putFar cX3_putFar 4 none)) := gV ml_X3_47 im_X3_putFar sl_X3_putFar ini_CopyOrders_Family cd_X3_putFar
theorem hd_X3_putFar : yX3_putFar.cls = "CopyOrders$Family" ∧ yX3_putFar.cls ≠ "java/lang/invoke/MethodHandle" ∧ yX3_putFar.cls ≠ "java/lang/invoke/VarHandle" ∧ (parseMethodDescriptor yX3_putFar.desc).map (fun d => d.parameters.length) = some 3 := by decide +kernel
theorem kc_X3_63 : Cond.constant RX3 63 (1000000) ∈ TB := TB_t 778 (by decide +kernel) rfl
theorem ml_X3_70 : Cond.methodLink RX3 70 yX3_reachFrom ∈ TB := TB_t 780 (by decide +kernel) rfl
theorem im_X3_reachFrom : Cond.instanceMethod yX3_reachFrom ∈ TB := TB_t 782 (by decide +kernel) rfl
theorem sl_X3_reachFrom : Cond.selects "CopyOrders$Family" yX3_reachFrom yX3_reachFrom ∈ TB := TB_s 21 (by decide +kernel) rfl
theorem cd_X3_reachFrom : Cond.code yX3_reachFrom cX3_reachFrom 5 none ∈ TB := TB_t 783 (by decide +kernel) rfl
theorem gv_X3_70 : GoodIn TB (wsV RX3 70 "CopyOrders$Family" yX3_reachFrom (wsO yX3_reachFrom cX3_reachFrom 5 none)) := gV ml_X3_70 im_X3_reachFrom sl_X3_reachFrom ini_CopyOrders_Family cd_X3_reachFrom
theorem hd_X3_reachFrom : yX3_reachFrom.cls = "CopyOrders$Family" ∧ yX3_reachFrom.cls ≠ "java/lang/invoke/MethodHandle" ∧ yX3_reachFrom.cls ≠ "java/lang/invoke/VarHandle" ∧ (parseMethodDescriptor yX3_reachFrom.desc).map (fun d => d.parameters.length) = some 2 := by decide +kernel
theorem ml_X3_74 : Cond.methodLink RX3 74 yX3_nextToJoin ∈ TB := TB_t 784 (by decide +kernel) rfl
theorem im_X3_nextToJoin : Cond.instanceMethod yX3_nextToJoin ∈ TB := TB_t 786 (by decide +kernel) rfl
theorem sl_X3_nextToJoin : Cond.selects "CopyOrders$Family" yX3_nextToJoin yX3_nextToJoin ∈ TB := TB_s 22 (by decide +kernel) rfl
theorem cd_X3_nextToJoin : Cond.code yX3_nextToJoin cX3_nextToJoin 5 (some .int) ∈ TB := TB_t 787 (by decide +kernel) rfl
theorem gv_X3_74 : GoodIn TB (wsV RX3 74 "CopyOrders$Family" yX3_nextToJoin (wsO yX3_nextToJoin cX3_nextToJoin 5 (some .int))) := gV ml_X3_74 im_X3_nextToJoin sl_X3_nextToJoin ini_CopyOrders_Family cd_X3_nextToJoin
theorem hd_X3_nextToJoin : yX3_nextToJoin.cls = "CopyOrders$Family" ∧ yX3_nextToJoin.cls ≠ "java/lang/invoke/MethodHandle" ∧ yX3_nextToJoin.cls ≠ "java/lang/invoke/VarHandle" ∧ (parseMethodDescriptor yX3_nextToJoin.desc).map (fun d => d.parameters.length) = some 1 := by decide +kernel
theorem ml_X3_64 : Cond.methodLink RX3 64 yJ7_fill_53178 ∈ TB := TB_t 779 (by decide +kernel) rfl
theorem gs_X3_64 : GoodIn TB (va_wsS RX3 64 yJ7_fill_53178 (wsO yJ7_fill_53178 cJ7_fill_53178 4 none)) := gS ml_X3_64 stt_J7_fill_53178 ini_java_util_Arrays cd_J7_fill_53178
theorem ml_X3_51 : Cond.methodLink RX3 51 yX3_span ∈ TB := TB_t 774 (by decide +kernel) rfl
theorem im_X3_span : Cond.instanceMethod yX3_span ∈ TB := TB_t 775 (by decide +kernel) rfl
theorem sl_X3_span : Cond.selects "CopyOrders$Family" yX3_span yX3_span ∈ TB := TB_t 776 (by decide +kernel) rfl
theorem cd_X3_span : Cond.code yX3_span cX3_span 5 (some .int) ∈ TB := TB_t 777 (by decide +kernel) rfl
theorem gv_X3_51 : GoodIn TB (wsV RX3 51 "CopyOrders$Family" yX3_span (wsO yX3_span cX3_span 5 (some .int))) := gV ml_X3_51 im_X3_span sl_X3_span ini_CopyOrders_Family cd_X3_span
theorem hd_X3_span : yX3_span.cls = "CopyOrders$Family" ∧ yX3_span.cls ≠ "java/lang/invoke/MethodHandle" ∧ yX3_span.cls ≠ "java/lang/invoke/VarHandle" ∧ (parseMethodDescriptor yX3_span.desc).map (fun d => d.parameters.length) = some 1 := by decide +kernel
theorem ml_X3_58 : Cond.methodLink RX3 58 yX6_farTo ∈ TB := TB_t 809 (by decide +kernel) rfl
theorem gv_X3_58 : GoodIn TB (wsV RX3 58 "CopyOrders$Orders" yX6_farTo (wsO yX6_farTo cX6_farTo 3 (some .int))) := gV ml_X3_58 im_X6_farTo sl_X6_farTo ini_CopyOrders_Orders cd_X6_farTo
theorem ml_X11_231 : Cond.methodLink RX11 231 yX3_spanWith ∈ TB := TB_t 805 (by decide +kernel) rfl
theorem im_X3_spanWith : Cond.instanceMethod yX3_spanWith ∈ TB := TB_t 806 (by decide +kernel) rfl
theorem sl_X3_spanWith : Cond.selects "CopyOrders$Family" yX3_spanWith yX3_spanWith ∈ TB := TB_t 807 (by decide +kernel) rfl
theorem cd_X3_spanWith : Cond.code yX3_spanWith cX3_spanWith 6 (some .int) ∈ TB := TB_t 808 (by decide +kernel) rfl
theorem gv_X11_231 : GoodIn TB (wsV RX11 231 "CopyOrders$Family" yX3_spanWith (wsO yX3_spanWith cX3_spanWith 6 (some .int))) := gV ml_X11_231 im_X3_spanWith sl_X3_spanWith ini_CopyOrders_Family cd_X3_spanWith
theorem hd_X3_spanWith : yX3_spanWith.cls = "CopyOrders$Family" ∧ yX3_spanWith.cls ≠ "java/lang/invoke/MethodHandle" ∧ yX3_spanWith.cls ≠ "java/lang/invoke/VarHandle" ∧ (parseMethodDescriptor yX3_spanWith.desc).map (fun d => d.parameters.length) = some 3 := by decide +kernel
theorem fl_X11_225 : Cond.fieldLink RX11 225 "CopyOrders$Family" "members" "I" ∈ TB := TB_t 299 (by decide +kernel) rfl
theorem ml_X11_215 : Cond.methodLink RX11 215 yX3_measure ∈ TB := TB_t 760 (by decide +kernel) rfl
theorem im_X3_measure : Cond.instanceMethod yX3_measure ∈ TB := TB_t 761 (by decide +kernel) rfl
theorem sl_X3_measure : Cond.selects "CopyOrders$Family" yX3_measure yX3_measure ∈ TB := TB_t 762 (by decide +kernel) rfl
theorem cd_X3_measure : Cond.code yX3_measure cX3_measure 6 (some .boolean) ∈ TB := TB_t 763 (by decide +kernel) rfl
theorem gv_X11_215 : GoodIn TB (wsV RX11 215 "CopyOrders$Family" yX3_measure (wsO yX3_measure cX3_measure 6 (some .boolean))) := gV ml_X11_215 im_X3_measure sl_X3_measure ini_CopyOrders_Family cd_X3_measure
theorem hd_X3_measure : yX3_measure.cls = "CopyOrders$Family" ∧ yX3_measure.cls ≠ "java/lang/invoke/MethodHandle" ∧ yX3_measure.cls ≠ "java/lang/invoke/VarHandle" ∧ (parseMethodDescriptor yX3_measure.desc).map (fun d => d.parameters.length) = some 1 := by decide +kernel
theorem ml_X11_228 : Cond.methodLink RX11 228 yX3_span ∈ TB := TB_t 804 (by decide +kernel) rfl
theorem gv_X11_228 : GoodIn TB (wsV RX11 228 "CopyOrders$Family" yX3_span (wsO yX3_span cX3_span 5 (some .int))) := gV ml_X11_228 im_X3_span sl_X3_span ini_CopyOrders_Family cd_X3_span
theorem ml_X11_195 : Cond.methodLink RX11 195 yX11_farFromAll ∈ TB := TB_t 731 (by decide +kernel) rfl
theorem im_X11_farFromAll : Cond.instanceMethod yX11_farFromAll ∈ TB := TB_t 733 (by decide +kernel) rfl
theorem sl_X11_farFromAll : Cond.selects "CopyOrders" yX11_farFromAll yX11_farFromAll ∈ TB := TB_s 18 (by decide +kernel) rfl
theorem cd_X11_farFromAll : Cond.code yX11_farFromAll cX11_farFromAll 8 (some .int) ∈ TB := TB_t 734 (by decide +kernel) rfl
theorem gv_X11_195 : GoodIn TB (wsV RX11 195 "CopyOrders" yX11_farFromAll (wsO yX11_farFromAll cX11_farFromAll 8 (some .int))) := gV ml_X11_195 im_X11_farFromAll sl_X11_farFromAll ini_CopyOrders cd_X11_farFromAll
theorem hd_X11_farFromAll : yX11_farFromAll.cls = "CopyOrders" ∧ yX11_farFromAll.cls ≠ "java/lang/invoke/MethodHandle" ∧ yX11_farFromAll.cls ≠ "java/lang/invoke/VarHandle" ∧ (parseMethodDescriptor yX11_farFromAll.desc).map (fun d => d.parameters.length) = some 3 := by decide +kernel
theorem ml_X11_120 : Cond.methodLink RX11 120 yX11_lineOf ∈ TB := TB_t 657 (by decide +kernel) rfl
theorem gs_X11_120 : GoodIn TB (va_wsS RX11 120 yX11_lineOf (wsO yX11_lineOf cX11_lineOf 2 (some .int))) := gS ml_X11_120 stt_X11_lineOf ini_CopyOrders cd_X11_lineOf
theorem ml_X1_51 : Cond.methodLink RX1 51 yX1_hasLine ∈ TB := TB_t 1023 (by decide +kernel) rfl
theorem gv_X1_51 : GoodIn TB (wsV RX1 51 "CopyOrders$Copy" yX1_hasLine (wsO yX1_hasLine cX1_hasLine 2 (some .boolean))) := gV ml_X1_51 im_X1_hasLine sl_X1_hasLine ini_CopyOrders_Copy cd_X1_hasLine
theorem ml_X7_87 : Cond.methodLink RX7 87 yX4_copyAt ∈ TB := TB_t 1028 (by decide +kernel) rfl
theorem gv_X7_87 : GoodIn TB (wsV RX7 87 "CopyOrders$House" yX4_copyAt (wsO yX4_copyAt cX4_copyAt 2 (some (.object "CopyOrders$Copy")))) := gV ml_X7_87 im_X4_copyAt sl_X4_copyAt ini_CopyOrders_House cd_X4_copyAt
theorem fl_X7_42 : Cond.fieldLink RX7 42 "CopyOrders$1" "$SwitchMap$CopyOrders$Word" "[I" ∈ TB := TB_t 1011 (by decide +kernel) rfl
theorem or_X7_47 : Cond.methodLink RX7 47 ⟨"CopyOrders$Word", "ordinal", "()I"⟩ ∈ TB := TB_t 1012 (by decide +kernel) rfl
theorem ml_X7_91 : Cond.methodLink RX7 91 yX1_farTo ∈ TB := TB_t 1029 (by decide +kernel) rfl
theorem gv_X7_91 : GoodIn TB (wsV RX7 91 "CopyOrders$Copy" yX1_farTo (wsO yX1_farTo cX1_farTo 2 (some .int))) := gV ml_X7_91 im_X1_farTo sl_X1_farTo ini_CopyOrders_Copy cd_X1_farTo
theorem ml_X7_95 : Cond.methodLink RX7 95 yX1_stepsTo ∈ TB := TB_t 1030 (by decide +kernel) rfl
theorem gv_X7_95 : GoodIn TB (wsV RX7 95 "CopyOrders$Copy" yX1_stepsTo (wsO yX1_stepsTo cX1_stepsTo 2 (some .int))) := gV ml_X7_95 im_X1_stepsTo sl_X1_stepsTo ini_CopyOrders_Copy cd_X1_stepsTo
theorem fl_X7_98 : Cond.fieldLink RX7 98 "CopyOrders$Copy" "packed" "I" ∈ TB := TB_t 90 (by decide +kernel) rfl
theorem fl_X7_55 : Cond.fieldLink RX7 55 "CopyOrders$Copy" "length" "I" ∈ TB := TB_t 86 (by decide +kernel) rfl
theorem ml_X7_101 : Cond.methodLink RX7 101 yX4_songOf ∈ TB := TB_t 1031 (by decide +kernel) rfl
theorem gv_X7_101 : GoodIn TB (wsV RX7 101 "CopyOrders$House" yX4_songOf (wsO yX4_songOf cX4_songOf 5 (some .int))) := gV ml_X7_101 im_X4_songOf sl_X4_songOf ini_CopyOrders_House cd_X4_songOf
theorem fl_X7_58 : Cond.fieldLink RX7 58 "CopyOrders$House" "lines" "I" ∈ TB := TB_t 139 (by decide +kernel) rfl
theorem fl_X7_63 : Cond.fieldLink RX7 63 "CopyOrders$Copy" "turned" "I" ∈ TB := TB_t 98 (by decide +kernel) rfl
theorem fl_X7_66 : Cond.fieldLink RX7 66 "CopyOrders$Copy" "pairs" "I" ∈ TB := TB_t 95 (by decide +kernel) rfl
theorem ml_X7_69 : Cond.methodLink RX7 69 yX4_keepsSense ∈ TB := TB_t 1017 (by decide +kernel) rfl
theorem gv_X7_69 : GoodIn TB (wsV RX7 69 "CopyOrders$House" yX4_keepsSense (wsO yX4_keepsSense cX4_keepsSense 7 (some .boolean))) := gV ml_X7_69 im_X4_keepsSense sl_X4_keepsSense ini_CopyOrders_House cd_X4_keepsSense
theorem ml_X7_73 : Cond.methodLink RX7 73 yX1_hasLine ∈ TB := TB_t 1018 (by decide +kernel) rfl
theorem gv_X7_73 : GoodIn TB (wsV RX7 73 "CopyOrders$Copy" yX1_hasLine (wsO yX1_hasLine cX1_hasLine 2 (some .boolean))) := gV ml_X7_73 im_X1_hasLine sl_X1_hasLine ini_CopyOrders_Copy cd_X1_hasLine
theorem ml_X7_77 : Cond.methodLink RX7 77 yX1_isAhead ∈ TB := TB_t 1019 (by decide +kernel) rfl
theorem im_X1_isAhead : Cond.instanceMethod yX1_isAhead ∈ TB := TB_t 1020 (by decide +kernel) rfl
theorem sl_X1_isAhead : Cond.selects "CopyOrders$Copy" yX1_isAhead yX1_isAhead ∈ TB := TB_t 1021 (by decide +kernel) rfl
theorem cd_X1_isAhead : Cond.code yX1_isAhead cX1_isAhead 3 (some .boolean) ∈ TB := TB_t 1022 (by decide +kernel) rfl
theorem gv_X7_77 : GoodIn TB (wsV RX7 77 "CopyOrders$Copy" yX1_isAhead (wsO yX1_isAhead cX1_isAhead 3 (some .boolean))) := gV ml_X7_77 im_X1_isAhead sl_X1_isAhead ini_CopyOrders_Copy cd_X1_isAhead
theorem hd_X1_isAhead : yX1_isAhead.cls = "CopyOrders$Copy" ∧ yX1_isAhead.cls ≠ "java/lang/invoke/MethodHandle" ∧ yX1_isAhead.cls ≠ "java/lang/invoke/VarHandle" ∧ (parseMethodDescriptor yX1_isAhead.desc).map (fun d => d.parameters.length) = some 2 := by decide +kernel
theorem ml_X7_80 : Cond.methodLink RX7 80 yX7_measureOf ∈ TB := TB_t 1024 (by decide +kernel) rfl
theorem im_X7_measureOf : Cond.instanceMethod yX7_measureOf ∈ TB := TB_t 1026 (by decide +kernel) rfl
theorem sl_X7_measureOf : Cond.selects "CopyOrders$Sentence" yX7_measureOf yX7_measureOf ∈ TB := TB_s 34 (by decide +kernel) rfl
theorem cd_X7_measureOf : Cond.code yX7_measureOf cX7_measureOf 5 (some .int) ∈ TB := TB_t 1027 (by decide +kernel) rfl
theorem gv_X7_80 : GoodIn TB (wsV RX7 80 "CopyOrders$Sentence" yX7_measureOf (wsO yX7_measureOf cX7_measureOf 5 (some .int))) := gV ml_X7_80 im_X7_measureOf sl_X7_measureOf ini_CopyOrders_Sentence cd_X7_measureOf
theorem hd_X7_measureOf : yX7_measureOf.cls = "CopyOrders$Sentence" ∧ yX7_measureOf.cls ≠ "java/lang/invoke/MethodHandle" ∧ yX7_measureOf.cls ≠ "java/lang/invoke/VarHandle" ∧ (parseMethodDescriptor yX7_measureOf.desc).map (fun d => d.parameters.length) = some 3 := by decide +kernel
theorem ml_X7_84 : Cond.methodLink RX7 84 yX7_isMeasure ∈ TB := TB_t 1032 (by decide +kernel) rfl
theorem im_X7_isMeasure : Cond.instanceMethod yX7_isMeasure ∈ TB := TB_t 1034 (by decide +kernel) rfl
theorem sl_X7_isMeasure : Cond.selects "CopyOrders$Sentence" yX7_isMeasure yX7_isMeasure ∈ TB := TB_s 35 (by decide +kernel) rfl
theorem cd_X7_isMeasure : Cond.code yX7_isMeasure cX7_isMeasure 3 (some .boolean) ∈ TB := TB_t 1035 (by decide +kernel) rfl
theorem gv_X7_84 : GoodIn TB (wsV RX7 84 "CopyOrders$Sentence" yX7_isMeasure (wsO yX7_isMeasure cX7_isMeasure 3 (some .boolean))) := gV ml_X7_84 im_X7_isMeasure sl_X7_isMeasure ini_CopyOrders_Sentence cd_X7_isMeasure
theorem hd_X7_isMeasure : yX7_isMeasure.cls = "CopyOrders$Sentence" ∧ yX7_isMeasure.cls ≠ "java/lang/invoke/MethodHandle" ∧ yX7_isMeasure.cls ≠ "java/lang/invoke/VarHandle" ∧ (parseMethodDescriptor yX7_isMeasure.desc).map (fun d => d.parameters.length) = some 2 := by decide +kernel
theorem ml_X7_51 : Cond.methodLink RX7 51 yX7_isTest ∈ TB := TB_t 1013 (by decide +kernel) rfl
theorem im_X7_isTest : Cond.instanceMethod yX7_isTest ∈ TB := TB_t 1015 (by decide +kernel) rfl
theorem sl_X7_isTest : Cond.selects "CopyOrders$Sentence" yX7_isTest yX7_isTest ∈ TB := TB_s 33 (by decide +kernel) rfl
theorem cd_X7_isTest : Cond.code yX7_isTest cX7_isTest 4 (some .boolean) ∈ TB := TB_t 1016 (by decide +kernel) rfl
theorem gv_X7_51 : GoodIn TB (wsV RX7 51 "CopyOrders$Sentence" yX7_isTest (wsO yX7_isTest cX7_isTest 4 (some .boolean))) := gV ml_X7_51 im_X7_isTest sl_X7_isTest ini_CopyOrders_Sentence cd_X7_isTest
theorem hd_X7_isTest : yX7_isTest.cls = "CopyOrders$Sentence" ∧ yX7_isTest.cls ≠ "java/lang/invoke/MethodHandle" ∧ yX7_isTest.cls ≠ "java/lang/invoke/VarHandle" ∧ (parseMethodDescriptor yX7_isTest.desc).map (fun d => d.parameters.length) = some 3 := by decide +kernel
theorem fl_X11_321 : Cond.fieldLink RX11 321 "CopyOrders$House" "sentence" "LCopyOrders$Sentence;" ∈ TB := TB_t 164 (by decide +kernel) rfl
theorem ml_X11_329 : Cond.methodLink RX11 329 yX7_isTrueOf ∈ TB := TB_t 1007 (by decide +kernel) rfl
theorem im_X7_isTrueOf : Cond.instanceMethod yX7_isTrueOf ∈ TB := TB_t 1008 (by decide +kernel) rfl
theorem sl_X7_isTrueOf : Cond.selects "CopyOrders$Sentence" yX7_isTrueOf yX7_isTrueOf ∈ TB := TB_t 1009 (by decide +kernel) rfl
theorem cd_X7_isTrueOf : Cond.code yX7_isTrueOf cX7_isTrueOf 6 (some .boolean) ∈ TB := TB_t 1010 (by decide +kernel) rfl
theorem gv_X11_329 : GoodIn TB (wsV RX11 329 "CopyOrders$Sentence" yX7_isTrueOf (wsO yX7_isTrueOf cX7_isTrueOf 6 (some .boolean))) := gV ml_X11_329 im_X7_isTrueOf sl_X7_isTrueOf ini_CopyOrders_Sentence cd_X7_isTrueOf
theorem hd_X7_isTrueOf : yX7_isTrueOf.cls = "CopyOrders$Sentence" ∧ yX7_isTrueOf.cls ≠ "java/lang/invoke/MethodHandle" ∧ yX7_isTrueOf.cls ≠ "java/lang/invoke/VarHandle" ∧ (parseMethodDescriptor yX7_isTrueOf.desc).map (fun d => d.parameters.length) = some 2 := by decide +kernel
theorem fl_X11_324 : Cond.fieldLink RX11 324 "CopyOrders$Sentence" "length" "I" ∈ TB := TB_t 52 (by decide +kernel) rfl
theorem ml_X7_38 : Cond.methodLink RX7 38 yX7_putMeasure ∈ TB := TB_t 969 (by decide +kernel) rfl
theorem im_X7_putMeasure : Cond.instanceMethod yX7_putMeasure ∈ TB := TB_t 970 (by decide +kernel) rfl
theorem sl_X7_putMeasure : Cond.selects "CopyOrders$Sentence" yX7_putMeasure yX7_putMeasure ∈ TB := TB_t 971 (by decide +kernel) rfl
theorem cd_X7_putMeasure : Cond.code yX7_putMeasure cX7_putMeasure 6 none ∈ TB := TB_t 972 (by decide +kernel) rfl
theorem gv_X7_38 : GoodIn TB (wsV RX7 38 "CopyOrders$Sentence" yX7_putMeasure (wsO yX7_putMeasure cX7_putMeasure 6 none)) := gV ml_X7_38 im_X7_putMeasure sl_X7_putMeasure ini_CopyOrders_Sentence cd_X7_putMeasure
theorem hd_X7_putMeasure : yX7_putMeasure.cls = "CopyOrders$Sentence" ∧ yX7_putMeasure.cls ≠ "java/lang/invoke/MethodHandle" ∧ yX7_putMeasure.cls ≠ "java/lang/invoke/VarHandle" ∧ (parseMethodDescriptor yX7_putMeasure.desc).map (fun d => d.parameters.length) = some 5 := by decide +kernel
theorem fl_X8_24 : Cond.fieldLink RX8 24 "CopyOrders$SentenceReader" "house" "LCopyOrders$House;" ∈ TB := TB_t 281 (by decide +kernel) rfl
theorem fl_X8_106 : Cond.fieldLink RX8 106 "CopyOrders$House" "lines" "I" ∈ TB := TB_t 138 (by decide +kernel) rfl
theorem ml_X8_111 : Cond.methodLink RX8 111 yX9_letterHere ∈ TB := TB_t 977 (by decide +kernel) rfl
theorem gv_X8_111 : GoodIn TB (wsV RX8 111 "CopyOrders$Tokens" yX9_letterHere (wsO yX9_letterHere cX9_letterHere 2 (some .int))) := gV ml_X8_111 im_X9_letterHere sl_X9_letterHere ini_CopyOrders_Tokens cd_X9_letterHere
theorem fl_X8_15 : Cond.fieldLink RX8 15 "CopyOrders$SentenceReader" "sentence" "LCopyOrders$Sentence;" ∈ TB := TB_t 280 (by decide +kernel) rfl
theorem fl_X8_115 : Cond.fieldLink RX8 115 "CopyOrders$Word" "HAS" "LCopyOrders$Word;" ∈ TB := TB_t 978 (by decide +kernel) rfl
theorem ml_X8_59 : Cond.methodLink RX8 59 yX7_putTest ∈ TB := TB_t 965 (by decide +kernel) rfl
theorem im_X7_putTest : Cond.instanceMethod yX7_putTest ∈ TB := TB_t 966 (by decide +kernel) rfl
theorem sl_X7_putTest : Cond.selects "CopyOrders$Sentence" yX7_putTest yX7_putTest ∈ TB := TB_t 967 (by decide +kernel) rfl
theorem cd_X7_putTest : Cond.code yX7_putTest cX7_putTest 4 none ∈ TB := TB_t 968 (by decide +kernel) rfl
theorem gv_X8_59 : GoodIn TB (wsV RX8 59 "CopyOrders$Sentence" yX7_putTest (wsO yX7_putTest cX7_putTest 4 none)) := gV ml_X8_59 im_X7_putTest sl_X7_putTest ini_CopyOrders_Sentence cd_X7_putTest
theorem hd_X7_putTest : yX7_putTest.cls = "CopyOrders$Sentence" ∧ yX7_putTest.cls ≠ "java/lang/invoke/MethodHandle" ∧ yX7_putTest.cls ≠ "java/lang/invoke/VarHandle" ∧ (parseMethodDescriptor yX7_putTest.desc).map (fun d => d.parameters.length) = some 3 := by decide +kernel
theorem ml_X8_56 : Cond.methodLink RX8 56 yX9_advance ∈ TB := TB_t 960 (by decide +kernel) rfl
theorem gv_X8_56 : GoodIn TB (wsV RX8 56 "CopyOrders$Tokens" yX9_advance (wsO yX9_advance cX9_advance 3 none)) := gV ml_X8_56 im_X9_advance sl_X9_advance ini_CopyOrders_Tokens cd_X9_advance
theorem fl_X8_118 : Cond.fieldLink RX8 118 "CopyOrders$Word" "AHEAD" "LCopyOrders$Word;" ∈ TB := TB_t 984 (by decide +kernel) rfl
theorem ml_X8_121 : Cond.methodLink RX8 121 yX9_isName ∈ TB := TB_t 990 (by decide +kernel) rfl
theorem gv_X8_121 : GoodIn TB (wsV RX8 121 "CopyOrders$Tokens" yX9_isName (wsO yX9_isName cX9_isName 1 (some .boolean))) := gV ml_X8_121 im_X9_isName sl_X9_isName ini_CopyOrders_Tokens cd_X9_isName
theorem fl_X8_124 : Cond.fieldLink RX8 124 "CopyOrders$Tokens" "code" "J" ∈ TB := TB_t 212 (by decide +kernel) rfl
theorem ml_X8_128 : Cond.methodLink RX8 128 yX4_copyNamed ∈ TB := TB_t 991 (by decide +kernel) rfl
theorem gv_X8_128 : GoodIn TB (wsV RX8 128 "CopyOrders$House" yX4_copyNamed (wsO yX4_copyNamed cX4_copyNamed 4 (some .int))) := gV ml_X8_128 im_X4_copyNamed sl_X4_copyNamed ini_CopyOrders_House cd_X4_copyNamed
theorem ml_X8_41 : Cond.methodLink RX8 41 yX9_fail ∈ TB := TB_t 959 (by decide +kernel) rfl
theorem gv_X8_41 : GoodIn TB (wsV RX8 41 "CopyOrders$Tokens" yX9_fail (wsO yX9_fail cX9_fail 2 (some .boolean))) := gV ml_X8_41 im_X9_fail sl_X9_fail ini_CopyOrders_Tokens cd_X9_fail
theorem ml_X8_132 : Cond.methodLink RX8 132 yX9_numberHere ∈ TB := TB_t 996 (by decide +kernel) rfl
theorem gv_X8_132 : GoodIn TB (wsV RX8 132 "CopyOrders$Tokens" yX9_numberHere (wsO yX9_numberHere cX9_numberHere 3 (some .int))) := gV ml_X8_132 im_X9_numberHere sl_X9_numberHere ini_CopyOrders_Tokens cd_X9_numberHere
theorem ml_X8_136 : Cond.methodLink RX8 136 yX7_putMeasure ∈ TB := TB_t 997 (by decide +kernel) rfl
theorem gv_X8_136 : GoodIn TB (wsV RX8 136 "CopyOrders$Sentence" yX7_putMeasure (wsO yX7_putMeasure cX7_putMeasure 6 none)) := gV ml_X8_136 im_X7_putMeasure sl_X7_putMeasure ini_CopyOrders_Sentence cd_X7_putMeasure
theorem fl_X8_73 : Cond.fieldLink RX8 73 "CopyOrders$Tokens" "sign" "I" ∈ TB := TB_t 217 (by decide +kernel) rfl
theorem fl_X8_47 : Cond.fieldLink RX8 47 "CopyOrders$Tokens" "keyword" "LCopyOrders$Word;" ∈ TB := TB_t 215 (by decide +kernel) rfl
theorem fl_X8_51 : Cond.fieldLink RX8 51 "CopyOrders$Word" "OR" "LCopyOrders$Word;" ∈ TB := TB_t 1001 (by decide +kernel) rfl
theorem ml_X8_44 : Cond.methodLink RX8 44 yX8_readAll ∈ TB := TB_t 951 (by decide +kernel) rfl
theorem im_X8_readAll : Cond.instanceMethod yX8_readAll ∈ TB := TB_t 953 (by decide +kernel) rfl
theorem sl_X8_readAll : Cond.selects "CopyOrders$SentenceReader" yX8_readAll yX8_readAll ∈ TB := TB_s 27 (by decide +kernel) rfl
theorem cd_X8_readAll : Cond.code yX8_readAll cX8_readAll 3 (some .boolean) ∈ TB := TB_t 954 (by decide +kernel) rfl
theorem gv_X8_44 : GoodIn TB (wsV RX8 44 "CopyOrders$SentenceReader" yX8_readAll (wsO yX8_readAll cX8_readAll 3 (some .boolean))) := gV ml_X8_44 im_X8_readAll sl_X8_readAll ini_CopyOrders_SentenceReader cd_X8_readAll
theorem hd_X8_readAll : yX8_readAll.cls = "CopyOrders$SentenceReader" ∧ yX8_readAll.cls ≠ "java/lang/invoke/MethodHandle" ∧ yX8_readAll.cls ≠ "java/lang/invoke/VarHandle" ∧ (parseMethodDescriptor yX8_readAll.desc).map (fun d => d.parameters.length) = some 1 := by decide +kernel
theorem fl_X8_66 : Cond.fieldLink RX8 66 "CopyOrders$Word" "AND" "LCopyOrders$Word;" ∈ TB := TB_t 999 (by decide +kernel) rfl
theorem ml_X8_63 : Cond.methodLink RX8 63 yX8_readOne ∈ TB := TB_t 955 (by decide +kernel) rfl
theorem im_X8_readOne : Cond.instanceMethod yX8_readOne ∈ TB := TB_t 957 (by decide +kernel) rfl
theorem sl_X8_readOne : Cond.selects "CopyOrders$SentenceReader" yX8_readOne yX8_readOne ∈ TB := TB_s 28 (by decide +kernel) rfl
theorem cd_X8_readOne : Cond.code yX8_readOne cX8_readOne 4 (some .boolean) ∈ TB := TB_t 958 (by decide +kernel) rfl
theorem gv_X8_63 : GoodIn TB (wsV RX8 63 "CopyOrders$SentenceReader" yX8_readOne (wsO yX8_readOne cX8_readOne 4 (some .boolean))) := gV ml_X8_63 im_X8_readOne sl_X8_readOne ini_CopyOrders_SentenceReader cd_X8_readOne
theorem hd_X8_readOne : yX8_readOne.cls = "CopyOrders$SentenceReader" ∧ yX8_readOne.cls ≠ "java/lang/invoke/MethodHandle" ∧ yX8_readOne.cls ≠ "java/lang/invoke/VarHandle" ∧ (parseMethodDescriptor yX8_readOne.desc).map (fun d => d.parameters.length) = some 1 := by decide +kernel
theorem fl_X8_28 : Cond.fieldLink RX8 28 "CopyOrders$SentenceReader" "ones" "I" ∈ TB := TB_t 282 (by decide +kernel) rfl
theorem fl_X8_76 : Cond.fieldLink RX8 76 "CopyOrders$1" "$SwitchMap$CopyOrders$Word" "[I" ∈ TB := TB_t 961 (by decide +kernel) rfl
theorem or_X8_82 : Cond.methodLink RX8 82 ⟨"CopyOrders$Word", "ordinal", "()I"⟩ ∈ TB := TB_t 962 (by decide +kernel) rfl
theorem fl_X8_86 : Cond.fieldLink RX8 86 "CopyOrders$Word" "NOT" "LCopyOrders$Word;" ∈ TB := TB_t 963 (by decide +kernel) rfl
theorem ml_X8_32 : Cond.methodLink RX8 32 yX8_readCondition ∈ TB := TB_t 947 (by decide +kernel) rfl
theorem im_X8_readCondition : Cond.instanceMethod yX8_readCondition ∈ TB := TB_t 949 (by decide +kernel) rfl
theorem sl_X8_readCondition : Cond.selects "CopyOrders$SentenceReader" yX8_readCondition yX8_readCondition ∈ TB := TB_s 26 (by decide +kernel) rfl
theorem cd_X8_readCondition : Cond.code yX8_readCondition cX8_readCondition 3 (some .boolean) ∈ TB := TB_t 950 (by decide +kernel) rfl
theorem gv_X8_32 : GoodIn TB (wsV RX8 32 "CopyOrders$SentenceReader" yX8_readCondition (wsO yX8_readCondition cX8_readCondition 3 (some .boolean))) := gV ml_X8_32 im_X8_readCondition sl_X8_readCondition ini_CopyOrders_SentenceReader cd_X8_readCondition
theorem hd_X8_readCondition : yX8_readCondition.cls = "CopyOrders$SentenceReader" ∧ yX8_readCondition.cls ≠ "java/lang/invoke/MethodHandle" ∧ yX8_readCondition.cls ≠ "java/lang/invoke/VarHandle" ∧ (parseMethodDescriptor yX8_readCondition.desc).map (fun d => d.parameters.length) = some 1 := by decide +kernel
theorem ml_X8_103 : Cond.methodLink RX8 103 yX9_passSign ∈ TB := TB_t 998 (by decide +kernel) rfl
theorem gv_X8_103 : GoodIn TB (wsV RX8 103 "CopyOrders$Tokens" yX9_passSign (wsO yX9_passSign cX9_passSign 2 (some .boolean))) := gV ml_X8_103 im_X9_passSign sl_X9_passSign ini_CopyOrders_Tokens cd_X9_passSign
theorem ml_X8_89 : Cond.methodLink RX8 89 yX8_readHas ∈ TB := TB_t 973 (by decide +kernel) rfl
theorem im_X8_readHas : Cond.instanceMethod yX8_readHas ∈ TB := TB_t 975 (by decide +kernel) rfl
theorem sl_X8_readHas : Cond.selects "CopyOrders$SentenceReader" yX8_readHas yX8_readHas ∈ TB := TB_s 29 (by decide +kernel) rfl
theorem cd_X8_readHas : Cond.code yX8_readHas cX8_readHas 2 (some .boolean) ∈ TB := TB_t 976 (by decide +kernel) rfl
theorem gv_X8_89 : GoodIn TB (wsV RX8 89 "CopyOrders$SentenceReader" yX8_readHas (wsO yX8_readHas cX8_readHas 2 (some .boolean))) := gV ml_X8_89 im_X8_readHas sl_X8_readHas ini_CopyOrders_SentenceReader cd_X8_readHas
theorem hd_X8_readHas : yX8_readHas.cls = "CopyOrders$SentenceReader" ∧ yX8_readHas.cls ≠ "java/lang/invoke/MethodHandle" ∧ yX8_readHas.cls ≠ "java/lang/invoke/VarHandle" ∧ (parseMethodDescriptor yX8_readHas.desc).map (fun d => d.parameters.length) = some 0 := by decide +kernel
theorem ml_X8_93 : Cond.methodLink RX8 93 yX8_readAhead ∈ TB := TB_t 980 (by decide +kernel) rfl
theorem im_X8_readAhead : Cond.instanceMethod yX8_readAhead ∈ TB := TB_t 982 (by decide +kernel) rfl
theorem sl_X8_readAhead : Cond.selects "CopyOrders$SentenceReader" yX8_readAhead yX8_readAhead ∈ TB := TB_s 30 (by decide +kernel) rfl
theorem cd_X8_readAhead : Cond.code yX8_readAhead cX8_readAhead 3 (some .boolean) ∈ TB := TB_t 983 (by decide +kernel) rfl
theorem gv_X8_93 : GoodIn TB (wsV RX8 93 "CopyOrders$SentenceReader" yX8_readAhead (wsO yX8_readAhead cX8_readAhead 3 (some .boolean))) := gV ml_X8_93 im_X8_readAhead sl_X8_readAhead ini_CopyOrders_SentenceReader cd_X8_readAhead
theorem hd_X8_readAhead : yX8_readAhead.cls = "CopyOrders$SentenceReader" ∧ yX8_readAhead.cls ≠ "java/lang/invoke/MethodHandle" ∧ yX8_readAhead.cls ≠ "java/lang/invoke/VarHandle" ∧ (parseMethodDescriptor yX8_readAhead.desc).map (fun d => d.parameters.length) = some 0 := by decide +kernel
theorem ml_X8_96 : Cond.methodLink RX8 96 yX8_takeCopy ∈ TB := TB_t 986 (by decide +kernel) rfl
theorem im_X8_takeCopy : Cond.instanceMethod yX8_takeCopy ∈ TB := TB_t 988 (by decide +kernel) rfl
theorem sl_X8_takeCopy : Cond.selects "CopyOrders$SentenceReader" yX8_takeCopy yX8_takeCopy ∈ TB := TB_s 31 (by decide +kernel) rfl
theorem cd_X8_takeCopy : Cond.code yX8_takeCopy cX8_takeCopy 2 (some .int) ∈ TB := TB_t 989 (by decide +kernel) rfl
theorem gv_X8_96 : GoodIn TB (wsV RX8 96 "CopyOrders$SentenceReader" yX8_takeCopy (wsO yX8_takeCopy cX8_takeCopy 2 (some .int))) := gV ml_X8_96 im_X8_takeCopy sl_X8_takeCopy ini_CopyOrders_SentenceReader cd_X8_takeCopy
theorem hd_X8_takeCopy : yX8_takeCopy.cls = "CopyOrders$SentenceReader" ∧ yX8_takeCopy.cls ≠ "java/lang/invoke/MethodHandle" ∧ yX8_takeCopy.cls ≠ "java/lang/invoke/VarHandle" ∧ (parseMethodDescriptor yX8_takeCopy.desc).map (fun d => d.parameters.length) = some 0 := by decide +kernel
theorem ml_X8_99 : Cond.methodLink RX8 99 yX8_readMeasure ∈ TB := TB_t 992 (by decide +kernel) rfl
theorem im_X8_readMeasure : Cond.instanceMethod yX8_readMeasure ∈ TB := TB_t 994 (by decide +kernel) rfl
theorem sl_X8_readMeasure : Cond.selects "CopyOrders$SentenceReader" yX8_readMeasure yX8_readMeasure ∈ TB := TB_s 32 (by decide +kernel) rfl
theorem cd_X8_readMeasure : Cond.code yX8_readMeasure cX8_readMeasure 5 (some .boolean) ∈ TB := TB_t 995 (by decide +kernel) rfl
theorem gv_X8_99 : GoodIn TB (wsV RX8 99 "CopyOrders$SentenceReader" yX8_readMeasure (wsO yX8_readMeasure cX8_readMeasure 5 (some .boolean))) := gV ml_X8_99 im_X8_readMeasure sl_X8_readMeasure ini_CopyOrders_SentenceReader cd_X8_readMeasure
theorem hd_X8_readMeasure : yX8_readMeasure.cls = "CopyOrders$SentenceReader" ∧ yX8_readMeasure.cls ≠ "java/lang/invoke/MethodHandle" ∧ yX8_readMeasure.cls ≠ "java/lang/invoke/VarHandle" ∧ (parseMethodDescriptor yX8_readMeasure.desc).map (fun d => d.parameters.length) = some 2 := by decide +kernel
theorem fl_X8_69 : Cond.fieldLink RX8 69 "CopyOrders$Word" "startsOne" "Z" ∈ TB := TB_t 1752 (by decide +kernel) rfl
theorem ml_X8_19 : Cond.methodLink RX8 19 yX7_clear ∈ TB := TB_t 946 (by decide +kernel) rfl
theorem gv_X8_19 : GoodIn TB (wsV RX8 19 "CopyOrders$Sentence" yX7_clear (wsO yX7_clear cX7_clear 1 none)) := gV ml_X8_19 im_X7_clear sl_X7_clear ini_CopyOrders_Sentence cd_X7_clear
theorem fl_X8_36 : Cond.fieldLink RX8 36 "CopyOrders$Tokens" "kind" "I" ∈ TB := TB_t 208 (by decide +kernel) rfl
theorem ml_X11_318 : Cond.methodLink RX11 318 yX8_read ∈ TB := TB_t 942 (by decide +kernel) rfl
theorem im_X8_read : Cond.instanceMethod yX8_read ∈ TB := TB_t 943 (by decide +kernel) rfl
theorem sl_X8_read : Cond.selects "CopyOrders$SentenceReader" yX8_read yX8_read ∈ TB := TB_t 944 (by decide +kernel) rfl
theorem cd_X8_read : Cond.code yX8_read cX8_read 3 (some .int) ∈ TB := TB_t 945 (by decide +kernel) rfl
theorem gv_X11_318 : GoodIn TB (wsV RX11 318 "CopyOrders$SentenceReader" yX8_read (wsO yX8_read cX8_read 3 (some .int))) := gV ml_X11_318 im_X8_read sl_X8_read ini_CopyOrders_SentenceReader cd_X8_read
theorem hd_X8_read : yX8_read.cls = "CopyOrders$SentenceReader" ∧ yX8_read.cls ≠ "java/lang/invoke/MethodHandle" ∧ yX8_read.cls ≠ "java/lang/invoke/VarHandle" ∧ (parseMethodDescriptor yX8_read.desc).map (fun d => d.parameters.length) = some 2 := by decide +kernel
theorem fl_X11_109 : Cond.fieldLink RX11 109 "CopyOrders$Copy" "length" "I" ∈ TB := TB_t 85 (by decide +kernel) rfl
theorem ml_X3_55 : Cond.methodLink RX3 55 yX3_numberAt ∈ TB := TB_t 788 (by decide +kernel) rfl
theorem im_X3_numberAt : Cond.instanceMethod yX3_numberAt ∈ TB := TB_t 790 (by decide +kernel) rfl
theorem sl_X3_numberAt : Cond.selects "CopyOrders$Family" yX3_numberAt yX3_numberAt ∈ TB := TB_s 23 (by decide +kernel) rfl
theorem cd_X3_numberAt : Cond.code yX3_numberAt cX3_numberAt 2 (some .int) ∈ TB := TB_t 791 (by decide +kernel) rfl
theorem gv_X3_55 : GoodIn TB (wsV RX3 55 "CopyOrders$Family" yX3_numberAt (wsO yX3_numberAt cX3_numberAt 2 (some .int))) := gV ml_X3_55 im_X3_numberAt sl_X3_numberAt ini_CopyOrders_Family cd_X3_numberAt
theorem hd_X3_numberAt : yX3_numberAt.cls = "CopyOrders$Family" ∧ yX3_numberAt.cls ≠ "java/lang/invoke/MethodHandle" ∧ yX3_numberAt.cls ≠ "java/lang/invoke/VarHandle" ∧ (parseMethodDescriptor yX3_numberAt.desc).map (fun d => d.parameters.length) = some 1 := by decide +kernel
theorem ml_X11_212 : Cond.methodLink RX11 212 yX3_admit ∈ TB := TB_t 756 (by decide +kernel) rfl
theorem im_X3_admit : Cond.instanceMethod yX3_admit ∈ TB := TB_t 757 (by decide +kernel) rfl
theorem sl_X3_admit : Cond.selects "CopyOrders$Family" yX3_admit yX3_admit ∈ TB := TB_t 758 (by decide +kernel) rfl
theorem cd_X3_admit : Cond.code yX3_admit cX3_admit 2 none ∈ TB := TB_t 759 (by decide +kernel) rfl
theorem gv_X11_212 : GoodIn TB (wsV RX11 212 "CopyOrders$Family" yX3_admit (wsO yX3_admit cX3_admit 2 none)) := gV ml_X11_212 im_X3_admit sl_X3_admit ini_CopyOrders_Family cd_X3_admit
theorem hd_X3_admit : yX3_admit.cls = "CopyOrders$Family" ∧ yX3_admit.cls ≠ "java/lang/invoke/MethodHandle" ∧ yX3_admit.cls ≠ "java/lang/invoke/VarHandle" ∧ (parseMethodDescriptor yX3_admit.desc).map (fun d => d.parameters.length) = some 1 := by decide +kernel
theorem ml_X11_219 : Cond.methodLink RX11 219 yX3_settle ∈ TB := TB_t 770 (by decide +kernel) rfl
theorem im_X3_settle : Cond.instanceMethod yX3_settle ∈ TB := TB_t 771 (by decide +kernel) rfl
theorem sl_X3_settle : Cond.selects "CopyOrders$Family" yX3_settle yX3_settle ∈ TB := TB_t 772 (by decide +kernel) rfl
theorem cd_X3_settle : Cond.code yX3_settle cX3_settle 3 (some .int) ∈ TB := TB_t 773 (by decide +kernel) rfl
theorem gv_X11_219 : GoodIn TB (wsV RX11 219 "CopyOrders$Family" yX3_settle (wsO yX3_settle cX3_settle 3 (some .int))) := gV ml_X11_219 im_X3_settle sl_X3_settle ini_CopyOrders_Family cd_X3_settle
theorem hd_X3_settle : yX3_settle.cls = "CopyOrders$Family" ∧ yX3_settle.cls ≠ "java/lang/invoke/MethodHandle" ∧ yX3_settle.cls ≠ "java/lang/invoke/VarHandle" ∧ (parseMethodDescriptor yX3_settle.desc).map (fun d => d.parameters.length) = some 0 := by decide +kernel
theorem ml_X11_207 : Cond.methodLink RX11 207 yX11_areUnlike ∈ TB := TB_t 748 (by decide +kernel) rfl
theorem im_X11_areUnlike : Cond.instanceMethod yX11_areUnlike ∈ TB := TB_t 750 (by decide +kernel) rfl
theorem sl_X11_areUnlike : Cond.selects "CopyOrders" yX11_areUnlike yX11_areUnlike ∈ TB := TB_s 19 (by decide +kernel) rfl
theorem cd_X11_areUnlike : Cond.code yX11_areUnlike cX11_areUnlike 4 (some .boolean) ∈ TB := TB_t 751 (by decide +kernel) rfl
theorem gv_X11_207 : GoodIn TB (wsV RX11 207 "CopyOrders" yX11_areUnlike (wsO yX11_areUnlike cX11_areUnlike 4 (some .boolean))) := gV ml_X11_207 im_X11_areUnlike sl_X11_areUnlike ini_CopyOrders cd_X11_areUnlike
theorem hd_X11_areUnlike : yX11_areUnlike.cls = "CopyOrders" ∧ yX11_areUnlike.cls ≠ "java/lang/invoke/MethodHandle" ∧ yX11_areUnlike.cls ≠ "java/lang/invoke/VarHandle" ∧ (parseMethodDescriptor yX11_areUnlike.desc).map (fun d => d.parameters.length) = some 1 := by decide +kernel
theorem ml_X11_210 : Cond.methodLink RX11 210 yX3_open ∈ TB := TB_t 752 (by decide +kernel) rfl
theorem im_X3_open : Cond.instanceMethod yX3_open ∈ TB := TB_t 753 (by decide +kernel) rfl
theorem sl_X3_open : Cond.selects "CopyOrders$Family" yX3_open yX3_open ∈ TB := TB_t 754 (by decide +kernel) rfl
theorem cd_X3_open : Cond.code yX3_open cX3_open 1 none ∈ TB := TB_t 755 (by decide +kernel) rfl
theorem gv_X11_210 : GoodIn TB (wsV RX11 210 "CopyOrders$Family" yX3_open (wsO yX3_open cX3_open 1 none)) := gV ml_X11_210 im_X3_open sl_X3_open ini_CopyOrders_Family cd_X3_open
theorem hd_X3_open : yX3_open.cls = "CopyOrders$Family" ∧ yX3_open.cls ≠ "java/lang/invoke/MethodHandle" ∧ yX3_open.cls ≠ "java/lang/invoke/VarHandle" ∧ (parseMethodDescriptor yX3_open.desc).map (fun d => d.parameters.length) = some 0 := by decide +kernel
theorem kc_X11_238 : Cond.constantLong RX11 238 (-1) ∈ TB := TB_t 817 (by decide +kernel) rfl
theorem ml_X1_55 : Cond.methodLink RX1 55 yX1_placeOf ∈ TB := TB_t 934 (by decide +kernel) rfl
theorem im_X1_placeOf : Cond.instanceMethod yX1_placeOf ∈ TB := TB_t 935 (by decide +kernel) rfl
theorem sl_X1_placeOf : Cond.selects "CopyOrders$Copy" yX1_placeOf yX1_placeOf ∈ TB := TB_t 936 (by decide +kernel) rfl
theorem cd_X1_placeOf : Cond.code yX1_placeOf cX1_placeOf 3 (some .int) ∈ TB := TB_t 937 (by decide +kernel) rfl
theorem gv_X1_55 : GoodIn TB (wsV RX1 55 "CopyOrders$Copy" yX1_placeOf (wsO yX1_placeOf cX1_placeOf 3 (some .int))) := gV ml_X1_55 im_X1_placeOf sl_X1_placeOf ini_CopyOrders_Copy cd_X1_placeOf
theorem hd_X1_placeOf : yX1_placeOf.cls = "CopyOrders$Copy" ∧ yX1_placeOf.cls ≠ "java/lang/invoke/MethodHandle" ∧ yX1_placeOf.cls ≠ "java/lang/invoke/VarHandle" ∧ (parseMethodDescriptor yX1_placeOf.desc).map (fun d => d.parameters.length) = some 1 := by decide +kernel
theorem ml_X11_311 : Cond.methodLink RX11 311 yX1_pieceEnd ∈ TB := TB_t 930 (by decide +kernel) rfl
theorem im_X1_pieceEnd : Cond.instanceMethod yX1_pieceEnd ∈ TB := TB_t 931 (by decide +kernel) rfl
theorem sl_X1_pieceEnd : Cond.selects "CopyOrders$Copy" yX1_pieceEnd yX1_pieceEnd ∈ TB := TB_t 932 (by decide +kernel) rfl
theorem cd_X1_pieceEnd : Cond.code yX1_pieceEnd cX1_pieceEnd 6 (some .int) ∈ TB := TB_t 933 (by decide +kernel) rfl
theorem gv_X11_311 : GoodIn TB (wsV RX11 311 "CopyOrders$Copy" yX1_pieceEnd (wsO yX1_pieceEnd cX1_pieceEnd 6 (some .int))) := gV ml_X11_311 im_X1_pieceEnd sl_X1_pieceEnd ini_CopyOrders_Copy cd_X1_pieceEnd
theorem hd_X1_pieceEnd : yX1_pieceEnd.cls = "CopyOrders$Copy" ∧ yX1_pieceEnd.cls ≠ "java/lang/invoke/MethodHandle" ∧ yX1_pieceEnd.cls ≠ "java/lang/invoke/VarHandle" ∧ (parseMethodDescriptor yX1_pieceEnd.desc).map (fun d => d.parameters.length) = some 2 := by decide +kernel
theorem fl_X12_171 : Cond.fieldLink RX12 171 "CopyOrdersModel" "isBegun" "Z" ∈ TB := TB_t 1180 (by decide +kernel) rfl
theorem u_X12 : ∀ w ∈ u_ws RX12 TX12 47, w ∈ TB := TB_all _ [1206, 1208, 1210, 1212, 1214, 1216, 1218, 1220, 1222, 1224, 1226, 1228, 1230, 1232, 1234, 1236, 1238, 1240, 1242, 1244, 1246, 1248, 1250, 1252, 1254, 1256, 1258, 1260, 1262, 1264, 1266, 1268, 1270, 1272, 1274, 1276, 1278, 1280, 1282, 1284, 1286, 1288, 1290, 1292, 1294, 1296, 1298] (by decide +kernel) (by decide +kernel)
theorem fl_X12_13 : Cond.fieldLink RX12 13 "CopyOrdersModel" "now" "[I" ∈ TB := TB_t 1173 (by decide +kernel) rfl
theorem ml_X12_175 : Cond.methodLink RX12 175 yX12_standard ∈ TB := TB_t 1329 (by decide +kernel) rfl
theorem stt_X12_standard : Cond.static yX12_standard ∈ TB := TB_t 1330 (by decide +kernel) rfl
theorem ini_CopyOrdersModel : Cond.initialized "CopyOrdersModel" ∈ TB := TB_t 13 (by decide +kernel) rfl
theorem cd_X12_standard : Cond.code yX12_standard cX12_standard 2 none ∈ TB := TB_t 1331 (by decide +kernel) rfl
theorem gs_X12_175 : GoodIn TB (va_wsS RX12 175 yX12_standard (wsO yX12_standard cX12_standard 2 none)) := gS ml_X12_175 stt_X12_standard ini_CopyOrdersModel cd_X12_standard
theorem hd_X12_standard : yX12_standard.cls = "CopyOrdersModel" ∧ yX12_standard.cls ≠ "java/lang/invoke/MethodHandle" ∧ yX12_standard.cls ≠ "java/lang/invoke/VarHandle" ∧ (parseMethodDescriptor yX12_standard.desc).map (fun d => d.parameters.length) = some 1 := by decide +kernel
theorem fl_X12_85 : Cond.fieldLink RX12 85 "CopyOrdersModel" "taped" "I" ∈ TB := TB_t 1161 (by decide +kernel) rfl
theorem fl_X12_7 : Cond.fieldLink RX12 7 "CopyOrdersModel" "tape" "[I" ∈ TB := TB_t 1160 (by decide +kernel) rfl
theorem ml_X12_185 : Cond.methodLink RX12 185 yX12_lines ∈ TB := TB_t 1461 (by decide +kernel) rfl
theorem im_X12_lines : Cond.instanceMethod yX12_lines ∈ TB := TB_t 1463 (by decide +kernel) rfl
theorem sl_X12_lines : Cond.selects "CopyOrdersModel" yX12_lines yX12_lines ∈ TB := TB_s 63 (by decide +kernel) rfl
theorem cd_X12_lines : Cond.code yX12_lines cX12_lines 1 (some .int) ∈ TB := TB_t 1464 (by decide +kernel) rfl
theorem gv_X12_185 : GoodIn TB (wsV RX12 185 "CopyOrdersModel" yX12_lines (wsO yX12_lines cX12_lines 1 (some .int))) := gV ml_X12_185 im_X12_lines sl_X12_lines ini_CopyOrdersModel cd_X12_lines
theorem hd_X12_lines : yX12_lines.cls = "CopyOrdersModel" ∧ yX12_lines.cls ≠ "java/lang/invoke/MethodHandle" ∧ yX12_lines.cls ≠ "java/lang/invoke/VarHandle" ∧ (parseMethodDescriptor yX12_lines.desc).map (fun d => d.parameters.length) = some 0 := by decide +kernel
theorem ml_X12_198 : Cond.methodLink RX12 198 yX12_has ∈ TB := TB_t 1398 (by decide +kernel) rfl
theorem stt_X12_has : Cond.static yX12_has ∈ TB := TB_t 1399 (by decide +kernel) rfl
theorem cd_X12_has : Cond.code yX12_has cX12_has 2 (some .boolean) ∈ TB := TB_t 1400 (by decide +kernel) rfl
theorem gs_X12_198 : GoodIn TB (va_wsS RX12 198 yX12_has (wsO yX12_has cX12_has 2 (some .boolean))) := gS ml_X12_198 stt_X12_has ini_CopyOrdersModel cd_X12_has
theorem hd_X12_has : yX12_has.cls = "CopyOrdersModel" ∧ yX12_has.cls ≠ "java/lang/invoke/MethodHandle" ∧ yX12_has.cls ≠ "java/lang/invoke/VarHandle" ∧ (parseMethodDescriptor yX12_has.desc).map (fun d => d.parameters.length) = some 2 := by decide +kernel
theorem ml_X12_179 : Cond.methodLink RX12 179 yX12_copies ∈ TB := TB_t 1437 (by decide +kernel) rfl
theorem im_X12_copies : Cond.instanceMethod yX12_copies ∈ TB := TB_t 1439 (by decide +kernel) rfl
theorem sl_X12_copies : Cond.selects "CopyOrdersModel" yX12_copies yX12_copies ∈ TB := TB_s 59 (by decide +kernel) rfl
theorem cd_X12_copies : Cond.code yX12_copies cX12_copies 1 (some .int) ∈ TB := TB_t 1440 (by decide +kernel) rfl
theorem gv_X12_179 : GoodIn TB (wsV RX12 179 "CopyOrdersModel" yX12_copies (wsO yX12_copies cX12_copies 1 (some .int))) := gV ml_X12_179 im_X12_copies sl_X12_copies ini_CopyOrdersModel cd_X12_copies
theorem hd_X12_copies : yX12_copies.cls = "CopyOrdersModel" ∧ yX12_copies.cls ≠ "java/lang/invoke/MethodHandle" ∧ yX12_copies.cls ≠ "java/lang/invoke/VarHandle" ∧ (parseMethodDescriptor yX12_copies.desc).map (fun d => d.parameters.length) = some 0 := by decide +kernel
theorem fl_X12_22 : Cond.fieldLink RX12 22 "CopyOrdersModel" "name" "[J" ∈ TB := TB_t 1176 (by decide +kernel) rfl
theorem fl_X12_81 : Cond.fieldLink RX12 81 "CopyOrdersModel" "thrown" "I" ∈ TB := TB_t 1159 (by decide +kernel) rfl
theorem ml_X12_164 : Cond.methodLink RX12 164 yX12_lay ∈ TB := TB_t 1325 (by decide +kernel) rfl
theorem im_X12_lay : Cond.instanceMethod yX12_lay ∈ TB := TB_t 1327 (by decide +kernel) rfl
theorem sl_X12_lay : Cond.selects "CopyOrdersModel" yX12_lay yX12_lay ∈ TB := TB_s 39 (by decide +kernel) rfl
theorem cd_X12_lay : Cond.code yX12_lay cX12_lay 1 none ∈ TB := TB_t 1328 (by decide +kernel) rfl
theorem gv_X12_164 : GoodIn TB (wsV RX12 164 "CopyOrdersModel" yX12_lay (wsO yX12_lay cX12_lay 1 none)) := gV ml_X12_164 im_X12_lay sl_X12_lay ini_CopyOrdersModel cd_X12_lay
theorem hd_X12_lay : yX12_lay.cls = "CopyOrdersModel" ∧ yX12_lay.cls ≠ "java/lang/invoke/MethodHandle" ∧ yX12_lay.cls ≠ "java/lang/invoke/VarHandle" ∧ (parseMethodDescriptor yX12_lay.desc).map (fun d => d.parameters.length) = some 0 := by decide +kernel
theorem ml_X12_167 : Cond.methodLink RX12 167 yX12_take ∈ TB := TB_t 1332 (by decide +kernel) rfl
theorem im_X12_take : Cond.instanceMethod yX12_take ∈ TB := TB_t 1334 (by decide +kernel) rfl
theorem sl_X12_take : Cond.selects "CopyOrdersModel" yX12_take yX12_take ∈ TB := TB_s 40 (by decide +kernel) rfl
theorem cd_X12_take : Cond.code yX12_take cX12_take 2 (some .int) ∈ TB := TB_t 1335 (by decide +kernel) rfl
theorem gv_X12_167 : GoodIn TB (wsV RX12 167 "CopyOrdersModel" yX12_take (wsO yX12_take cX12_take 2 (some .int))) := gV ml_X12_167 im_X12_take sl_X12_take ini_CopyOrdersModel cd_X12_take
theorem hd_X12_take : yX12_take.cls = "CopyOrdersModel" ∧ yX12_take.cls ≠ "java/lang/invoke/MethodHandle" ∧ yX12_take.cls ≠ "java/lang/invoke/VarHandle" ∧ (parseMethodDescriptor yX12_take.desc).map (fun d => d.parameters.length) = some 0 := by decide +kernel
theorem ml_X12_151 : Cond.methodLink RX12 151 yX12_isIn ∈ TB := TB_t 1379 (by decide +kernel) rfl
theorem stt_X12_isIn : Cond.static yX12_isIn ∈ TB := TB_t 1380 (by decide +kernel) rfl
theorem cd_X12_isIn : Cond.code yX12_isIn cX12_isIn 3 (some .boolean) ∈ TB := TB_t 1381 (by decide +kernel) rfl
theorem gs_X12_151 : GoodIn TB (va_wsS RX12 151 yX12_isIn (wsO yX12_isIn cX12_isIn 3 (some .boolean))) := gS ml_X12_151 stt_X12_isIn ini_CopyOrdersModel cd_X12_isIn
theorem hd_X12_isIn : yX12_isIn.cls = "CopyOrdersModel" ∧ yX12_isIn.cls ≠ "java/lang/invoke/MethodHandle" ∧ yX12_isIn.cls ≠ "java/lang/invoke/VarHandle" ∧ (parseMethodDescriptor yX12_isIn.desc).map (fun d => d.parameters.length) = some 3 := by decide +kernel
theorem fl_X12_36 : Cond.fieldLink RX12 36 "CopyOrdersModel" "row" "[I" ∈ TB := TB_t 1183 (by decide +kernel) rfl
theorem fl_X12_39 : Cond.fieldLink RX12 39 "CopyOrdersModel" "where" "[I" ∈ TB := TB_t 1184 (by decide +kernel) rfl
theorem ml_X12_251 : Cond.methodLink RX12 251 yX12_orders ∈ TB := TB_t 1473 (by decide +kernel) rfl
theorem im_X12_orders : Cond.instanceMethod yX12_orders ∈ TB := TB_t 1475 (by decide +kernel) rfl
theorem sl_X12_orders : Cond.selects "CopyOrdersModel" yX12_orders yX12_orders ∈ TB := TB_s 65 (by decide +kernel) rfl
theorem cd_X12_orders : Cond.code yX12_orders cX12_orders 3 (some .int) ∈ TB := TB_t 1476 (by decide +kernel) rfl
theorem gv_X12_251 : GoodIn TB (wsV RX12 251 "CopyOrdersModel" yX12_orders (wsO yX12_orders cX12_orders 3 (some .int))) := gV ml_X12_251 im_X12_orders sl_X12_orders ini_CopyOrdersModel cd_X12_orders
theorem hd_X12_orders : yX12_orders.cls = "CopyOrdersModel" ∧ yX12_orders.cls ≠ "java/lang/invoke/MethodHandle" ∧ yX12_orders.cls ≠ "java/lang/invoke/VarHandle" ∧ (parseMethodDescriptor yX12_orders.desc).map (fun d => d.parameters.length) = some 0 := by decide +kernel
theorem ml_X12_257 : Cond.methodLink RX12 257 yX12_lay_ ∈ TB := TB_t 1477 (by decide +kernel) rfl
theorem im_X12_lay_ : Cond.instanceMethod yX12_lay_ ∈ TB := TB_t 1479 (by decide +kernel) rfl
theorem sl_X12_lay_ : Cond.selects "CopyOrdersModel" yX12_lay_ yX12_lay_ ∈ TB := TB_s 66 (by decide +kernel) rfl
theorem cd_X12_lay_ : Cond.code yX12_lay_ cX12_lay_ 8 none ∈ TB := TB_t 1480 (by decide +kernel) rfl
theorem gv_X12_257 : GoodIn TB (wsV RX12 257 "CopyOrdersModel" yX12_lay_ (wsO yX12_lay_ cX12_lay_ 8 none)) := gV ml_X12_257 im_X12_lay_ sl_X12_lay_ ini_CopyOrdersModel cd_X12_lay_
theorem hd_X12_lay_ : yX12_lay_.cls = "CopyOrdersModel" ∧ yX12_lay_.cls ≠ "java/lang/invoke/MethodHandle" ∧ yX12_lay_.cls ≠ "java/lang/invoke/VarHandle" ∧ (parseMethodDescriptor yX12_lay_.desc).map (fun d => d.parameters.length) = some 1 := by decide +kernel
theorem fl_X12_72 : Cond.fieldLink RX12 72 "CopyOrdersModel" "neighbour" "[I" ∈ TB := TB_t 1197 (by decide +kernel) rfl
theorem ml_X12_313 : Cond.methodLink RX12 313 yX12_numberOf ∈ TB := TB_t 1586 (by decide +kernel) rfl
theorem im_X12_numberOf : Cond.instanceMethod yX12_numberOf ∈ TB := TB_t 1588 (by decide +kernel) rfl
theorem sl_X12_numberOf : Cond.selects "CopyOrdersModel" yX12_numberOf yX12_numberOf ∈ TB := TB_s 83 (by decide +kernel) rfl
theorem cd_X12_numberOf : Cond.code yX12_numberOf cX12_numberOf 5 (some .int) ∈ TB := TB_t 1589 (by decide +kernel) rfl
theorem gv_X12_313 : GoodIn TB (wsV RX12 313 "CopyOrdersModel" yX12_numberOf (wsO yX12_numberOf cX12_numberOf 5 (some .int))) := gV ml_X12_313 im_X12_numberOf sl_X12_numberOf ini_CopyOrdersModel cd_X12_numberOf
theorem hd_X12_numberOf : yX12_numberOf.cls = "CopyOrdersModel" ∧ yX12_numberOf.cls ≠ "java/lang/invoke/MethodHandle" ∧ yX12_numberOf.cls ≠ "java/lang/invoke/VarHandle" ∧ (parseMethodDescriptor yX12_numberOf.desc).map (fun d => d.parameters.length) = some 0 := by decide +kernel
theorem fl_X12_310 : Cond.fieldLink RX12 310 "CopyOrdersModel" "laidLines" "I" ∈ TB := TB_t 1198 (by decide +kernel) rfl
theorem fl_X12_63 : Cond.fieldLink RX12 63 "CopyOrdersModel" "ways" "[J" ∈ TB := TB_t 1194 (by decide +kernel) rfl
theorem fl_X12_66 : Cond.fieldLink RX12 66 "CopyOrdersModel" "more" "[J" ∈ TB := TB_t 1195 (by decide +kernel) rfl
theorem ml_X12_316 : Cond.methodLink RX12 316 yX12_layNeighbours ∈ TB := TB_t 1582 (by decide +kernel) rfl
theorem im_X12_layNeighbours : Cond.instanceMethod yX12_layNeighbours ∈ TB := TB_t 1584 (by decide +kernel) rfl
theorem sl_X12_layNeighbours : Cond.selects "CopyOrdersModel" yX12_layNeighbours yX12_layNeighbours ∈ TB := TB_s 82 (by decide +kernel) rfl
theorem cd_X12_layNeighbours : Cond.code yX12_layNeighbours cX12_layNeighbours 4 none ∈ TB := TB_t 1585 (by decide +kernel) rfl
theorem gv_X12_316 : GoodIn TB (wsV RX12 316 "CopyOrdersModel" yX12_layNeighbours (wsO yX12_layNeighbours cX12_layNeighbours 4 none)) := gV ml_X12_316 im_X12_layNeighbours sl_X12_layNeighbours ini_CopyOrdersModel cd_X12_layNeighbours
theorem hd_X12_layNeighbours : yX12_layNeighbours.cls = "CopyOrdersModel" ∧ yX12_layNeighbours.cls ≠ "java/lang/invoke/MethodHandle" ∧ yX12_layNeighbours.cls ≠ "java/lang/invoke/VarHandle" ∧ (parseMethodDescriptor yX12_layNeighbours.desc).map (fun d => d.parameters.length) = some 0 := by decide +kernel
theorem ml_X12_321 : Cond.methodLink RX12 321 yX12_layWays ∈ TB := TB_t 1578 (by decide +kernel) rfl
theorem im_X12_layWays : Cond.instanceMethod yX12_layWays ∈ TB := TB_t 1580 (by decide +kernel) rfl
theorem sl_X12_layWays : Cond.selects "CopyOrdersModel" yX12_layWays yX12_layWays ∈ TB := TB_s 81 (by decide +kernel) rfl
theorem cd_X12_layWays : Cond.code yX12_layWays cX12_layWays 8 none ∈ TB := TB_t 1581 (by decide +kernel) rfl
theorem gv_X12_321 : GoodIn TB (wsV RX12 321 "CopyOrdersModel" yX12_layWays (wsO yX12_layWays cX12_layWays 8 none)) := gV ml_X12_321 im_X12_layWays sl_X12_layWays ini_CopyOrdersModel cd_X12_layWays
theorem hd_X12_layWays : yX12_layWays.cls = "CopyOrdersModel" ∧ yX12_layWays.cls ≠ "java/lang/invoke/MethodHandle" ∧ yX12_layWays.cls ≠ "java/lang/invoke/VarHandle" ∧ (parseMethodDescriptor yX12_layWays.desc).map (fun d => d.parameters.length) = some 3 := by decide +kernel
theorem fl_X12_42 : Cond.fieldLink RX12 42 "CopyOrdersModel" "placeA" "[I" ∈ TB := TB_t 1185 (by decide +kernel) rfl
theorem fl_X12_45 : Cond.fieldLink RX12 45 "CopyOrdersModel" "placeB" "[I" ∈ TB := TB_t 1186 (by decide +kernel) rfl
theorem ml_X12_292 : Cond.methodLink RX12 292 yX12_layOrder ∈ TB := TB_t 1549 (by decide +kernel) rfl
theorem im_X12_layOrder : Cond.instanceMethod yX12_layOrder ∈ TB := TB_t 1551 (by decide +kernel) rfl
theorem sl_X12_layOrder : Cond.selects "CopyOrdersModel" yX12_layOrder yX12_layOrder ∈ TB := TB_s 78 (by decide +kernel) rfl
theorem cd_X12_layOrder : Cond.code yX12_layOrder cX12_layOrder 4 none ∈ TB := TB_t 1552 (by decide +kernel) rfl
theorem gv_X12_292 : GoodIn TB (wsV RX12 292 "CopyOrdersModel" yX12_layOrder (wsO yX12_layOrder cX12_layOrder 4 none)) := gV ml_X12_292 im_X12_layOrder sl_X12_layOrder ini_CopyOrdersModel cd_X12_layOrder
theorem hd_X12_layOrder : yX12_layOrder.cls = "CopyOrdersModel" ∧ yX12_layOrder.cls ≠ "java/lang/invoke/MethodHandle" ∧ yX12_layOrder.cls ≠ "java/lang/invoke/VarHandle" ∧ (parseMethodDescriptor yX12_layOrder.desc).map (fun d => d.parameters.length) = some 2 := by decide +kernel
theorem ml_X12_259 : Cond.methodLink RX12 259 yX12_steps ∈ TB := TB_t 1493 (by decide +kernel) rfl
theorem im_X12_steps : Cond.instanceMethod yX12_steps ∈ TB := TB_t 1495 (by decide +kernel) rfl
theorem sl_X12_steps : Cond.selects "CopyOrdersModel" yX12_steps yX12_steps ∈ TB := TB_s 69 (by decide +kernel) rfl
theorem cd_X12_steps : Cond.code yX12_steps cX12_steps 4 (some .int) ∈ TB := TB_t 1496 (by decide +kernel) rfl
theorem gv_X12_259 : GoodIn TB (wsV RX12 259 "CopyOrdersModel" yX12_steps (wsO yX12_steps cX12_steps 4 (some .int))) := gV ml_X12_259 im_X12_steps sl_X12_steps ini_CopyOrdersModel cd_X12_steps
theorem hd_X12_steps : yX12_steps.cls = "CopyOrdersModel" ∧ yX12_steps.cls ≠ "java/lang/invoke/MethodHandle" ∧ yX12_steps.cls ≠ "java/lang/invoke/VarHandle" ∧ (parseMethodDescriptor yX12_steps.desc).map (fun d => d.parameters.length) = some 0 := by decide +kernel
theorem ml_X12_254 : Cond.methodLink RX12 254 yX12_isOrder ∈ TB := TB_t 1469 (by decide +kernel) rfl
theorem im_X12_isOrder : Cond.instanceMethod yX12_isOrder ∈ TB := TB_t 1471 (by decide +kernel) rfl
theorem sl_X12_isOrder : Cond.selects "CopyOrdersModel" yX12_isOrder yX12_isOrder ∈ TB := TB_s 64 (by decide +kernel) rfl
theorem cd_X12_isOrder : Cond.code yX12_isOrder cX12_isOrder 2 (some .boolean) ∈ TB := TB_t 1472 (by decide +kernel) rfl
theorem gv_X12_254 : GoodIn TB (wsV RX12 254 "CopyOrdersModel" yX12_isOrder (wsO yX12_isOrder cX12_isOrder 2 (some .boolean))) := gV ml_X12_254 im_X12_isOrder sl_X12_isOrder ini_CopyOrdersModel cd_X12_isOrder
theorem hd_X12_isOrder : yX12_isOrder.cls = "CopyOrdersModel" ∧ yX12_isOrder.cls ≠ "java/lang/invoke/MethodHandle" ∧ yX12_isOrder.cls ≠ "java/lang/invoke/VarHandle" ∧ (parseMethodDescriptor yX12_isOrder.desc).map (fun d => d.parameters.length) = some 1 := by decide +kernel
theorem ml_X12_182 : Cond.methodLink RX12 182 yX12_sizeOf ∈ TB := TB_t 1441 (by decide +kernel) rfl
theorem im_X12_sizeOf : Cond.instanceMethod yX12_sizeOf ∈ TB := TB_t 1443 (by decide +kernel) rfl
theorem sl_X12_sizeOf : Cond.selects "CopyOrdersModel" yX12_sizeOf yX12_sizeOf ∈ TB := TB_s 60 (by decide +kernel) rfl
theorem cd_X12_sizeOf : Cond.code yX12_sizeOf cX12_sizeOf 2 (some .int) ∈ TB := TB_t 1444 (by decide +kernel) rfl
theorem gv_X12_182 : GoodIn TB (wsV RX12 182 "CopyOrdersModel" yX12_sizeOf (wsO yX12_sizeOf cX12_sizeOf 2 (some .int))) := gV ml_X12_182 im_X12_sizeOf sl_X12_sizeOf ini_CopyOrdersModel cd_X12_sizeOf
theorem hd_X12_sizeOf : yX12_sizeOf.cls = "CopyOrdersModel" ∧ yX12_sizeOf.cls ≠ "java/lang/invoke/MethodHandle" ∧ yX12_sizeOf.cls ≠ "java/lang/invoke/VarHandle" ∧ (parseMethodDescriptor yX12_sizeOf.desc).map (fun d => d.parameters.length) = some 1 := by decide +kernel
theorem ml_X12_241 : Cond.methodLink RX12 241 yX12_isCopy ∈ TB := TB_t 1433 (by decide +kernel) rfl
theorem im_X12_isCopy : Cond.instanceMethod yX12_isCopy ∈ TB := TB_t 1435 (by decide +kernel) rfl
theorem sl_X12_isCopy : Cond.selects "CopyOrdersModel" yX12_isCopy yX12_isCopy ∈ TB := TB_s 58 (by decide +kernel) rfl
theorem cd_X12_isCopy : Cond.code yX12_isCopy cX12_isCopy 2 (some .boolean) ∈ TB := TB_t 1436 (by decide +kernel) rfl
theorem gv_X12_241 : GoodIn TB (wsV RX12 241 "CopyOrdersModel" yX12_isCopy (wsO yX12_isCopy cX12_isCopy 2 (some .boolean))) := gV ml_X12_241 im_X12_isCopy sl_X12_isCopy ini_CopyOrdersModel cd_X12_isCopy
theorem hd_X12_isCopy : yX12_isCopy.cls = "CopyOrdersModel" ∧ yX12_isCopy.cls ≠ "java/lang/invoke/MethodHandle" ∧ yX12_isCopy.cls ≠ "java/lang/invoke/VarHandle" ∧ (parseMethodDescriptor yX12_isCopy.desc).map (fun d => d.parameters.length) = some 1 := by decide +kernel
theorem ml_X12_279 : Cond.methodLink RX12 279 yX12_isWhole ∈ TB := TB_t 1521 (by decide +kernel) rfl
theorem im_X12_isWhole : Cond.instanceMethod yX12_isWhole ∈ TB := TB_t 1523 (by decide +kernel) rfl
theorem sl_X12_isWhole : Cond.selects "CopyOrdersModel" yX12_isWhole yX12_isWhole ∈ TB := TB_s 74 (by decide +kernel) rfl
theorem cd_X12_isWhole : Cond.code yX12_isWhole cX12_isWhole 2 (some .boolean) ∈ TB := TB_t 1524 (by decide +kernel) rfl
theorem gv_X12_279 : GoodIn TB (wsV RX12 279 "CopyOrdersModel" yX12_isWhole (wsO yX12_isWhole cX12_isWhole 2 (some .boolean))) := gV ml_X12_279 im_X12_isWhole sl_X12_isWhole ini_CopyOrdersModel cd_X12_isWhole
theorem hd_X12_isWhole : yX12_isWhole.cls = "CopyOrdersModel" ∧ yX12_isWhole.cls ≠ "java/lang/invoke/MethodHandle" ∧ yX12_isWhole.cls ≠ "java/lang/invoke/VarHandle" ∧ (parseMethodDescriptor yX12_isWhole.desc).map (fun d => d.parameters.length) = some 1 := by decide +kernel
theorem fl_X12_104 : Cond.fieldLink RX12 104 "CopyOrdersModel" "kind" "I" ∈ TB := TB_t 1166 (by decide +kernel) rfl
theorem fl_X12_142 : Cond.fieldLink RX12 142 "CopyOrdersModel" "fault" "I" ∈ TB := TB_t 1169 (by decide +kernel) rfl
theorem fl_X12_98 : Cond.fieldLink RX12 98 "CopyOrdersModel" "from" "I" ∈ TB := TB_t 1165 (by decide +kernel) rfl
theorem fl_X12_145 : Cond.fieldLink RX12 145 "CopyOrdersModel" "place" "I" ∈ TB := TB_t 1170 (by decide +kernel) rfl
theorem fl_X12_92 : Cond.fieldLink RX12 92 "CopyOrdersModel" "size" "I" ∈ TB := TB_t 1162 (by decide +kernel) rfl
theorem fl_X12_95 : Cond.fieldLink RX12 95 "CopyOrdersModel" "to" "I" ∈ TB := TB_t 1164 (by decide +kernel) rfl
theorem fl_X12_101 : Cond.fieldLink RX12 101 "CopyOrdersModel" "limit" "I" ∈ TB := TB_t 1163 (by decide +kernel) rfl
theorem ml_X12_107 : Cond.methodLink RX12 107 yX12_isLetter ∈ TB := TB_t 1340 (by decide +kernel) rfl
theorem stt_X12_isLetter : Cond.static yX12_isLetter ∈ TB := TB_t 1341 (by decide +kernel) rfl
theorem cd_X12_isLetter : Cond.code yX12_isLetter cX12_isLetter 1 (some .boolean) ∈ TB := TB_t 1342 (by decide +kernel) rfl
theorem gs_X12_107 : GoodIn TB (va_wsS RX12 107 yX12_isLetter (wsO yX12_isLetter cX12_isLetter 1 (some .boolean))) := gS ml_X12_107 stt_X12_isLetter ini_CopyOrdersModel cd_X12_isLetter
theorem hd_X12_isLetter : yX12_isLetter.cls = "CopyOrdersModel" ∧ yX12_isLetter.cls ≠ "java/lang/invoke/MethodHandle" ∧ yX12_isLetter.cls ≠ "java/lang/invoke/VarHandle" ∧ (parseMethodDescriptor yX12_isLetter.desc).map (fun d => d.parameters.length) = some 1 := by decide +kernel
theorem ml_X12_111 : Cond.methodLink RX12 111 yX12_isDigit ∈ TB := TB_t 1343 (by decide +kernel) rfl
theorem stt_X12_isDigit : Cond.static yX12_isDigit ∈ TB := TB_t 1344 (by decide +kernel) rfl
theorem cd_X12_isDigit : Cond.code yX12_isDigit cX12_isDigit 1 (some .boolean) ∈ TB := TB_t 1345 (by decide +kernel) rfl
theorem gs_X12_111 : GoodIn TB (va_wsS RX12 111 yX12_isDigit (wsO yX12_isDigit cX12_isDigit 1 (some .boolean))) := gS ml_X12_111 stt_X12_isDigit ini_CopyOrdersModel cd_X12_isDigit
theorem hd_X12_isDigit : yX12_isDigit.cls = "CopyOrdersModel" ∧ yX12_isDigit.cls ≠ "java/lang/invoke/MethodHandle" ∧ yX12_isDigit.cls ≠ "java/lang/invoke/VarHandle" ∧ (parseMethodDescriptor yX12_isDigit.desc).map (fun d => d.parameters.length) = some 1 := by decide +kernel
theorem fl_X12_114 : Cond.fieldLink RX12 114 "CopyOrdersModel" "sign" "I" ∈ TB := TB_t 1168 (by decide +kernel) rfl
theorem fl_X12_117 : Cond.fieldLink RX12 117 "CopyOrdersModel" "word" "J" ∈ TB := TB_t 1171 (by decide +kernel) rfl
theorem fl_X12_121 : Cond.fieldLink RX12 121 "CopyOrdersModel" "number" "I" ∈ TB := TB_t 1167 (by decide +kernel) rfl
theorem ml_X12_124 : Cond.methodLink RX12 124 yX12_byteAt ∈ TB := TB_t 1346 (by decide +kernel) rfl
theorem im_X12_byteAt : Cond.instanceMethod yX12_byteAt ∈ TB := TB_t 1348 (by decide +kernel) rfl
theorem sl_X12_byteAt : Cond.selects "CopyOrdersModel" yX12_byteAt yX12_byteAt ∈ TB := TB_s 42 (by decide +kernel) rfl
theorem cd_X12_byteAt : Cond.code yX12_byteAt cX12_byteAt 2 (some .int) ∈ TB := TB_t 1349 (by decide +kernel) rfl
theorem gv_X12_124 : GoodIn TB (wsV RX12 124 "CopyOrdersModel" yX12_byteAt (wsO yX12_byteAt cX12_byteAt 2 (some .int))) := gV ml_X12_124 im_X12_byteAt sl_X12_byteAt ini_CopyOrdersModel cd_X12_byteAt
theorem hd_X12_byteAt : yX12_byteAt.cls = "CopyOrdersModel" ∧ yX12_byteAt.cls ≠ "java/lang/invoke/MethodHandle" ∧ yX12_byteAt.cls ≠ "java/lang/invoke/VarHandle" ∧ (parseMethodDescriptor yX12_byteAt.desc).map (fun d => d.parameters.length) = some 1 := by decide +kernel
theorem kc_X12_128 : Cond.constantLong RX12 128 (27) ∈ TB := TB_t 1350 (by decide +kernel) rfl
theorem kc_X12_130 : Cond.constantLong RX12 130 (96) ∈ TB := TB_t 1351 (by decide +kernel) rfl
theorem ml_X12_158 : Cond.methodLink RX12 158 yX12_go ∈ TB := TB_t 1336 (by decide +kernel) rfl
theorem im_X12_go : Cond.instanceMethod yX12_go ∈ TB := TB_t 1338 (by decide +kernel) rfl
theorem sl_X12_go : Cond.selects "CopyOrdersModel" yX12_go yX12_go ∈ TB := TB_s 41 (by decide +kernel) rfl
theorem cd_X12_go : Cond.code yX12_go cX12_go 5 none ∈ TB := TB_t 1339 (by decide +kernel) rfl
theorem gv_X12_158 : GoodIn TB (wsV RX12 158 "CopyOrdersModel" yX12_go (wsO yX12_go cX12_go 5 none)) := gV ml_X12_158 im_X12_go sl_X12_go ini_CopyOrdersModel cd_X12_go
theorem hd_X12_go : yX12_go.cls = "CopyOrdersModel" ∧ yX12_go.cls ≠ "java/lang/invoke/MethodHandle" ∧ yX12_go.cls ≠ "java/lang/invoke/VarHandle" ∧ (parseMethodDescriptor yX12_go.desc).map (fun d => d.parameters.length) = some 0 := by decide +kernel
theorem ml_X12_247 : Cond.methodLink RX12 247 yX12_lineOf ∈ TB := TB_t 1449 (by decide +kernel) rfl
theorem im_X12_lineOf : Cond.instanceMethod yX12_lineOf ∈ TB := TB_t 1451 (by decide +kernel) rfl
theorem sl_X12_lineOf : Cond.selects "CopyOrdersModel" yX12_lineOf yX12_lineOf ∈ TB := TB_s 62 (by decide +kernel) rfl
theorem cd_X12_lineOf : Cond.code yX12_lineOf cX12_lineOf 3 (some .int) ∈ TB := TB_t 1452 (by decide +kernel) rfl
theorem gv_X12_247 : GoodIn TB (wsV RX12 247 "CopyOrdersModel" yX12_lineOf (wsO yX12_lineOf cX12_lineOf 3 (some .int))) := gV ml_X12_247 im_X12_lineOf sl_X12_lineOf ini_CopyOrdersModel cd_X12_lineOf
theorem hd_X12_lineOf : yX12_lineOf.cls = "CopyOrdersModel" ∧ yX12_lineOf.cls ≠ "java/lang/invoke/MethodHandle" ∧ yX12_lineOf.cls ≠ "java/lang/invoke/VarHandle" ∧ (parseMethodDescriptor yX12_lineOf.desc).map (fun d => d.parameters.length) = some 2 := by decide +kernel
theorem ml_X12_342 : Cond.methodLink RX12 342 yX12_songOf ∈ TB := TB_t 1651 (by decide +kernel) rfl
theorem im_X12_songOf : Cond.instanceMethod yX12_songOf ∈ TB := TB_t 1653 (by decide +kernel) rfl
theorem sl_X12_songOf : Cond.selects "CopyOrdersModel" yX12_songOf yX12_songOf ∈ TB := TB_s 88 (by decide +kernel) rfl
theorem cd_X12_songOf : Cond.code yX12_songOf cX12_songOf 6 (some .int) ∈ TB := TB_t 1654 (by decide +kernel) rfl
theorem gv_X12_342 : GoodIn TB (wsV RX12 342 "CopyOrdersModel" yX12_songOf (wsO yX12_songOf cX12_songOf 6 (some .int))) := gV ml_X12_342 im_X12_songOf sl_X12_songOf ini_CopyOrdersModel cd_X12_songOf
theorem hd_X12_songOf : yX12_songOf.cls = "CopyOrdersModel" ∧ yX12_songOf.cls ≠ "java/lang/invoke/MethodHandle" ∧ yX12_songOf.cls ≠ "java/lang/invoke/VarHandle" ∧ (parseMethodDescriptor yX12_songOf.desc).map (fun d => d.parameters.length) = some 1 := by decide +kernel
theorem ml_X12_265 : Cond.methodLink RX12 265 yX12_layCopy ∈ TB := TB_t 1489 (by decide +kernel) rfl
theorem im_X12_layCopy : Cond.instanceMethod yX12_layCopy ∈ TB := TB_t 1491 (by decide +kernel) rfl
theorem sl_X12_layCopy : Cond.selects "CopyOrdersModel" yX12_layCopy yX12_layCopy ∈ TB := TB_s 68 (by decide +kernel) rfl
theorem cd_X12_layCopy : Cond.code yX12_layCopy cX12_layCopy 4 none ∈ TB := TB_t 1492 (by decide +kernel) rfl
theorem gv_X12_265 : GoodIn TB (wsV RX12 265 "CopyOrdersModel" yX12_layCopy (wsO yX12_layCopy cX12_layCopy 4 none)) := gV ml_X12_265 im_X12_layCopy sl_X12_layCopy ini_CopyOrdersModel cd_X12_layCopy
theorem hd_X12_layCopy : yX12_layCopy.cls = "CopyOrdersModel" ∧ yX12_layCopy.cls ≠ "java/lang/invoke/MethodHandle" ∧ yX12_layCopy.cls ≠ "java/lang/invoke/VarHandle" ∧ (parseMethodDescriptor yX12_layCopy.desc).map (fun d => d.parameters.length) = some 2 := by decide +kernel
theorem ml_X12_262 : Cond.methodLink RX12 262 yX12_fallen ∈ TB := TB_t 1497 (by decide +kernel) rfl
theorem im_X12_fallen : Cond.instanceMethod yX12_fallen ∈ TB := TB_t 1499 (by decide +kernel) rfl
theorem sl_X12_fallen : Cond.selects "CopyOrdersModel" yX12_fallen yX12_fallen ∈ TB := TB_s 70 (by decide +kernel) rfl
theorem cd_X12_fallen : Cond.code yX12_fallen cX12_fallen 3 (some .int) ∈ TB := TB_t 1500 (by decide +kernel) rfl
theorem gv_X12_262 : GoodIn TB (wsV RX12 262 "CopyOrdersModel" yX12_fallen (wsO yX12_fallen cX12_fallen 3 (some .int))) := gV ml_X12_262 im_X12_fallen sl_X12_fallen ini_CopyOrdersModel cd_X12_fallen
theorem hd_X12_fallen : yX12_fallen.cls = "CopyOrdersModel" ∧ yX12_fallen.cls ≠ "java/lang/invoke/MethodHandle" ∧ yX12_fallen.cls ≠ "java/lang/invoke/VarHandle" ∧ (parseMethodDescriptor yX12_fallen.desc).map (fun d => d.parameters.length) = some 0 := by decide +kernel
theorem ml_X12_269 : Cond.methodLink RX12 269 yX12_layCopies ∈ TB := TB_t 1485 (by decide +kernel) rfl
theorem im_X12_layCopies : Cond.instanceMethod yX12_layCopies ∈ TB := TB_t 1487 (by decide +kernel) rfl
theorem sl_X12_layCopies : Cond.selects "CopyOrdersModel" yX12_layCopies yX12_layCopies ∈ TB := TB_s 67 (by decide +kernel) rfl
theorem cd_X12_layCopies : Cond.code yX12_layCopies cX12_layCopies 3 none ∈ TB := TB_t 1488 (by decide +kernel) rfl
theorem gv_X12_269 : GoodIn TB (wsV RX12 269 "CopyOrdersModel" yX12_layCopies (wsO yX12_layCopies cX12_layCopies 3 none)) := gV ml_X12_269 im_X12_layCopies sl_X12_layCopies ini_CopyOrdersModel cd_X12_layCopies
theorem hd_X12_layCopies : yX12_layCopies.cls = "CopyOrdersModel" ∧ yX12_layCopies.cls ≠ "java/lang/invoke/MethodHandle" ∧ yX12_layCopies.cls ≠ "java/lang/invoke/VarHandle" ∧ (parseMethodDescriptor yX12_layCopies.desc).map (fun d => d.parameters.length) = some 2 := by decide +kernel
theorem ml_X12_273 : Cond.methodLink RX12 273 yX12_far ∈ TB := TB_t 1501 (by decide +kernel) rfl
theorem im_X12_far : Cond.instanceMethod yX12_far ∈ TB := TB_t 1503 (by decide +kernel) rfl
theorem sl_X12_far : Cond.selects "CopyOrdersModel" yX12_far yX12_far ∈ TB := TB_s 71 (by decide +kernel) rfl
theorem cd_X12_far : Cond.code yX12_far cX12_far 1 (some .int) ∈ TB := TB_t 1504 (by decide +kernel) rfl
theorem gv_X12_273 : GoodIn TB (wsV RX12 273 "CopyOrdersModel" yX12_far (wsO yX12_far cX12_far 1 (some .int))) := gV ml_X12_273 im_X12_far sl_X12_far ini_CopyOrdersModel cd_X12_far
theorem hd_X12_far : yX12_far.cls = "CopyOrdersModel" ∧ yX12_far.cls ≠ "java/lang/invoke/MethodHandle" ∧ yX12_far.cls ≠ "java/lang/invoke/VarHandle" ∧ (parseMethodDescriptor yX12_far.desc).map (fun d => d.parameters.length) = some 0 := by decide +kernel
theorem kc_X12_334 : Cond.constant RX12 334 (1103515245) ∈ TB := TB_t 1614 (by decide +kernel) rfl
theorem ml_X12_331 : Cond.methodLink RX12 331 yX12_allLikely ∈ TB := TB_t 1610 (by decide +kernel) rfl
theorem im_X12_allLikely : Cond.instanceMethod yX12_allLikely ∈ TB := TB_t 1612 (by decide +kernel) rfl
theorem sl_X12_allLikely : Cond.selects "CopyOrdersModel" yX12_allLikely yX12_allLikely ∈ TB := TB_s 85 (by decide +kernel) rfl
theorem cd_X12_allLikely : Cond.code yX12_allLikely cX12_allLikely 3 (some .int) ∈ TB := TB_t 1613 (by decide +kernel) rfl
theorem gv_X12_331 : GoodIn TB (wsV RX12 331 "CopyOrdersModel" yX12_allLikely (wsO yX12_allLikely cX12_allLikely 3 (some .int))) := gV ml_X12_331 im_X12_allLikely sl_X12_allLikely ini_CopyOrdersModel cd_X12_allLikely
theorem hd_X12_allLikely : yX12_allLikely.cls = "CopyOrdersModel" ∧ yX12_allLikely.cls ≠ "java/lang/invoke/MethodHandle" ∧ yX12_allLikely.cls ≠ "java/lang/invoke/VarHandle" ∧ (parseMethodDescriptor yX12_allLikely.desc).map (fun d => d.parameters.length) = some 0 := by decide +kernel
theorem ml_X12_88 : Cond.methodLink RX12 88 yX12_come ∈ TB := TB_t 1309 (by decide +kernel) rfl
theorem im_X12_come : Cond.instanceMethod yX12_come ∈ TB := TB_t 1311 (by decide +kernel) rfl
theorem sl_X12_come : Cond.selects "CopyOrdersModel" yX12_come yX12_come ∈ TB := TB_s 37 (by decide +kernel) rfl
theorem cd_X12_come : Cond.code yX12_come cX12_come 3 none ∈ TB := TB_t 1312 (by decide +kernel) rfl
theorem gv_X12_88 : GoodIn TB (wsV RX12 88 "CopyOrdersModel" yX12_come (wsO yX12_come cX12_come 3 none)) := gV ml_X12_88 im_X12_come sl_X12_come ini_CopyOrdersModel cd_X12_come
theorem hd_X12_come : yX12_come.cls = "CopyOrdersModel" ∧ yX12_come.cls ≠ "java/lang/invoke/MethodHandle" ∧ yX12_come.cls ≠ "java/lang/invoke/VarHandle" ∧ (parseMethodDescriptor yX12_come.desc).map (fun d => d.parameters.length) = some 1 := by decide +kernel
theorem ml_X12_282 : Cond.methodLink RX12 282 yX12_areWhole ∈ TB := TB_t 1517 (by decide +kernel) rfl
theorem im_X12_areWhole : Cond.instanceMethod yX12_areWhole ∈ TB := TB_t 1519 (by decide +kernel) rfl
theorem sl_X12_areWhole : Cond.selects "CopyOrdersModel" yX12_areWhole yX12_areWhole ∈ TB := TB_s 73 (by decide +kernel) rfl
theorem cd_X12_areWhole : Cond.code yX12_areWhole cX12_areWhole 3 (some .boolean) ∈ TB := TB_t 1520 (by decide +kernel) rfl
theorem gv_X12_282 : GoodIn TB (wsV RX12 282 "CopyOrdersModel" yX12_areWhole (wsO yX12_areWhole cX12_areWhole 3 (some .boolean))) := gV ml_X12_282 im_X12_areWhole sl_X12_areWhole ini_CopyOrdersModel cd_X12_areWhole
theorem hd_X12_areWhole : yX12_areWhole.cls = "CopyOrdersModel" ∧ yX12_areWhole.cls ≠ "java/lang/invoke/MethodHandle" ∧ yX12_areWhole.cls ≠ "java/lang/invoke/VarHandle" ∧ (parseMethodDescriptor yX12_areWhole.desc).map (fun d => d.parameters.length) = some 2 := by decide +kernel
theorem ml_X12_285 : Cond.methodLink RX12 285 yX12_isDesk ∈ TB := TB_t 1525 (by decide +kernel) rfl
theorem im_X12_isDesk : Cond.instanceMethod yX12_isDesk ∈ TB := TB_t 1527 (by decide +kernel) rfl
theorem sl_X12_isDesk : Cond.selects "CopyOrdersModel" yX12_isDesk yX12_isDesk ∈ TB := TB_s 75 (by decide +kernel) rfl
theorem cd_X12_isDesk : Cond.code yX12_isDesk cX12_isDesk 2 (some .boolean) ∈ TB := TB_t 1528 (by decide +kernel) rfl
theorem gv_X12_285 : GoodIn TB (wsV RX12 285 "CopyOrdersModel" yX12_isDesk (wsO yX12_isDesk cX12_isDesk 2 (some .boolean))) := gV ml_X12_285 im_X12_isDesk sl_X12_isDesk ini_CopyOrdersModel cd_X12_isDesk
theorem hd_X12_isDesk : yX12_isDesk.cls = "CopyOrdersModel" ∧ yX12_isDesk.cls ≠ "java/lang/invoke/MethodHandle" ∧ yX12_isDesk.cls ≠ "java/lang/invoke/VarHandle" ∧ (parseMethodDescriptor yX12_isDesk.desc).map (fun d => d.parameters.length) = some 1 := by decide +kernel
theorem ml_X12_288 : Cond.methodLink RX12 288 yX12_fewestOf ∈ TB := TB_t 1529 (by decide +kernel) rfl
theorem im_X12_fewestOf : Cond.instanceMethod yX12_fewestOf ∈ TB := TB_t 1531 (by decide +kernel) rfl
theorem sl_X12_fewestOf : Cond.selects "CopyOrdersModel" yX12_fewestOf yX12_fewestOf ∈ TB := TB_s 76 (by decide +kernel) rfl
theorem cd_X12_fewestOf : Cond.code yX12_fewestOf cX12_fewestOf 7 (some .int) ∈ TB := TB_t 1532 (by decide +kernel) rfl
theorem gv_X12_288 : GoodIn TB (wsV RX12 288 "CopyOrdersModel" yX12_fewestOf (wsO yX12_fewestOf cX12_fewestOf 7 (some .int))) := gV ml_X12_288 im_X12_fewestOf sl_X12_fewestOf ini_CopyOrdersModel cd_X12_fewestOf
theorem hd_X12_fewestOf : yX12_fewestOf.cls = "CopyOrdersModel" ∧ yX12_fewestOf.cls ≠ "java/lang/invoke/MethodHandle" ∧ yX12_fewestOf.cls ≠ "java/lang/invoke/VarHandle" ∧ (parseMethodDescriptor yX12_fewestOf.desc).map (fun d => d.parameters.length) = some 3 := by decide +kernel
theorem fl_X12_16 : Cond.fieldLink RX12 16 "CopyOrdersModel" "read" "[I" ∈ TB := TB_t 1174 (by decide +kernel) rfl
theorem fl_X12_26 : Cond.fieldLink RX12 26 "CopyOrdersModel" "readName" "[J" ∈ TB := TB_t 1177 (by decide +kernel) rfl
theorem fl_X12_307 : Cond.fieldLink RX12 307 "CopyOrdersModel" "treeToldMany" "I" ∈ TB := TB_t 1193 (by decide +kernel) rfl
theorem fl_X12_60 : Cond.fieldLink RX12 60 "CopyOrdersModel" "treeTold" "[I" ∈ TB := TB_t 1191 (by decide +kernel) rfl
theorem fl_X12_75 : Cond.fieldLink RX12 75 "CopyOrdersModel" "mark" "[I" ∈ TB := TB_t 1200 (by decide +kernel) rfl
theorem ml_X12_335 : Cond.methodLink RX12 335 yX12_nearestLike ∈ TB := TB_t 1627 (by decide +kernel) rfl
theorem im_X12_nearestLike : Cond.instanceMethod yX12_nearestLike ∈ TB := TB_t 1629 (by decide +kernel) rfl
theorem sl_X12_nearestLike : Cond.selects "CopyOrdersModel" yX12_nearestLike yX12_nearestLike ∈ TB := TB_s 86 (by decide +kernel) rfl
theorem cd_X12_nearestLike : Cond.code yX12_nearestLike cX12_nearestLike 5 (some .int) ∈ TB := TB_t 1630 (by decide +kernel) rfl
theorem gv_X12_335 : GoodIn TB (wsV RX12 335 "CopyOrdersModel" yX12_nearestLike (wsO yX12_nearestLike cX12_nearestLike 5 (some .int))) := gV ml_X12_335 im_X12_nearestLike sl_X12_nearestLike ini_CopyOrdersModel cd_X12_nearestLike
theorem hd_X12_nearestLike : yX12_nearestLike.cls = "CopyOrdersModel" ∧ yX12_nearestLike.cls ≠ "java/lang/invoke/MethodHandle" ∧ yX12_nearestLike.cls ≠ "java/lang/invoke/VarHandle" ∧ (parseMethodDescriptor yX12_nearestLike.desc).map (fun d => d.parameters.length) = some 0 := by decide +kernel
theorem ml_X12_132 : Cond.methodLink RX12 132 yX12_spelt ∈ TB := TB_t 1363 (by decide +kernel) rfl
theorem stt_X12_spelt : Cond.static yX12_spelt ∈ TB := TB_t 1364 (by decide +kernel) rfl
theorem cd_X12_spelt : Cond.code yX12_spelt cX12_spelt 7 (some .long) ∈ TB := TB_t 1365 (by decide +kernel) rfl
theorem gs_X12_132 : GoodIn TB (va_wsS RX12 132 yX12_spelt (wsO yX12_spelt cX12_spelt 7 (some .long))) := gS ml_X12_132 stt_X12_spelt ini_CopyOrdersModel cd_X12_spelt
theorem hd_X12_spelt : yX12_spelt.cls = "CopyOrdersModel" ∧ yX12_spelt.cls ≠ "java/lang/invoke/MethodHandle" ∧ yX12_spelt.cls ≠ "java/lang/invoke/VarHandle" ∧ (parseMethodDescriptor yX12_spelt.desc).map (fun d => d.parameters.length) = some 5 := by decide +kernel
theorem kc_X12_136 : Cond.constantLong RX12 136 (121) ∈ TB := TB_t 1366 (by decide +kernel) rfl
theorem ml_X12_138 : Cond.methodLink RX12 138 yX12_wordOf ∈ TB := TB_t 1360 (by decide +kernel) rfl
theorem stt_X12_wordOf : Cond.static yX12_wordOf ∈ TB := TB_t 1361 (by decide +kernel) rfl
theorem cd_X12_wordOf : Cond.code yX12_wordOf cX12_wordOf 1 (some .long) ∈ TB := TB_t 1362 (by decide +kernel) rfl
theorem gs_X12_138 : GoodIn TB (va_wsS RX12 138 yX12_wordOf (wsO yX12_wordOf cX12_wordOf 1 (some .long))) := gS ml_X12_138 stt_X12_wordOf ini_CopyOrdersModel cd_X12_wordOf
theorem hd_X12_wordOf : yX12_wordOf.cls = "CopyOrdersModel" ∧ yX12_wordOf.cls ≠ "java/lang/invoke/MethodHandle" ∧ yX12_wordOf.cls ≠ "java/lang/invoke/VarHandle" ∧ (parseMethodDescriptor yX12_wordOf.desc).map (fun d => d.parameters.length) = some 1 := by decide +kernel
theorem fl_X12_155 : Cond.fieldLink RX12 155 "CopyOrdersModel" "told" "I" ∈ TB := TB_t 1172 (by decide +kernel) rfl
theorem ml_X12_148 : Cond.methodLink RX12 148 yX12_bad ∈ TB := TB_t 1367 (by decide +kernel) rfl
theorem im_X12_bad : Cond.instanceMethod yX12_bad ∈ TB := TB_t 1369 (by decide +kernel) rfl
theorem sl_X12_bad : Cond.selects "CopyOrdersModel" yX12_bad yX12_bad ∈ TB := TB_s 45 (by decide +kernel) rfl
theorem cd_X12_bad : Cond.code yX12_bad cX12_bad 2 (some .boolean) ∈ TB := TB_t 1370 (by decide +kernel) rfl
theorem gv_X12_148 : GoodIn TB (wsV RX12 148 "CopyOrdersModel" yX12_bad (wsO yX12_bad cX12_bad 2 (some .boolean))) := gV ml_X12_148 im_X12_bad sl_X12_bad ini_CopyOrdersModel cd_X12_bad
theorem hd_X12_bad : yX12_bad.cls = "CopyOrdersModel" ∧ yX12_bad.cls ≠ "java/lang/invoke/MethodHandle" ∧ yX12_bad.cls ≠ "java/lang/invoke/VarHandle" ∧ (parseMethodDescriptor yX12_bad.desc).map (fun d => d.parameters.length) = some 1 := by decide +kernel
theorem fl_X12_214 : Cond.fieldLink RX12 214 "CopyOrdersModel" "had" "I" ∈ TB := TB_t 1181 (by decide +kernel) rfl
theorem ml_X12_205 : Cond.methodLink RX12 205 yX12_readNumber ∈ TB := TB_t 1375 (by decide +kernel) rfl
theorem im_X12_readNumber : Cond.instanceMethod yX12_readNumber ∈ TB := TB_t 1377 (by decide +kernel) rfl
theorem sl_X12_readNumber : Cond.selects "CopyOrdersModel" yX12_readNumber yX12_readNumber ∈ TB := TB_s 47 (by decide +kernel) rfl
theorem cd_X12_readNumber : Cond.code yX12_readNumber cX12_readNumber 3 (some .boolean) ∈ TB := TB_t 1378 (by decide +kernel) rfl
theorem gv_X12_205 : GoodIn TB (wsV RX12 205 "CopyOrdersModel" yX12_readNumber (wsO yX12_readNumber cX12_readNumber 3 (some .boolean))) := gV ml_X12_205 im_X12_readNumber sl_X12_readNumber ini_CopyOrdersModel cd_X12_readNumber
theorem hd_X12_readNumber : yX12_readNumber.cls = "CopyOrdersModel" ∧ yX12_readNumber.cls ≠ "java/lang/invoke/MethodHandle" ∧ yX12_readNumber.cls ≠ "java/lang/invoke/VarHandle" ∧ (parseMethodDescriptor yX12_readNumber.desc).map (fun d => d.parameters.length) = some 2 := by decide +kernel
theorem ml_X12_188 : Cond.methodLink RX12 188 yX12_isName ∈ TB := TB_t 1390 (by decide +kernel) rfl
theorem im_X12_isName : Cond.instanceMethod yX12_isName ∈ TB := TB_t 1392 (by decide +kernel) rfl
theorem sl_X12_isName : Cond.selects "CopyOrdersModel" yX12_isName yX12_isName ∈ TB := TB_s 50 (by decide +kernel) rfl
theorem cd_X12_isName : Cond.code yX12_isName cX12_isName 2 (some .boolean) ∈ TB := TB_t 1393 (by decide +kernel) rfl
theorem gv_X12_188 : GoodIn TB (wsV RX12 188 "CopyOrdersModel" yX12_isName (wsO yX12_isName cX12_isName 2 (some .boolean))) := gV ml_X12_188 im_X12_isName sl_X12_isName ini_CopyOrdersModel cd_X12_isName
theorem hd_X12_isName : yX12_isName.cls = "CopyOrdersModel" ∧ yX12_isName.cls ≠ "java/lang/invoke/MethodHandle" ∧ yX12_isName.cls ≠ "java/lang/invoke/VarHandle" ∧ (parseMethodDescriptor yX12_isName.desc).map (fun d => d.parameters.length) = some 0 := by decide +kernel
theorem ml_X12_192 : Cond.methodLink RX12 192 yX12_findRead ∈ TB := TB_t 1394 (by decide +kernel) rfl
theorem im_X12_findRead : Cond.instanceMethod yX12_findRead ∈ TB := TB_t 1396 (by decide +kernel) rfl
theorem sl_X12_findRead : Cond.selects "CopyOrdersModel" yX12_findRead yX12_findRead ∈ TB := TB_s 51 (by decide +kernel) rfl
theorem cd_X12_findRead : Cond.code yX12_findRead cX12_findRead 2 (some .int) ∈ TB := TB_t 1397 (by decide +kernel) rfl
theorem gv_X12_192 : GoodIn TB (wsV RX12 192 "CopyOrdersModel" yX12_findRead (wsO yX12_findRead cX12_findRead 2 (some .int))) := gV ml_X12_192 im_X12_findRead sl_X12_findRead ini_CopyOrdersModel cd_X12_findRead
theorem hd_X12_findRead : yX12_findRead.cls = "CopyOrdersModel" ∧ yX12_findRead.cls ≠ "java/lang/invoke/MethodHandle" ∧ yX12_findRead.cls ≠ "java/lang/invoke/VarHandle" ∧ (parseMethodDescriptor yX12_findRead.desc).map (fun d => d.parameters.length) = some 0 := by decide +kernel
theorem ml_X12_195 : Cond.methodLink RX12 195 yX12_readNew ∈ TB := TB_t 1386 (by decide +kernel) rfl
theorem im_X12_readNew : Cond.instanceMethod yX12_readNew ∈ TB := TB_t 1388 (by decide +kernel) rfl
theorem sl_X12_readNew : Cond.selects "CopyOrdersModel" yX12_readNew yX12_readNew ∈ TB := TB_s 49 (by decide +kernel) rfl
theorem cd_X12_readNew : Cond.code yX12_readNew cX12_readNew 2 (some .boolean) ∈ TB := TB_t 1389 (by decide +kernel) rfl
theorem gv_X12_195 : GoodIn TB (wsV RX12 195 "CopyOrdersModel" yX12_readNew (wsO yX12_readNew cX12_readNew 2 (some .boolean))) := gV ml_X12_195 im_X12_readNew sl_X12_readNew ini_CopyOrdersModel cd_X12_readNew
theorem hd_X12_readNew : yX12_readNew.cls = "CopyOrdersModel" ∧ yX12_readNew.cls ≠ "java/lang/invoke/MethodHandle" ∧ yX12_readNew.cls ≠ "java/lang/invoke/VarHandle" ∧ (parseMethodDescriptor yX12_readNew.desc).map (fun d => d.parameters.length) = some 1 := by decide +kernel
theorem ml_X12_202 : Cond.methodLink RX12 202 yX12_isWord ∈ TB := TB_t 1356 (by decide +kernel) rfl
theorem im_X12_isWord : Cond.instanceMethod yX12_isWord ∈ TB := TB_t 1358 (by decide +kernel) rfl
theorem sl_X12_isWord : Cond.selects "CopyOrdersModel" yX12_isWord yX12_isWord ∈ TB := TB_s 44 (by decide +kernel) rfl
theorem cd_X12_isWord : Cond.code yX12_isWord cX12_isWord 2 (some .boolean) ∈ TB := TB_t 1359 (by decide +kernel) rfl
theorem gv_X12_202 : GoodIn TB (wsV RX12 202 "CopyOrdersModel" yX12_isWord (wsO yX12_isWord cX12_isWord 2 (some .boolean))) := gV ml_X12_202 im_X12_isWord sl_X12_isWord ini_CopyOrdersModel cd_X12_isWord
theorem hd_X12_isWord : yX12_isWord.cls = "CopyOrdersModel" ∧ yX12_isWord.cls ≠ "java/lang/invoke/MethodHandle" ∧ yX12_isWord.cls ≠ "java/lang/invoke/VarHandle" ∧ (parseMethodDescriptor yX12_isWord.desc).map (fun d => d.parameters.length) = some 1 := by decide +kernel
theorem fl_X12_208 : Cond.fieldLink RX12 208 "CopyOrdersModel" "toldTwice" "I" ∈ TB := TB_t 1182 (by decide +kernel) rfl
theorem ml_X12_211 : Cond.methodLink RX12 211 yX12_readLetter ∈ TB := TB_t 1413 (by decide +kernel) rfl
theorem im_X12_readLetter : Cond.instanceMethod yX12_readLetter ∈ TB := TB_t 1415 (by decide +kernel) rfl
theorem sl_X12_readLetter : Cond.selects "CopyOrdersModel" yX12_readLetter yX12_readLetter ∈ TB := TB_s 55 (by decide +kernel) rfl
theorem cd_X12_readLetter : Cond.code yX12_readLetter cX12_readLetter 2 (some .boolean) ∈ TB := TB_t 1416 (by decide +kernel) rfl
theorem gv_X12_211 : GoodIn TB (wsV RX12 211 "CopyOrdersModel" yX12_readLetter (wsO yX12_readLetter cX12_readLetter 2 (some .boolean))) := gV ml_X12_211 im_X12_readLetter sl_X12_readLetter ini_CopyOrdersModel cd_X12_readLetter
theorem hd_X12_readLetter : yX12_readLetter.cls = "CopyOrdersModel" ∧ yX12_readLetter.cls ≠ "java/lang/invoke/MethodHandle" ∧ yX12_readLetter.cls ≠ "java/lang/invoke/VarHandle" ∧ (parseMethodDescriptor yX12_readLetter.desc).map (fun d => d.parameters.length) = some 1 := by decide +kernel
theorem ml_X12_161 : Cond.methodLink RX12 161 yX12_isSign ∈ TB := TB_t 1421 (by decide +kernel) rfl
theorem im_X12_isSign : Cond.instanceMethod yX12_isSign ∈ TB := TB_t 1423 (by decide +kernel) rfl
theorem sl_X12_isSign : Cond.selects "CopyOrdersModel" yX12_isSign yX12_isSign ∈ TB := TB_s 57 (by decide +kernel) rfl
theorem cd_X12_isSign : Cond.code yX12_isSign cX12_isSign 2 (some .boolean) ∈ TB := TB_t 1424 (by decide +kernel) rfl
theorem gv_X12_161 : GoodIn TB (wsV RX12 161 "CopyOrdersModel" yX12_isSign (wsO yX12_isSign cX12_isSign 2 (some .boolean))) := gV ml_X12_161 im_X12_isSign sl_X12_isSign ini_CopyOrdersModel cd_X12_isSign
theorem hd_X12_isSign : yX12_isSign.cls = "CopyOrdersModel" ∧ yX12_isSign.cls ≠ "java/lang/invoke/MethodHandle" ∧ yX12_isSign.cls ≠ "java/lang/invoke/VarHandle" ∧ (parseMethodDescriptor yX12_isSign.desc).map (fun d => d.parameters.length) = some 1 := by decide +kernel
theorem ml_X12_229 : Cond.methodLink RX12 229 yX12_readPair ∈ TB := TB_t 1409 (by decide +kernel) rfl
theorem im_X12_readPair : Cond.instanceMethod yX12_readPair ∈ TB := TB_t 1411 (by decide +kernel) rfl
theorem sl_X12_readPair : Cond.selects "CopyOrdersModel" yX12_readPair yX12_readPair ∈ TB := TB_s 54 (by decide +kernel) rfl
theorem cd_X12_readPair : Cond.code yX12_readPair cX12_readPair 8 (some .boolean) ∈ TB := TB_t 1412 (by decide +kernel) rfl
theorem gv_X12_229 : GoodIn TB (wsV RX12 229 "CopyOrdersModel" yX12_readPair (wsO yX12_readPair cX12_readPair 8 (some .boolean))) := gV ml_X12_229 im_X12_readPair sl_X12_readPair ini_CopyOrdersModel cd_X12_readPair
theorem hd_X12_readPair : yX12_readPair.cls = "CopyOrdersModel" ∧ yX12_readPair.cls ≠ "java/lang/invoke/MethodHandle" ∧ yX12_readPair.cls ≠ "java/lang/invoke/VarHandle" ∧ (parseMethodDescriptor yX12_readPair.desc).map (fun d => d.parameters.length) = some 3 := by decide +kernel
theorem ml_X12_226 : Cond.methodLink RX12 226 yX12_readLikely ∈ TB := TB_t 1405 (by decide +kernel) rfl
theorem im_X12_readLikely : Cond.instanceMethod yX12_readLikely ∈ TB := TB_t 1407 (by decide +kernel) rfl
theorem sl_X12_readLikely : Cond.selects "CopyOrdersModel" yX12_readLikely yX12_readLikely ∈ TB := TB_s 53 (by decide +kernel) rfl
theorem cd_X12_readLikely : Cond.code yX12_readLikely cX12_readLikely 2 (some .boolean) ∈ TB := TB_t 1408 (by decide +kernel) rfl
theorem gv_X12_226 : GoodIn TB (wsV RX12 226 "CopyOrdersModel" yX12_readLikely (wsO yX12_readLikely cX12_readLikely 2 (some .boolean))) := gV ml_X12_226 im_X12_readLikely sl_X12_readLikely ini_CopyOrdersModel cd_X12_readLikely
theorem hd_X12_readLikely : yX12_readLikely.cls = "CopyOrdersModel" ∧ yX12_readLikely.cls ≠ "java/lang/invoke/MethodHandle" ∧ yX12_readLikely.cls ≠ "java/lang/invoke/VarHandle" ∧ (parseMethodDescriptor yX12_readLikely.desc).map (fun d => d.parameters.length) = some 0 := by decide +kernel
theorem ml_X12_223 : Cond.methodLink RX12 223 yX12_readDesk ∈ TB := TB_t 1401 (by decide +kernel) rfl
theorem im_X12_readDesk : Cond.instanceMethod yX12_readDesk ∈ TB := TB_t 1403 (by decide +kernel) rfl
theorem sl_X12_readDesk : Cond.selects "CopyOrdersModel" yX12_readDesk yX12_readDesk ∈ TB := TB_s 52 (by decide +kernel) rfl
theorem cd_X12_readDesk : Cond.code yX12_readDesk cX12_readDesk 3 (some .boolean) ∈ TB := TB_t 1404 (by decide +kernel) rfl
theorem gv_X12_223 : GoodIn TB (wsV RX12 223 "CopyOrdersModel" yX12_readDesk (wsO yX12_readDesk cX12_readDesk 3 (some .boolean))) := gV ml_X12_223 im_X12_readDesk sl_X12_readDesk ini_CopyOrdersModel cd_X12_readDesk
theorem hd_X12_readDesk : yX12_readDesk.cls = "CopyOrdersModel" ∧ yX12_readDesk.cls ≠ "java/lang/invoke/MethodHandle" ∧ yX12_readDesk.cls ≠ "java/lang/invoke/VarHandle" ∧ (parseMethodDescriptor yX12_readDesk.desc).map (fun d => d.parameters.length) = some 0 := by decide +kernel
theorem ml_X12_220 : Cond.methodLink RX12 220 yX12_readCopy ∈ TB := TB_t 1382 (by decide +kernel) rfl
theorem im_X12_readCopy : Cond.instanceMethod yX12_readCopy ∈ TB := TB_t 1384 (by decide +kernel) rfl
theorem sl_X12_readCopy : Cond.selects "CopyOrdersModel" yX12_readCopy yX12_readCopy ∈ TB := TB_s 48 (by decide +kernel) rfl
theorem cd_X12_readCopy : Cond.code yX12_readCopy cX12_readCopy 6 (some .boolean) ∈ TB := TB_t 1385 (by decide +kernel) rfl
theorem gv_X12_220 : GoodIn TB (wsV RX12 220 "CopyOrdersModel" yX12_readCopy (wsO yX12_readCopy cX12_readCopy 6 (some .boolean))) := gV ml_X12_220 im_X12_readCopy sl_X12_readCopy ini_CopyOrdersModel cd_X12_readCopy
theorem hd_X12_readCopy : yX12_readCopy.cls = "CopyOrdersModel" ∧ yX12_readCopy.cls ≠ "java/lang/invoke/MethodHandle" ∧ yX12_readCopy.cls ≠ "java/lang/invoke/VarHandle" ∧ (parseMethodDescriptor yX12_readCopy.desc).map (fun d => d.parameters.length) = some 0 := by decide +kernel
theorem ml_X12_217 : Cond.methodLink RX12 217 yX12_readLines ∈ TB := TB_t 1371 (by decide +kernel) rfl
theorem im_X12_readLines : Cond.instanceMethod yX12_readLines ∈ TB := TB_t 1373 (by decide +kernel) rfl
theorem sl_X12_readLines : Cond.selects "CopyOrdersModel" yX12_readLines yX12_readLines ∈ TB := TB_s 46 (by decide +kernel) rfl
theorem cd_X12_readLines : Cond.code yX12_readLines cX12_readLines 1 (some .boolean) ∈ TB := TB_t 1374 (by decide +kernel) rfl
theorem gv_X12_217 : GoodIn TB (wsV RX12 217 "CopyOrdersModel" yX12_readLines (wsO yX12_readLines cX12_readLines 1 (some .boolean))) := gV ml_X12_217 im_X12_readLines sl_X12_readLines ini_CopyOrdersModel cd_X12_readLines
theorem hd_X12_readLines : yX12_readLines.cls = "CopyOrdersModel" ∧ yX12_readLines.cls ≠ "java/lang/invoke/MethodHandle" ∧ yX12_readLines.cls ≠ "java/lang/invoke/VarHandle" ∧ (parseMethodDescriptor yX12_readLines.desc).map (fun d => d.parameters.length) = some 0 := by decide +kernel
theorem ml_X12_232 : Cond.methodLink RX12 232 yX12_readEnd ∈ TB := TB_t 1417 (by decide +kernel) rfl
theorem im_X12_readEnd : Cond.instanceMethod yX12_readEnd ∈ TB := TB_t 1419 (by decide +kernel) rfl
theorem sl_X12_readEnd : Cond.selects "CopyOrdersModel" yX12_readEnd yX12_readEnd ∈ TB := TB_s 56 (by decide +kernel) rfl
theorem cd_X12_readEnd : Cond.code yX12_readEnd cX12_readEnd 1 (some .boolean) ∈ TB := TB_t 1420 (by decide +kernel) rfl
theorem gv_X12_232 : GoodIn TB (wsV RX12 232 "CopyOrdersModel" yX12_readEnd (wsO yX12_readEnd cX12_readEnd 1 (some .boolean))) := gV ml_X12_232 im_X12_readEnd sl_X12_readEnd ini_CopyOrdersModel cd_X12_readEnd
theorem hd_X12_readEnd : yX12_readEnd.cls = "CopyOrdersModel" ∧ yX12_readEnd.cls ≠ "java/lang/invoke/MethodHandle" ∧ yX12_readEnd.cls ≠ "java/lang/invoke/VarHandle" ∧ (parseMethodDescriptor yX12_readEnd.desc).map (fun d => d.parameters.length) = some 0 := by decide +kernel
theorem ml_X12_238 : Cond.methodLink RX12 238 yX12_readLine ∈ TB := TB_t 1352 (by decide +kernel) rfl
theorem im_X12_readLine : Cond.instanceMethod yX12_readLine ∈ TB := TB_t 1354 (by decide +kernel) rfl
theorem sl_X12_readLine : Cond.selects "CopyOrdersModel" yX12_readLine yX12_readLine ∈ TB := TB_s 43 (by decide +kernel) rfl
theorem cd_X12_readLine : Cond.code yX12_readLine cX12_readLine 3 (some .boolean) ∈ TB := TB_t 1355 (by decide +kernel) rfl
theorem gv_X12_238 : GoodIn TB (wsV RX12 238 "CopyOrdersModel" yX12_readLine (wsO yX12_readLine cX12_readLine 3 (some .boolean))) := gV ml_X12_238 im_X12_readLine sl_X12_readLine ini_CopyOrdersModel cd_X12_readLine
theorem hd_X12_readLine : yX12_readLine.cls = "CopyOrdersModel" ∧ yX12_readLine.cls ≠ "java/lang/invoke/MethodHandle" ∧ yX12_readLine.cls ≠ "java/lang/invoke/VarHandle" ∧ (parseMethodDescriptor yX12_readLine.desc).map (fun d => d.parameters.length) = some 0 := by decide +kernel
theorem ml_X12_235 : Cond.methodLink RX12 235 yX12_begin ∈ TB := TB_t 1321 (by decide +kernel) rfl
theorem im_X12_begin : Cond.instanceMethod yX12_begin ∈ TB := TB_t 1323 (by decide +kernel) rfl
theorem sl_X12_begin : Cond.selects "CopyOrdersModel" yX12_begin yX12_begin ∈ TB := TB_s 38 (by decide +kernel) rfl
theorem cd_X12_begin : Cond.code yX12_begin cX12_begin 2 none ∈ TB := TB_t 1324 (by decide +kernel) rfl
theorem gv_X12_235 : GoodIn TB (wsV RX12 235 "CopyOrdersModel" yX12_begin (wsO yX12_begin cX12_begin 2 none)) := gV ml_X12_235 im_X12_begin sl_X12_begin ini_CopyOrdersModel cd_X12_begin
theorem hd_X12_begin : yX12_begin.cls = "CopyOrdersModel" ∧ yX12_begin.cls ≠ "java/lang/invoke/MethodHandle" ∧ yX12_begin.cls ≠ "java/lang/invoke/VarHandle" ∧ (parseMethodDescriptor yX12_begin.desc).map (fun d => d.parameters.length) = some 1 := by decide +kernel
theorem fl_X12_19 : Cond.fieldLink RX12 19 "CopyOrdersModel" "kept" "[I" ∈ TB := TB_t 1175 (by decide +kernel) rfl
theorem fl_X12_32 : Cond.fieldLink RX12 32 "CopyOrdersModel" "isKept" "[Z" ∈ TB := TB_t 1179 (by decide +kernel) rfl
theorem fl_X12_29 : Cond.fieldLink RX12 29 "CopyOrdersModel" "keptName" "[J" ∈ TB := TB_t 1178 (by decide +kernel) rfl
theorem ob_X12_1 : Cond.methodLink RX12 1 objectInit ∈ TB := TB_t 1158 (by decide +kernel) rfl
theorem fl_X12_48 : Cond.fieldLink RX12 48 "CopyOrdersModel" "tree" "[I" ∈ TB := TB_t 1187 (by decide +kernel) rfl
theorem fl_X12_51 : Cond.fieldLink RX12 51 "CopyOrdersModel" "parent" "[I" ∈ TB := TB_t 1188 (by decide +kernel) rfl
theorem fl_X12_54 : Cond.fieldLink RX12 54 "CopyOrdersModel" "apart" "[I" ∈ TB := TB_t 1189 (by decide +kernel) rfl
theorem fl_X12_57 : Cond.fieldLink RX12 57 "CopyOrdersModel" "joined" "[I" ∈ TB := TB_t 1190 (by decide +kernel) rfl
theorem fl_X12_69 : Cond.fieldLink RX12 69 "CopyOrdersModel" "firstWays" "[J" ∈ TB := TB_t 1196 (by decide +kernel) rfl
theorem fl_X12_78 : Cond.fieldLink RX12 78 "CopyOrdersModel" "node" "[I" ∈ TB := TB_t 1201 (by decide +kernel) rfl
theorem ml_X12_338 : Cond.methodLink RX12 338 yX12_hasSense ∈ TB := TB_t 1639 (by decide +kernel) rfl
theorem im_X12_hasSense : Cond.instanceMethod yX12_hasSense ∈ TB := TB_t 1641 (by decide +kernel) rfl
theorem sl_X12_hasSense : Cond.selects "CopyOrdersModel" yX12_hasSense yX12_hasSense ∈ TB := TB_s 87 (by decide +kernel) rfl
theorem cd_X12_hasSense : Cond.code yX12_hasSense cX12_hasSense 5 (some .boolean) ∈ TB := TB_t 1642 (by decide +kernel) rfl
theorem gv_X12_338 : GoodIn TB (wsV RX12 338 "CopyOrdersModel" yX12_hasSense (wsO yX12_hasSense cX12_hasSense 5 (some .boolean))) := gV ml_X12_338 im_X12_hasSense sl_X12_hasSense ini_CopyOrdersModel cd_X12_hasSense
theorem hd_X12_hasSense : yX12_hasSense.cls = "CopyOrdersModel" ∧ yX12_hasSense.cls ≠ "java/lang/invoke/MethodHandle" ∧ yX12_hasSense.cls ≠ "java/lang/invoke/VarHandle" ∧ (parseMethodDescriptor yX12_hasSense.desc).map (fun d => d.parameters.length) = some 1 := by decide +kernel
theorem ml_X12_392 : Cond.methodLink RX12 392 yX12_valueOf ∈ TB := TB_t 1719 (by decide +kernel) rfl
theorem im_X12_valueOf : Cond.instanceMethod yX12_valueOf ∈ TB := TB_t 1721 (by decide +kernel) rfl
theorem sl_X12_valueOf : Cond.selects "CopyOrdersModel" yX12_valueOf yX12_valueOf ∈ TB := TB_s 100 (by decide +kernel) rfl
theorem cd_X12_valueOf : Cond.code yX12_valueOf cX12_valueOf 4 (some .int) ∈ TB := TB_t 1722 (by decide +kernel) rfl
theorem gv_X12_392 : GoodIn TB (wsV RX12 392 "CopyOrdersModel" yX12_valueOf (wsO yX12_valueOf cX12_valueOf 4 (some .int))) := gV ml_X12_392 im_X12_valueOf sl_X12_valueOf ini_CopyOrdersModel cd_X12_valueOf
theorem hd_X12_valueOf : yX12_valueOf.cls = "CopyOrdersModel" ∧ yX12_valueOf.cls ≠ "java/lang/invoke/MethodHandle" ∧ yX12_valueOf.cls ≠ "java/lang/invoke/VarHandle" ∧ (parseMethodDescriptor yX12_valueOf.desc).map (fun d => d.parameters.length) = some 3 := by decide +kernel
theorem ml_X12_386 : Cond.methodLink RX12 386 yX12_isSo ∈ TB := TB_t 1711 (by decide +kernel) rfl
theorem im_X12_isSo : Cond.instanceMethod yX12_isSo ∈ TB := TB_t 1713 (by decide +kernel) rfl
theorem sl_X12_isSo : Cond.selects "CopyOrdersModel" yX12_isSo yX12_isSo ∈ TB := TB_s 98 (by decide +kernel) rfl
theorem cd_X12_isSo : Cond.code yX12_isSo cX12_isSo 6 (some .boolean) ∈ TB := TB_t 1714 (by decide +kernel) rfl
theorem gv_X12_386 : GoodIn TB (wsV RX12 386 "CopyOrdersModel" yX12_isSo (wsO yX12_isSo cX12_isSo 6 (some .boolean))) := gV ml_X12_386 im_X12_isSo sl_X12_isSo ini_CopyOrdersModel cd_X12_isSo
theorem hd_X12_isSo : yX12_isSo.cls = "CopyOrdersModel" ∧ yX12_isSo.cls ≠ "java/lang/invoke/MethodHandle" ∧ yX12_isSo.cls ≠ "java/lang/invoke/VarHandle" ∧ (parseMethodDescriptor yX12_isSo.desc).map (fun d => d.parameters.length) = some 2 := by decide +kernel
theorem ml_X12_389 : Cond.methodLink RX12 389 yX12_isPlain ∈ TB := TB_t 1715 (by decide +kernel) rfl
theorem im_X12_isPlain : Cond.instanceMethod yX12_isPlain ∈ TB := TB_t 1717 (by decide +kernel) rfl
theorem sl_X12_isPlain : Cond.selects "CopyOrdersModel" yX12_isPlain yX12_isPlain ∈ TB := TB_s 99 (by decide +kernel) rfl
theorem cd_X12_isPlain : Cond.code yX12_isPlain cX12_isPlain 6 (some .boolean) ∈ TB := TB_t 1718 (by decide +kernel) rfl
theorem gv_X12_389 : GoodIn TB (wsV RX12 389 "CopyOrdersModel" yX12_isPlain (wsO yX12_isPlain cX12_isPlain 6 (some .boolean))) := gV ml_X12_389 im_X12_isPlain sl_X12_isPlain ini_CopyOrdersModel cd_X12_isPlain
theorem hd_X12_isPlain : yX12_isPlain.cls = "CopyOrdersModel" ∧ yX12_isPlain.cls ≠ "java/lang/invoke/MethodHandle" ∧ yX12_isPlain.cls ≠ "java/lang/invoke/VarHandle" ∧ (parseMethodDescriptor yX12_isPlain.desc).map (fun d => d.parameters.length) = some 2 := by decide +kernel
theorem ml_X12_276 : Cond.methodLink RX12 276 yX12_mayMake ∈ TB := TB_t 1509 (by decide +kernel) rfl
theorem im_X12_mayMake : Cond.instanceMethod yX12_mayMake ∈ TB := TB_t 1511 (by decide +kernel) rfl
theorem sl_X12_mayMake : Cond.selects "CopyOrdersModel" yX12_mayMake yX12_mayMake ∈ TB := TB_s 72 (by decide +kernel) rfl
theorem cd_X12_mayMake : Cond.code yX12_mayMake cX12_mayMake 5 (some .boolean) ∈ TB := TB_t 1512 (by decide +kernel) rfl
theorem gv_X12_276 : GoodIn TB (wsV RX12 276 "CopyOrdersModel" yX12_mayMake (wsO yX12_mayMake cX12_mayMake 5 (some .boolean))) := gV ml_X12_276 im_X12_mayMake sl_X12_mayMake ini_CopyOrdersModel cd_X12_mayMake
theorem hd_X12_mayMake : yX12_mayMake.cls = "CopyOrdersModel" ∧ yX12_mayMake.cls ≠ "java/lang/invoke/MethodHandle" ∧ yX12_mayMake.cls ≠ "java/lang/invoke/VarHandle" ∧ (parseMethodDescriptor yX12_mayMake.desc).map (fun d => d.parameters.length) = some 3 := by decide +kernel
theorem fl_X12_298 : Cond.fieldLink RX12 298 "CopyOrdersModel" "treeMany" "I" ∈ TB := TB_t 1192 (by decide +kernel) rfl
theorem fl_X12_349 : Cond.fieldLink RX12 349 "CopyOrdersModel" "nodes" "I" ∈ TB := TB_t 1202 (by decide +kernel) rfl
theorem ml_X12_325 : Cond.methodLink RX12 325 yX12_orderOf ∈ TB := TB_t 1594 (by decide +kernel) rfl
theorem im_X12_orderOf : Cond.instanceMethod yX12_orderOf ∈ TB := TB_t 1596 (by decide +kernel) rfl
theorem sl_X12_orderOf : Cond.selects "CopyOrdersModel" yX12_orderOf yX12_orderOf ∈ TB := TB_s 84 (by decide +kernel) rfl
theorem cd_X12_orderOf : Cond.code yX12_orderOf cX12_orderOf 3 (some .int) ∈ TB := TB_t 1597 (by decide +kernel) rfl
theorem gv_X12_325 : GoodIn TB (wsV RX12 325 "CopyOrdersModel" yX12_orderOf (wsO yX12_orderOf cX12_orderOf 3 (some .int))) := gV ml_X12_325 im_X12_orderOf sl_X12_orderOf ini_CopyOrdersModel cd_X12_orderOf
theorem hd_X12_orderOf : yX12_orderOf.cls = "CopyOrdersModel" ∧ yX12_orderOf.cls ≠ "java/lang/invoke/MethodHandle" ∧ yX12_orderOf.cls ≠ "java/lang/invoke/VarHandle" ∧ (parseMethodDescriptor yX12_orderOf.desc).map (fun d => d.parameters.length) = some 1 := by decide +kernel
theorem fl_X12_328 : Cond.fieldLink RX12 328 "CopyOrdersModel" "likely" "J" ∈ TB := TB_t 1199 (by decide +kernel) rfl
theorem ml_X12_244 : Cond.methodLink RX12 244 yX12_refuse ∈ TB := TB_t 1445 (by decide +kernel) rfl
theorem im_X12_refuse : Cond.instanceMethod yX12_refuse ∈ TB := TB_t 1447 (by decide +kernel) rfl
theorem sl_X12_refuse : Cond.selects "CopyOrdersModel" yX12_refuse yX12_refuse ∈ TB := TB_s 61 (by decide +kernel) rfl
theorem cd_X12_refuse : Cond.code yX12_refuse cX12_refuse 1 (some .int) ∈ TB := TB_t 1448 (by decide +kernel) rfl
theorem gv_X12_244 : GoodIn TB (wsV RX12 244 "CopyOrdersModel" yX12_refuse (wsO yX12_refuse cX12_refuse 1 (some .int))) := gV ml_X12_244 im_X12_refuse sl_X12_refuse ini_CopyOrdersModel cd_X12_refuse
theorem hd_X12_refuse : yX12_refuse.cls = "CopyOrdersModel" ∧ yX12_refuse.cls ≠ "java/lang/invoke/MethodHandle" ∧ yX12_refuse.cls ≠ "java/lang/invoke/VarHandle" ∧ (parseMethodDescriptor yX12_refuse.desc).map (fun d => d.parameters.length) = some 0 := by decide +kernel
theorem ml_X12_301 : Cond.methodLink RX12 301 yX12_layApart ∈ TB := TB_t 1557 (by decide +kernel) rfl
theorem im_X12_layApart : Cond.instanceMethod yX12_layApart ∈ TB := TB_t 1559 (by decide +kernel) rfl
theorem sl_X12_layApart : Cond.selects "CopyOrdersModel" yX12_layApart yX12_layApart ∈ TB := TB_s 79 (by decide +kernel) rfl
theorem cd_X12_layApart : Cond.code yX12_layApart cX12_layApart 3 none ∈ TB := TB_t 1560 (by decide +kernel) rfl
theorem gv_X12_301 : GoodIn TB (wsV RX12 301 "CopyOrdersModel" yX12_layApart (wsO yX12_layApart cX12_layApart 3 none)) := gV ml_X12_301 im_X12_layApart sl_X12_layApart ini_CopyOrdersModel cd_X12_layApart
theorem hd_X12_layApart : yX12_layApart.cls = "CopyOrdersModel" ∧ yX12_layApart.cls ≠ "java/lang/invoke/MethodHandle" ∧ yX12_layApart.cls ≠ "java/lang/invoke/VarHandle" ∧ (parseMethodDescriptor yX12_layApart.desc).map (fun d => d.parameters.length) = some 0 := by decide +kernel
theorem ml_X12_304 : Cond.methodLink RX12 304 yX12_joins ∈ TB := TB_t 1561 (by decide +kernel) rfl
theorem im_X12_joins : Cond.instanceMethod yX12_joins ∈ TB := TB_t 1563 (by decide +kernel) rfl
theorem sl_X12_joins : Cond.selects "CopyOrdersModel" yX12_joins yX12_joins ∈ TB := TB_s 80 (by decide +kernel) rfl
theorem cd_X12_joins : Cond.code yX12_joins cX12_joins 9 (some .int) ∈ TB := TB_t 1564 (by decide +kernel) rfl
theorem gv_X12_304 : GoodIn TB (wsV RX12 304 "CopyOrdersModel" yX12_joins (wsO yX12_joins cX12_joins 9 (some .int))) := gV ml_X12_304 im_X12_joins sl_X12_joins ini_CopyOrdersModel cd_X12_joins
theorem hd_X12_joins : yX12_joins.cls = "CopyOrdersModel" ∧ yX12_joins.cls ≠ "java/lang/invoke/MethodHandle" ∧ yX12_joins.cls ≠ "java/lang/invoke/VarHandle" ∧ (parseMethodDescriptor yX12_joins.desc).map (fun d => d.parameters.length) = some 1 := by decide +kernel
theorem ml_X12_295 : Cond.methodLink RX12 295 yX12_farOf ∈ TB := TB_t 1545 (by decide +kernel) rfl
theorem im_X12_farOf : Cond.instanceMethod yX12_farOf ∈ TB := TB_t 1547 (by decide +kernel) rfl
theorem sl_X12_farOf : Cond.selects "CopyOrdersModel" yX12_farOf yX12_farOf ∈ TB := TB_s 77 (by decide +kernel) rfl
theorem cd_X12_farOf : Cond.code yX12_farOf cX12_farOf 7 (some .int) ∈ TB := TB_t 1548 (by decide +kernel) rfl
theorem gv_X12_295 : GoodIn TB (wsV RX12 295 "CopyOrdersModel" yX12_farOf (wsO yX12_farOf cX12_farOf 7 (some .int))) := gV ml_X12_295 im_X12_farOf sl_X12_farOf ini_CopyOrdersModel cd_X12_farOf
theorem hd_X12_farOf : yX12_farOf.cls = "CopyOrdersModel" ∧ yX12_farOf.cls ≠ "java/lang/invoke/MethodHandle" ∧ yX12_farOf.cls ≠ "java/lang/invoke/VarHandle" ∧ (parseMethodDescriptor yX12_farOf.desc).map (fun d => d.parameters.length) = some 2 := by decide +kernel
theorem ml_X12_358 : Cond.methodLink RX12 358 yX12_lays ∈ TB := TB_t 1695 (by decide +kernel) rfl
theorem im_X12_lays : Cond.instanceMethod yX12_lays ∈ TB := TB_t 1697 (by decide +kernel) rfl
theorem sl_X12_lays : Cond.selects "CopyOrdersModel" yX12_lays yX12_lays ∈ TB := TB_s 95 (by decide +kernel) rfl
theorem cd_X12_lays : Cond.code yX12_lays cX12_lays 6 (some .int) ∈ TB := TB_t 1698 (by decide +kernel) rfl
theorem gv_X12_358 : GoodIn TB (wsV RX12 358 "CopyOrdersModel" yX12_lays (wsO yX12_lays cX12_lays 6 (some .int))) := gV ml_X12_358 im_X12_lays sl_X12_lays ini_CopyOrdersModel cd_X12_lays
theorem hd_X12_lays : yX12_lays.cls = "CopyOrdersModel" ∧ yX12_lays.cls ≠ "java/lang/invoke/MethodHandle" ∧ yX12_lays.cls ≠ "java/lang/invoke/VarHandle" ∧ (parseMethodDescriptor yX12_lays.desc).map (fun d => d.parameters.length) = some 4 := by decide +kernel
theorem fl_X12_355 : Cond.fieldLink RX12 355 "CopyOrdersModel" "top" "I" ∈ TB := TB_t 1205 (by decide +kernel) rfl
theorem ml_X12_352 : Cond.methodLink RX12 352 yX12_readAnd ∈ TB := TB_t 1679 (by decide +kernel) rfl
theorem im_X12_readAnd : Cond.instanceMethod yX12_readAnd ∈ TB := TB_t 1681 (by decide +kernel) rfl
theorem sl_X12_readAnd : Cond.selects "CopyOrdersModel" yX12_readAnd yX12_readAnd ∈ TB := TB_s 91 (by decide +kernel) rfl
theorem cd_X12_readAnd : Cond.code yX12_readAnd cX12_readAnd 2 (some .boolean) ∈ TB := TB_t 1682 (by decide +kernel) rfl
theorem gv_X12_352 : GoodIn TB (wsV RX12 352 "CopyOrdersModel" yX12_readAnd (wsO yX12_readAnd cX12_readAnd 2 (some .boolean))) := gV ml_X12_352 im_X12_readAnd sl_X12_readAnd ini_CopyOrdersModel cd_X12_readAnd
theorem hd_X12_readAnd : yX12_readAnd.cls = "CopyOrdersModel" ∧ yX12_readAnd.cls ≠ "java/lang/invoke/MethodHandle" ∧ yX12_readAnd.cls ≠ "java/lang/invoke/VarHandle" ∧ (parseMethodDescriptor yX12_readAnd.desc).map (fun d => d.parameters.length) = some 0 := by decide +kernel
theorem ml_X12_362 : Cond.methodLink RX12 362 yX12_readOne ∈ TB := TB_t 1683 (by decide +kernel) rfl
theorem im_X12_readOne : Cond.instanceMethod yX12_readOne ∈ TB := TB_t 1685 (by decide +kernel) rfl
theorem sl_X12_readOne : Cond.selects "CopyOrdersModel" yX12_readOne yX12_readOne ∈ TB := TB_s 92 (by decide +kernel) rfl
theorem cd_X12_readOne : Cond.code yX12_readOne cX12_readOne 4 (some .boolean) ∈ TB := TB_t 1686 (by decide +kernel) rfl
theorem gv_X12_362 : GoodIn TB (wsV RX12 362 "CopyOrdersModel" yX12_readOne (wsO yX12_readOne cX12_readOne 4 (some .boolean))) := gV ml_X12_362 im_X12_readOne sl_X12_readOne ini_CopyOrdersModel cd_X12_readOne
theorem hd_X12_readOne : yX12_readOne.cls = "CopyOrdersModel" ∧ yX12_readOne.cls ≠ "java/lang/invoke/MethodHandle" ∧ yX12_readOne.cls ≠ "java/lang/invoke/VarHandle" ∧ (parseMethodDescriptor yX12_readOne.desc).map (fun d => d.parameters.length) = some 0 := by decide +kernel
theorem fl_X12_365 : Cond.fieldLink RX12 365 "CopyOrdersModel" "ones" "I" ∈ TB := TB_t 1203 (by decide +kernel) rfl
theorem fl_X12_368 : Cond.fieldLink RX12 368 "CopyOrdersModel" "within" "I" ∈ TB := TB_t 1204 (by decide +kernel) rfl
theorem ml_X12_380 : Cond.methodLink RX12 380 yX12_readCompare ∈ TB := TB_t 1703 (by decide +kernel) rfl
theorem im_X12_readCompare : Cond.instanceMethod yX12_readCompare ∈ TB := TB_t 1705 (by decide +kernel) rfl
theorem sl_X12_readCompare : Cond.selects "CopyOrdersModel" yX12_readCompare yX12_readCompare ∈ TB := TB_s 97 (by decide +kernel) rfl
theorem cd_X12_readCompare : Cond.code yX12_readCompare cX12_readCompare 4 (some .boolean) ∈ TB := TB_t 1706 (by decide +kernel) rfl
theorem gv_X12_380 : GoodIn TB (wsV RX12 380 "CopyOrdersModel" yX12_readCompare (wsO yX12_readCompare cX12_readCompare 4 (some .boolean))) := gV ml_X12_380 im_X12_readCompare sl_X12_readCompare ini_CopyOrdersModel cd_X12_readCompare
theorem hd_X12_readCompare : yX12_readCompare.cls = "CopyOrdersModel" ∧ yX12_readCompare.cls ≠ "java/lang/invoke/MethodHandle" ∧ yX12_readCompare.cls ≠ "java/lang/invoke/VarHandle" ∧ (parseMethodDescriptor yX12_readCompare.desc).map (fun d => d.parameters.length) = some 1 := by decide +kernel
theorem ml_X12_377 : Cond.methodLink RX12 377 yX12_readLetters ∈ TB := TB_t 1699 (by decide +kernel) rfl
theorem im_X12_readLetters : Cond.instanceMethod yX12_readLetters ∈ TB := TB_t 1701 (by decide +kernel) rfl
theorem sl_X12_readLetters : Cond.selects "CopyOrdersModel" yX12_readLetters yX12_readLetters ∈ TB := TB_s 96 (by decide +kernel) rfl
theorem cd_X12_readLetters : Cond.code yX12_readLetters cX12_readLetters 3 (some .boolean) ∈ TB := TB_t 1702 (by decide +kernel) rfl
theorem gv_X12_377 : GoodIn TB (wsV RX12 377 "CopyOrdersModel" yX12_readLetters (wsO yX12_readLetters cX12_readLetters 3 (some .boolean))) := gV ml_X12_377 im_X12_readLetters sl_X12_readLetters ini_CopyOrdersModel cd_X12_readLetters
theorem hd_X12_readLetters : yX12_readLetters.cls = "CopyOrdersModel" ∧ yX12_readLetters.cls ≠ "java/lang/invoke/MethodHandle" ∧ yX12_readLetters.cls ≠ "java/lang/invoke/VarHandle" ∧ (parseMethodDescriptor yX12_readLetters.desc).map (fun d => d.parameters.length) = some 1 := by decide +kernel
theorem ml_X12_374 : Cond.methodLink RX12 374 yX12_readNot ∈ TB := TB_t 1691 (by decide +kernel) rfl
theorem im_X12_readNot : Cond.instanceMethod yX12_readNot ∈ TB := TB_t 1693 (by decide +kernel) rfl
theorem sl_X12_readNot : Cond.selects "CopyOrdersModel" yX12_readNot yX12_readNot ∈ TB := TB_s 94 (by decide +kernel) rfl
theorem cd_X12_readNot : Cond.code yX12_readNot cX12_readNot 1 (some .boolean) ∈ TB := TB_t 1694 (by decide +kernel) rfl
theorem gv_X12_374 : GoodIn TB (wsV RX12 374 "CopyOrdersModel" yX12_readNot (wsO yX12_readNot cX12_readNot 1 (some .boolean))) := gV ml_X12_374 im_X12_readNot sl_X12_readNot ini_CopyOrdersModel cd_X12_readNot
theorem hd_X12_readNot : yX12_readNot.cls = "CopyOrdersModel" ∧ yX12_readNot.cls ≠ "java/lang/invoke/MethodHandle" ∧ yX12_readNot.cls ≠ "java/lang/invoke/VarHandle" ∧ (parseMethodDescriptor yX12_readNot.desc).map (fun d => d.parameters.length) = some 0 := by decide +kernel
theorem ml_X12_371 : Cond.methodLink RX12 371 yX12_readBracket ∈ TB := TB_t 1687 (by decide +kernel) rfl
theorem im_X12_readBracket : Cond.instanceMethod yX12_readBracket ∈ TB := TB_t 1689 (by decide +kernel) rfl
theorem sl_X12_readBracket : Cond.selects "CopyOrdersModel" yX12_readBracket yX12_readBracket ∈ TB := TB_s 93 (by decide +kernel) rfl
theorem cd_X12_readBracket : Cond.code yX12_readBracket cX12_readBracket 1 (some .boolean) ∈ TB := TB_t 1690 (by decide +kernel) rfl
theorem gv_X12_371 : GoodIn TB (wsV RX12 371 "CopyOrdersModel" yX12_readBracket (wsO yX12_readBracket cX12_readBracket 1 (some .boolean))) := gV ml_X12_371 im_X12_readBracket sl_X12_readBracket ini_CopyOrdersModel cd_X12_readBracket
theorem hd_X12_readBracket : yX12_readBracket.cls = "CopyOrdersModel" ∧ yX12_readBracket.cls ≠ "java/lang/invoke/MethodHandle" ∧ yX12_readBracket.cls ≠ "java/lang/invoke/VarHandle" ∧ (parseMethodDescriptor yX12_readBracket.desc).map (fun d => d.parameters.length) = some 0 := by decide +kernel
theorem ml_X12_383 : Cond.methodLink RX12 383 yX12_readOr ∈ TB := TB_t 1675 (by decide +kernel) rfl
theorem im_X12_readOr : Cond.instanceMethod yX12_readOr ∈ TB := TB_t 1677 (by decide +kernel) rfl
theorem sl_X12_readOr : Cond.selects "CopyOrdersModel" yX12_readOr yX12_readOr ∈ TB := TB_s 90 (by decide +kernel) rfl
theorem cd_X12_readOr : Cond.code yX12_readOr cX12_readOr 2 (some .boolean) ∈ TB := TB_t 1678 (by decide +kernel) rfl
theorem gv_X12_383 : GoodIn TB (wsV RX12 383 "CopyOrdersModel" yX12_readOr (wsO yX12_readOr cX12_readOr 2 (some .boolean))) := gV ml_X12_383 im_X12_readOr sl_X12_readOr ini_CopyOrdersModel cd_X12_readOr
theorem hd_X12_readOr : yX12_readOr.cls = "CopyOrdersModel" ∧ yX12_readOr.cls ≠ "java/lang/invoke/MethodHandle" ∧ yX12_readOr.cls ≠ "java/lang/invoke/VarHandle" ∧ (parseMethodDescriptor yX12_readOr.desc).map (fun d => d.parameters.length) = some 0 := by decide +kernel
theorem kc_X12_319 : Cond.constantLong RX12 319 (-1) ∈ TB := TB_t 1577 (by decide +kernel) rfl
theorem ml_X12_346 : Cond.methodLink RX12 346 yX12_reaches ∈ TB := TB_t 1667 (by decide +kernel) rfl
theorem im_X12_reaches : Cond.instanceMethod yX12_reaches ∈ TB := TB_t 1669 (by decide +kernel) rfl
theorem sl_X12_reaches : Cond.selects "CopyOrdersModel" yX12_reaches yX12_reaches ∈ TB := TB_s 89 (by decide +kernel) rfl
theorem cd_X12_reaches : Cond.code yX12_reaches cX12_reaches 5 (some .int) ∈ TB := TB_t 1670 (by decide +kernel) rfl
theorem gv_X12_346 : GoodIn TB (wsV RX12 346 "CopyOrdersModel" yX12_reaches (wsO yX12_reaches cX12_reaches 5 (some .int))) := gV ml_X12_346 im_X12_reaches sl_X12_reaches ini_CopyOrdersModel cd_X12_reaches
theorem hd_X12_reaches : yX12_reaches.cls = "CopyOrdersModel" ∧ yX12_reaches.cls ≠ "java/lang/invoke/MethodHandle" ∧ yX12_reaches.cls ≠ "java/lang/invoke/VarHandle" ∧ (parseMethodDescriptor yX12_reaches.desc).map (fun d => d.parameters.length) = some 3 := by decide +kernel
