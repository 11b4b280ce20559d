/-! what the law's rows ask of the tables -/
def wsW (y : MethodName) (b : ByteArray) (n : Nat) (r : Option FieldType) (hh : List (Nat × Nat × Nat × Nat)) : List Cond := Cond.codeWith y b n r hh :: TB
theorem gOW {y : MethodName} {b : ByteArray} {n : Nat} {r : Option FieldType} {hh : List (Nat × Nat × Nat × Nat)} (h : Cond.codeWith y b n r hh ∈ TB) : GoodIn TB (wsW y b n r hh) := fun w hw => by
  have h1 : w ∈ TB := by
    rcases List.mem_cons.mp hw with e | e
    · rw [e]; exact h
    · exact e
  exact ⟨h1, good_of_word (TB_good w h1)⟩
theorem gSW {own : String} {idx : Nat} {y : MethodName} {b : ByteArray} {n : Nat} {r : Option FieldType} {hh : List (Nat × Nat × Nat × Nat)} (h1 : Cond.methodLink own idx y ∈ TB) (h2 : Cond.static y ∈ TB) (h4 : Cond.initialized y.cls ∈ TB) (h5 : Cond.codeWith y b n r hh ∈ TB) : GoodIn TB (va_wsS own idx y (wsW y b n r hh)) := by
  refine gApp (fun w hw => ?_) (gOW h5)
  rcases List.mem_cons.mp hw with e | hw
  · rw [e]; exact h1
  rcases List.mem_cons.mp hw with e | hw
  · rw [e]; exact h2
  · rw [List.mem_singleton.mp hw]; exact h4
theorem ml_L_23 : Cond.methodLink RL 23 yX11_feed ∈ TB := TB_t 365 (by decide +kernel) rfl
theorem im_X11_feed : Cond.instanceMethod yX11_feed ∈ TB := TB_t 366 (by decide +kernel) rfl
theorem sl_X11_feed : Cond.selects "CopyOrders" yX11_feed yX11_feed ∈ TB := TB_t 367 (by decide +kernel) rfl
theorem cd_X11_feed : Cond.code yX11_feed cX11_feed 6 (some .int) ∈ TB := TB_t 368 (by decide +kernel) rfl
theorem gv_L_23 : GoodIn TB (wsV RL 23 "CopyOrders" yX11_feed (wsO yX11_feed cX11_feed 6 (some .int))) := gV ml_L_23 im_X11_feed sl_X11_feed ini_CopyOrders cd_X11_feed
theorem hd_X11_feed : yX11_feed.cls = "CopyOrders" ∧ yX11_feed.cls ≠ "java/lang/invoke/MethodHandle" ∧ yX11_feed.cls ≠ "java/lang/invoke/VarHandle" ∧ (parseMethodDescriptor yX11_feed.desc).map (fun d => d.parameters.length) = some 5 := by decide +kernel
theorem ml_L_27 : Cond.methodLink RL 27 yX12_feed ∈ TB := TB_t 1305 (by decide +kernel) rfl
theorem im_X12_feed : Cond.instanceMethod yX12_feed ∈ TB := TB_t 1306 (by decide +kernel) rfl
theorem sl_X12_feed : Cond.selects "CopyOrdersModel" yX12_feed yX12_feed ∈ TB := TB_t 1307 (by decide +kernel) rfl
theorem cd_X12_feed : Cond.code yX12_feed cX12_feed 6 (some .int) ∈ TB := TB_t 1308 (by decide +kernel) rfl
theorem gv_L_27 : GoodIn TB (wsV RL 27 "CopyOrdersModel" yX12_feed (wsO yX12_feed cX12_feed 6 (some .int))) := gV ml_L_27 im_X12_feed sl_X12_feed ini_CopyOrdersModel cd_X12_feed
theorem hd_X12_feed : yX12_feed.cls = "CopyOrdersModel" ∧ yX12_feed.cls ≠ "java/lang/invoke/MethodHandle" ∧ yX12_feed.cls ≠ "java/lang/invoke/VarHandle" ∧ (parseMethodDescriptor yX12_feed.desc).map (fun d => d.parameters.length) = some 5 := by decide +kernel
theorem ml_L_28 : Cond.methodLink RL 28 yX11_end ∈ TB := TB_t 373 (by decide +kernel) rfl
theorem im_X11_end : Cond.instanceMethod yX11_end ∈ TB := TB_t 374 (by decide +kernel) rfl
theorem sl_X11_end : Cond.selects "CopyOrders" yX11_end yX11_end ∈ TB := TB_t 375 (by decide +kernel) rfl
theorem cd_X11_end : Cond.code yX11_end cX11_end 2 (some .boolean) ∈ TB := TB_t 376 (by decide +kernel) rfl
theorem gv_L_28 : GoodIn TB (wsV RL 28 "CopyOrders" yX11_end (wsO yX11_end cX11_end 2 (some .boolean))) := gV ml_L_28 im_X11_end sl_X11_end ini_CopyOrders cd_X11_end
theorem hd_X11_end : yX11_end.cls = "CopyOrders" ∧ yX11_end.cls ≠ "java/lang/invoke/MethodHandle" ∧ yX11_end.cls ≠ "java/lang/invoke/VarHandle" ∧ (parseMethodDescriptor yX11_end.desc).map (fun d => d.parameters.length) = some 1 := by decide +kernel
theorem ml_L_32 : Cond.methodLink RL 32 yX12_end ∈ TB := TB_t 1313 (by decide +kernel) rfl
theorem im_X12_end : Cond.instanceMethod yX12_end ∈ TB := TB_t 1314 (by decide +kernel) rfl
theorem sl_X12_end : Cond.selects "CopyOrdersModel" yX12_end yX12_end ∈ TB := TB_t 1315 (by decide +kernel) rfl
theorem cd_X12_end : Cond.code yX12_end cX12_end 2 (some .boolean) ∈ TB := TB_t 1316 (by decide +kernel) rfl
theorem gv_L_32 : GoodIn TB (wsV RL 32 "CopyOrdersModel" yX12_end (wsO yX12_end cX12_end 2 (some .boolean))) := gV ml_L_32 im_X12_end sl_X12_end ini_CopyOrdersModel cd_X12_end
theorem hd_X12_end : yX12_end.cls = "CopyOrdersModel" ∧ yX12_end.cls ≠ "java/lang/invoke/MethodHandle" ∧ yX12_end.cls ≠ "java/lang/invoke/VarHandle" ∧ (parseMethodDescriptor yX12_end.desc).map (fun d => d.parameters.length) = some 1 := by decide +kernel
theorem ml_L_33 : Cond.methodLink RL 33 yX11_house ∈ TB := TB_t 377 (by decide +kernel) rfl
theorem im_X11_house : Cond.instanceMethod yX11_house ∈ TB := TB_t 378 (by decide +kernel) rfl
theorem sl_X11_house : Cond.selects "CopyOrders" yX11_house yX11_house ∈ TB := TB_t 379 (by decide +kernel) rfl
theorem cd_X11_house : Cond.code yX11_house cX11_house 3 (some .int) ∈ TB := TB_t 380 (by decide +kernel) rfl
theorem gv_L_33 : GoodIn TB (wsV RL 33 "CopyOrders" yX11_house (wsO yX11_house cX11_house 3 (some .int))) := gV ml_L_33 im_X11_house sl_X11_house ini_CopyOrders cd_X11_house
theorem hd_X11_house : yX11_house.cls = "CopyOrders" ∧ yX11_house.cls ≠ "java/lang/invoke/MethodHandle" ∧ yX11_house.cls ≠ "java/lang/invoke/VarHandle" ∧ (parseMethodDescriptor yX11_house.desc).map (fun d => d.parameters.length) = some 0 := by decide +kernel
theorem ml_L_37 : Cond.methodLink RL 37 yX12_house ∈ TB := TB_t 1317 (by decide +kernel) rfl
theorem im_X12_house : Cond.instanceMethod yX12_house ∈ TB := TB_t 1318 (by decide +kernel) rfl
theorem sl_X12_house : Cond.selects "CopyOrdersModel" yX12_house yX12_house ∈ TB := TB_t 1319 (by decide +kernel) rfl
theorem cd_X12_house : Cond.code yX12_house cX12_house 3 (some .int) ∈ TB := TB_t 1320 (by decide +kernel) rfl
theorem gv_L_37 : GoodIn TB (wsV RL 37 "CopyOrdersModel" yX12_house (wsO yX12_house cX12_house 3 (some .int))) := gV ml_L_37 im_X12_house sl_X12_house ini_CopyOrdersModel cd_X12_house
theorem hd_X12_house : yX12_house.cls = "CopyOrdersModel" ∧ yX12_house.cls ≠ "java/lang/invoke/MethodHandle" ∧ yX12_house.cls ≠ "java/lang/invoke/VarHandle" ∧ (parseMethodDescriptor yX12_house.desc).map (fun d => d.parameters.length) = some 0 := by decide +kernel
theorem ml_L_38 : Cond.methodLink RL 38 yX11_fault ∈ TB := TB_t 556 (by decide +kernel) rfl
theorem im_X11_fault : Cond.instanceMethod yX11_fault ∈ TB := TB_t 557 (by decide +kernel) rfl
theorem sl_X11_fault : Cond.selects "CopyOrders" yX11_fault yX11_fault ∈ TB := TB_t 558 (by decide +kernel) rfl
theorem cd_X11_fault : Cond.code yX11_fault cX11_fault 1 (some .int) ∈ TB := TB_t 559 (by decide +kernel) rfl
theorem gv_L_38 : GoodIn TB (wsV RL 38 "CopyOrders" yX11_fault (wsO yX11_fault cX11_fault 1 (some .int))) := gV ml_L_38 im_X11_fault sl_X11_fault ini_CopyOrders cd_X11_fault
theorem hd_X11_fault : yX11_fault.cls = "CopyOrders" ∧ yX11_fault.cls ≠ "java/lang/invoke/MethodHandle" ∧ yX11_fault.cls ≠ "java/lang/invoke/VarHandle" ∧ (parseMethodDescriptor yX11_fault.desc).map (fun d => d.parameters.length) = some 0 := by decide +kernel
theorem ml_L_41 : Cond.methodLink RL 41 yX12_fault ∈ TB := TB_t 1425 (by decide +kernel) rfl
theorem im_X12_fault : Cond.instanceMethod yX12_fault ∈ TB := TB_t 1426 (by decide +kernel) rfl
theorem sl_X12_fault : Cond.selects "CopyOrdersModel" yX12_fault yX12_fault ∈ TB := TB_t 1427 (by decide +kernel) rfl
theorem cd_X12_fault : Cond.code yX12_fault cX12_fault 1 (some .int) ∈ TB := TB_t 1428 (by decide +kernel) rfl
theorem gv_L_41 : GoodIn TB (wsV RL 41 "CopyOrdersModel" yX12_fault (wsO yX12_fault cX12_fault 1 (some .int))) := gV ml_L_41 im_X12_fault sl_X12_fault ini_CopyOrdersModel cd_X12_fault
theorem hd_X12_fault : yX12_fault.cls = "CopyOrdersModel" ∧ yX12_fault.cls ≠ "java/lang/invoke/MethodHandle" ∧ yX12_fault.cls ≠ "java/lang/invoke/VarHandle" ∧ (parseMethodDescriptor yX12_fault.desc).map (fun d => d.parameters.length) = some 0 := by decide +kernel
theorem ml_L_47 : Cond.methodLink RL 47 yX12_line ∈ TB := TB_t 1429 (by decide +kernel) rfl
theorem im_X12_line : Cond.instanceMethod yX12_line ∈ TB := TB_t 1430 (by decide +kernel) rfl
theorem sl_X12_line : Cond.selects "CopyOrdersModel" yX12_line yX12_line ∈ TB := TB_t 1431 (by decide +kernel) rfl
theorem cd_X12_line : Cond.code yX12_line cX12_line 3 (some .int) ∈ TB := TB_t 1432 (by decide +kernel) rfl
theorem gv_L_47 : GoodIn TB (wsV RL 47 "CopyOrdersModel" yX12_line (wsO yX12_line cX12_line 3 (some .int))) := gV ml_L_47 im_X12_line sl_X12_line ini_CopyOrdersModel cd_X12_line
theorem hd_X12_line : yX12_line.cls = "CopyOrdersModel" ∧ yX12_line.cls ≠ "java/lang/invoke/MethodHandle" ∧ yX12_line.cls ≠ "java/lang/invoke/VarHandle" ∧ (parseMethodDescriptor yX12_line.desc).map (fun d => d.parameters.length) = some 2 := by decide +kernel
theorem ml_L_48 : Cond.methodLink RL 48 yX12_thrown ∈ TB := TB_t 1301 (by decide +kernel) rfl
theorem im_X12_thrown : Cond.instanceMethod yX12_thrown ∈ TB := TB_t 1302 (by decide +kernel) rfl
theorem sl_X12_thrown : Cond.selects "CopyOrdersModel" yX12_thrown yX12_thrown ∈ TB := TB_t 1303 (by decide +kernel) rfl
theorem cd_X12_thrown : Cond.code yX12_thrown cX12_thrown 1 (some .int) ∈ TB := TB_t 1304 (by decide +kernel) rfl
theorem gv_L_48 : GoodIn TB (wsV RL 48 "CopyOrdersModel" yX12_thrown (wsO yX12_thrown cX12_thrown 1 (some .int))) := gV ml_L_48 im_X12_thrown sl_X12_thrown ini_CopyOrdersModel cd_X12_thrown
theorem hd_X12_thrown : yX12_thrown.cls = "CopyOrdersModel" ∧ yX12_thrown.cls ≠ "java/lang/invoke/MethodHandle" ∧ yX12_thrown.cls ≠ "java/lang/invoke/VarHandle" ∧ (parseMethodDescriptor yX12_thrown.desc).map (fun d => d.parameters.length) = some 0 := by decide +kernel
theorem ml_L_51 : Cond.methodLink RL 51 yX11_size ∈ TB := TB_t 560 (by decide +kernel) rfl
theorem im_X11_size : Cond.instanceMethod yX11_size ∈ TB := TB_t 561 (by decide +kernel) rfl
theorem sl_X11_size : Cond.selects "CopyOrders" yX11_size yX11_size ∈ TB := TB_t 562 (by decide +kernel) rfl
theorem cd_X11_size : Cond.code yX11_size cX11_size 3 (some .int) ∈ TB := TB_t 563 (by decide +kernel) rfl
theorem gv_L_51 : GoodIn TB (wsV RL 51 "CopyOrders" yX11_size (wsO yX11_size cX11_size 3 (some .int))) := gV ml_L_51 im_X11_size sl_X11_size ini_CopyOrders cd_X11_size
theorem hd_X11_size : yX11_size.cls = "CopyOrders" ∧ yX11_size.cls ≠ "java/lang/invoke/MethodHandle" ∧ yX11_size.cls ≠ "java/lang/invoke/VarHandle" ∧ (parseMethodDescriptor yX11_size.desc).map (fun d => d.parameters.length) = some 1 := by decide +kernel
theorem ml_L_55 : Cond.methodLink RL 55 yX12_size ∈ TB := TB_t 1453 (by decide +kernel) rfl
theorem im_X12_size : Cond.instanceMethod yX12_size ∈ TB := TB_t 1454 (by decide +kernel) rfl
theorem sl_X12_size : Cond.selects "CopyOrdersModel" yX12_size yX12_size ∈ TB := TB_t 1455 (by decide +kernel) rfl
theorem cd_X12_size : Cond.code yX12_size cX12_size 2 (some .int) ∈ TB := TB_t 1456 (by decide +kernel) rfl
theorem gv_L_55 : GoodIn TB (wsV RL 55 "CopyOrdersModel" yX12_size (wsO yX12_size cX12_size 2 (some .int))) := gV ml_L_55 im_X12_size sl_X12_size ini_CopyOrdersModel cd_X12_size
theorem hd_X12_size : yX12_size.cls = "CopyOrdersModel" ∧ yX12_size.cls ≠ "java/lang/invoke/MethodHandle" ∧ yX12_size.cls ≠ "java/lang/invoke/VarHandle" ∧ (parseMethodDescriptor yX12_size.desc).map (fun d => d.parameters.length) = some 1 := by decide +kernel
theorem ml_L_56 : Cond.methodLink RL 56 yX11_add ∈ TB := TB_t 568 (by decide +kernel) rfl
theorem im_X11_add : Cond.instanceMethod yX11_add ∈ TB := TB_t 569 (by decide +kernel) rfl
theorem sl_X11_add : Cond.selects "CopyOrders" yX11_add yX11_add ∈ TB := TB_t 570 (by decide +kernel) rfl
theorem cd_X11_add : Cond.code yX11_add cX11_add 5 (some .int) ∈ TB := TB_t 571 (by decide +kernel) rfl
theorem gv_L_56 : GoodIn TB (wsV RL 56 "CopyOrders" yX11_add (wsO yX11_add cX11_add 5 (some .int))) := gV ml_L_56 im_X11_add sl_X11_add ini_CopyOrders cd_X11_add
theorem hd_X11_add : yX11_add.cls = "CopyOrders" ∧ yX11_add.cls ≠ "java/lang/invoke/MethodHandle" ∧ yX11_add.cls ≠ "java/lang/invoke/VarHandle" ∧ (parseMethodDescriptor yX11_add.desc).map (fun d => d.parameters.length) = some 0 := by decide +kernel
theorem ml_L_59 : Cond.methodLink RL 59 yX12_add ∈ TB := TB_t 1457 (by decide +kernel) rfl
theorem im_X12_add : Cond.instanceMethod yX12_add ∈ TB := TB_t 1458 (by decide +kernel) rfl
theorem sl_X12_add : Cond.selects "CopyOrdersModel" yX12_add yX12_add ∈ TB := TB_t 1459 (by decide +kernel) rfl
theorem cd_X12_add : Cond.code yX12_add cX12_add 5 (some .int) ∈ TB := TB_t 1460 (by decide +kernel) rfl
theorem gv_L_59 : GoodIn TB (wsV RL 59 "CopyOrdersModel" yX12_add (wsO yX12_add cX12_add 5 (some .int))) := gV ml_L_59 im_X12_add sl_X12_add ini_CopyOrdersModel cd_X12_add
theorem hd_X12_add : yX12_add.cls = "CopyOrdersModel" ∧ yX12_add.cls ≠ "java/lang/invoke/MethodHandle" ∧ yX12_add.cls ≠ "java/lang/invoke/VarHandle" ∧ (parseMethodDescriptor yX12_add.desc).map (fun d => d.parameters.length) = some 0 := by decide +kernel
theorem ml_L_60 : Cond.methodLink RL 60 yX11_order ∈ TB := TB_t 579 (by decide +kernel) rfl
theorem im_X11_order : Cond.instanceMethod yX11_order ∈ TB := TB_t 580 (by decide +kernel) rfl
theorem sl_X11_order : Cond.selects "CopyOrders" yX11_order yX11_order ∈ TB := TB_t 581 (by decide +kernel) rfl
theorem cd_X11_order : Cond.code yX11_order cX11_order 4 (some .int) ∈ TB := TB_t 582 (by decide +kernel) rfl
theorem gv_L_60 : GoodIn TB (wsV RL 60 "CopyOrders" yX11_order (wsO yX11_order cX11_order 4 (some .int))) := gV ml_L_60 im_X11_order sl_X11_order ini_CopyOrders cd_X11_order
theorem hd_X11_order : yX11_order.cls = "CopyOrders" ∧ yX11_order.cls ≠ "java/lang/invoke/MethodHandle" ∧ yX11_order.cls ≠ "java/lang/invoke/VarHandle" ∧ (parseMethodDescriptor yX11_order.desc).map (fun d => d.parameters.length) = some 2 := by decide +kernel
theorem ml_L_63 : Cond.methodLink RL 63 yX12_order ∈ TB := TB_t 1465 (by decide +kernel) rfl
theorem im_X12_order : Cond.instanceMethod yX12_order ∈ TB := TB_t 1466 (by decide +kernel) rfl
theorem sl_X12_order : Cond.selects "CopyOrdersModel" yX12_order yX12_order ∈ TB := TB_t 1467 (by decide +kernel) rfl
theorem cd_X12_order : Cond.code yX12_order cX12_order 3 (some .int) ∈ TB := TB_t 1468 (by decide +kernel) rfl
theorem gv_L_63 : GoodIn TB (wsV RL 63 "CopyOrdersModel" yX12_order (wsO yX12_order cX12_order 3 (some .int))) := gV ml_L_63 im_X12_order sl_X12_order ini_CopyOrdersModel cd_X12_order
theorem hd_X12_order : yX12_order.cls = "CopyOrdersModel" ∧ yX12_order.cls ≠ "java/lang/invoke/MethodHandle" ∧ yX12_order.cls ≠ "java/lang/invoke/VarHandle" ∧ (parseMethodDescriptor yX12_order.desc).map (fun d => d.parameters.length) = some 2 := by decide +kernel
theorem ml_L_64 : Cond.methodLink RL 64 yX11_between ∈ TB := TB_t 658 (by decide +kernel) rfl
theorem im_X11_between : Cond.instanceMethod yX11_between ∈ TB := TB_t 659 (by decide +kernel) rfl
theorem sl_X11_between : Cond.selects "CopyOrders" yX11_between yX11_between ∈ TB := TB_t 660 (by decide +kernel) rfl
theorem cd_X11_between : Cond.code yX11_between cX11_between 6 (some .int) ∈ TB := TB_t 661 (by decide +kernel) rfl
theorem gv_L_64 : GoodIn TB (wsV RL 64 "CopyOrders" yX11_between (wsO yX11_between cX11_between 6 (some .int))) := gV ml_L_64 im_X11_between sl_X11_between ini_CopyOrders cd_X11_between
theorem hd_X11_between : yX11_between.cls = "CopyOrders" ∧ yX11_between.cls ≠ "java/lang/invoke/MethodHandle" ∧ yX11_between.cls ≠ "java/lang/invoke/VarHandle" ∧ (parseMethodDescriptor yX11_between.desc).map (fun d => d.parameters.length) = some 3 := by decide +kernel
theorem ml_L_68 : Cond.methodLink RL 68 yX12_between ∈ TB := TB_t 1481 (by decide +kernel) rfl
theorem im_X12_between : Cond.instanceMethod yX12_between ∈ TB := TB_t 1482 (by decide +kernel) rfl
theorem sl_X12_between : Cond.selects "CopyOrdersModel" yX12_between yX12_between ∈ TB := TB_t 1483 (by decide +kernel) rfl
theorem cd_X12_between : Cond.code yX12_between cX12_between 4 (some .int) ∈ TB := TB_t 1484 (by decide +kernel) rfl
theorem gv_L_68 : GoodIn TB (wsV RL 68 "CopyOrdersModel" yX12_between (wsO yX12_between cX12_between 4 (some .int))) := gV ml_L_68 im_X12_between sl_X12_between ini_CopyOrdersModel cd_X12_between
theorem hd_X12_between : yX12_between.cls = "CopyOrdersModel" ∧ yX12_between.cls ≠ "java/lang/invoke/MethodHandle" ∧ yX12_between.cls ≠ "java/lang/invoke/VarHandle" ∧ (parseMethodDescriptor yX12_between.desc).map (fun d => d.parameters.length) = some 3 := by decide +kernel
theorem ml_L_69 : Cond.methodLink RL 69 yX11_made ∈ TB := TB_t 682 (by decide +kernel) rfl
theorem im_X11_made : Cond.instanceMethod yX11_made ∈ TB := TB_t 683 (by decide +kernel) rfl
theorem sl_X11_made : Cond.selects "CopyOrders" yX11_made yX11_made ∈ TB := TB_t 684 (by decide +kernel) rfl
theorem cd_X11_made : Cond.code yX11_made cX11_made 7 (some .int) ∈ TB := TB_t 685 (by decide +kernel) rfl
theorem gv_L_69 : GoodIn TB (wsV RL 69 "CopyOrders" yX11_made (wsO yX11_made cX11_made 7 (some .int))) := gV ml_L_69 im_X11_made sl_X11_made ini_CopyOrders cd_X11_made
theorem hd_X11_made : yX11_made.cls = "CopyOrders" ∧ yX11_made.cls ≠ "java/lang/invoke/MethodHandle" ∧ yX11_made.cls ≠ "java/lang/invoke/VarHandle" ∧ (parseMethodDescriptor yX11_made.desc).map (fun d => d.parameters.length) = some 2 := by decide +kernel
theorem ml_L_72 : Cond.methodLink RL 72 yX12_made ∈ TB := TB_t 1505 (by decide +kernel) rfl
theorem im_X12_made : Cond.instanceMethod yX12_made ∈ TB := TB_t 1506 (by decide +kernel) rfl
theorem sl_X12_made : Cond.selects "CopyOrdersModel" yX12_made yX12_made ∈ TB := TB_t 1507 (by decide +kernel) rfl
theorem cd_X12_made : Cond.code yX12_made cX12_made 5 (some .int) ∈ TB := TB_t 1508 (by decide +kernel) rfl
theorem gv_L_72 : GoodIn TB (wsV RL 72 "CopyOrdersModel" yX12_made (wsO yX12_made cX12_made 5 (some .int))) := gV ml_L_72 im_X12_made sl_X12_made ini_CopyOrdersModel cd_X12_made
theorem hd_X12_made : yX12_made.cls = "CopyOrdersModel" ∧ yX12_made.cls ≠ "java/lang/invoke/MethodHandle" ∧ yX12_made.cls ≠ "java/lang/invoke/VarHandle" ∧ (parseMethodDescriptor yX12_made.desc).map (fun d => d.parameters.length) = some 2 := by decide +kernel
theorem ml_L_73 : Cond.methodLink RL 73 yX11_fewest ∈ TB := TB_t 693 (by decide +kernel) rfl
theorem im_X11_fewest : Cond.instanceMethod yX11_fewest ∈ TB := TB_t 694 (by decide +kernel) rfl
theorem sl_X11_fewest : Cond.selects "CopyOrders" yX11_fewest yX11_fewest ∈ TB := TB_t 695 (by decide +kernel) rfl
theorem cd_X11_fewest : Cond.code yX11_fewest cX11_fewest 7 (some .int) ∈ TB := TB_t 696 (by decide +kernel) rfl
theorem gv_L_73 : GoodIn TB (wsV RL 73 "CopyOrders" yX11_fewest (wsO yX11_fewest cX11_fewest 7 (some .int))) := gV ml_L_73 im_X11_fewest sl_X11_fewest ini_CopyOrders cd_X11_fewest
theorem hd_X11_fewest : yX11_fewest.cls = "CopyOrders" ∧ yX11_fewest.cls ≠ "java/lang/invoke/MethodHandle" ∧ yX11_fewest.cls ≠ "java/lang/invoke/VarHandle" ∧ (parseMethodDescriptor yX11_fewest.desc).map (fun d => d.parameters.length) = some 3 := by decide +kernel
theorem ml_L_76 : Cond.methodLink RL 76 yX12_fewest ∈ TB := TB_t 1513 (by decide +kernel) rfl
theorem im_X12_fewest : Cond.instanceMethod yX12_fewest ∈ TB := TB_t 1514 (by decide +kernel) rfl
theorem sl_X12_fewest : Cond.selects "CopyOrdersModel" yX12_fewest yX12_fewest ∈ TB := TB_t 1515 (by decide +kernel) rfl
theorem cd_X12_fewest : Cond.code yX12_fewest cX12_fewest 4 (some .int) ∈ TB := TB_t 1516 (by decide +kernel) rfl
theorem gv_L_76 : GoodIn TB (wsV RL 76 "CopyOrdersModel" yX12_fewest (wsO yX12_fewest cX12_fewest 4 (some .int))) := gV ml_L_76 im_X12_fewest sl_X12_fewest ini_CopyOrdersModel cd_X12_fewest
theorem hd_X12_fewest : yX12_fewest.cls = "CopyOrdersModel" ∧ yX12_fewest.cls ≠ "java/lang/invoke/MethodHandle" ∧ yX12_fewest.cls ≠ "java/lang/invoke/VarHandle" ∧ (parseMethodDescriptor yX12_fewest.desc).map (fun d => d.parameters.length) = some 3 := by decide +kernel
theorem ml_L_77 : Cond.methodLink RL 77 yX11_just ∈ TB := TB_t 710 (by decide +kernel) rfl
theorem im_X11_just : Cond.instanceMethod yX11_just ∈ TB := TB_t 711 (by decide +kernel) rfl
theorem sl_X11_just : Cond.selects "CopyOrders" yX11_just yX11_just ∈ TB := TB_t 712 (by decide +kernel) rfl
theorem cd_X11_just : Cond.code yX11_just cX11_just 8 (some .int) ∈ TB := TB_t 713 (by decide +kernel) rfl
theorem gv_L_77 : GoodIn TB (wsV RL 77 "CopyOrders" yX11_just (wsO yX11_just cX11_just 8 (some .int))) := gV ml_L_77 im_X11_just sl_X11_just ini_CopyOrders cd_X11_just
theorem hd_X11_just : yX11_just.cls = "CopyOrders" ∧ yX11_just.cls ≠ "java/lang/invoke/MethodHandle" ∧ yX11_just.cls ≠ "java/lang/invoke/VarHandle" ∧ (parseMethodDescriptor yX11_just.desc).map (fun d => d.parameters.length) = some 4 := by decide +kernel
theorem ml_L_81 : Cond.methodLink RL 81 yX12_just ∈ TB := TB_t 1533 (by decide +kernel) rfl
theorem im_X12_just : Cond.instanceMethod yX12_just ∈ TB := TB_t 1534 (by decide +kernel) rfl
theorem sl_X12_just : Cond.selects "CopyOrdersModel" yX12_just yX12_just ∈ TB := TB_t 1535 (by decide +kernel) rfl
theorem cd_X12_just : Cond.code yX12_just cX12_just 8 (some .int) ∈ TB := TB_t 1536 (by decide +kernel) rfl
theorem gv_L_81 : GoodIn TB (wsV RL 81 "CopyOrdersModel" yX12_just (wsO yX12_just cX12_just 8 (some .int))) := gV ml_L_81 im_X12_just sl_X12_just ini_CopyOrdersModel cd_X12_just
theorem hd_X12_just : yX12_just.cls = "CopyOrdersModel" ∧ yX12_just.cls ≠ "java/lang/invoke/MethodHandle" ∧ yX12_just.cls ≠ "java/lang/invoke/VarHandle" ∧ (parseMethodDescriptor yX12_just.desc).map (fun d => d.parameters.length) = some 4 := by decide +kernel
theorem ml_L_82 : Cond.methodLink RL 82 yX11_judge ∈ TB := TB_t 719 (by decide +kernel) rfl
theorem im_X11_judge : Cond.instanceMethod yX11_judge ∈ TB := TB_t 720 (by decide +kernel) rfl
theorem sl_X11_judge : Cond.selects "CopyOrders" yX11_judge yX11_judge ∈ TB := TB_t 721 (by decide +kernel) rfl
theorem cd_X11_judge : Cond.code yX11_judge cX11_judge 7 (some .int) ∈ TB := TB_t 722 (by decide +kernel) rfl
theorem gv_L_82 : GoodIn TB (wsV RL 82 "CopyOrders" yX11_judge (wsO yX11_judge cX11_judge 7 (some .int))) := gV ml_L_82 im_X11_judge sl_X11_judge ini_CopyOrders cd_X11_judge
theorem hd_X11_judge : yX11_judge.cls = "CopyOrders" ∧ yX11_judge.cls ≠ "java/lang/invoke/MethodHandle" ∧ yX11_judge.cls ≠ "java/lang/invoke/VarHandle" ∧ (parseMethodDescriptor yX11_judge.desc).map (fun d => d.parameters.length) = some 1 := by decide +kernel
theorem ml_L_85 : Cond.methodLink RL 85 yX12_judge ∈ TB := TB_t 1537 (by decide +kernel) rfl
theorem im_X12_judge : Cond.instanceMethod yX12_judge ∈ TB := TB_t 1538 (by decide +kernel) rfl
theorem sl_X12_judge : Cond.selects "CopyOrdersModel" yX12_judge yX12_judge ∈ TB := TB_t 1539 (by decide +kernel) rfl
theorem cd_X12_judge : Cond.code yX12_judge cX12_judge 4 (some .int) ∈ TB := TB_t 1540 (by decide +kernel) rfl
theorem gv_L_85 : GoodIn TB (wsV RL 85 "CopyOrdersModel" yX12_judge (wsO yX12_judge cX12_judge 4 (some .int))) := gV ml_L_85 im_X12_judge sl_X12_judge ini_CopyOrdersModel cd_X12_judge
theorem hd_X12_judge : yX12_judge.cls = "CopyOrdersModel" ∧ yX12_judge.cls ≠ "java/lang/invoke/MethodHandle" ∧ yX12_judge.cls ≠ "java/lang/invoke/VarHandle" ∧ (parseMethodDescriptor yX12_judge.desc).map (fun d => d.parameters.length) = some 1 := by decide +kernel
theorem ml_L_86 : Cond.methodLink RL 86 yX11_nearest ∈ TB := TB_t 727 (by decide +kernel) rfl
theorem im_X11_nearest : Cond.instanceMethod yX11_nearest ∈ TB := TB_t 728 (by decide +kernel) rfl
theorem sl_X11_nearest : Cond.selects "CopyOrders" yX11_nearest yX11_nearest ∈ TB := TB_t 729 (by decide +kernel) rfl
theorem cd_X11_nearest : Cond.code yX11_nearest cX11_nearest 7 (some .int) ∈ TB := TB_t 730 (by decide +kernel) rfl
theorem gv_L_86 : GoodIn TB (wsV RL 86 "CopyOrders" yX11_nearest (wsO yX11_nearest cX11_nearest 7 (some .int))) := gV ml_L_86 im_X11_nearest sl_X11_nearest ini_CopyOrders cd_X11_nearest
theorem hd_X11_nearest : yX11_nearest.cls = "CopyOrders" ∧ yX11_nearest.cls ≠ "java/lang/invoke/MethodHandle" ∧ yX11_nearest.cls ≠ "java/lang/invoke/VarHandle" ∧ (parseMethodDescriptor yX11_nearest.desc).map (fun d => d.parameters.length) = some 2 := by decide +kernel
theorem ml_L_89 : Cond.methodLink RL 89 yX12_nearest ∈ TB := TB_t 1541 (by decide +kernel) rfl
theorem im_X12_nearest : Cond.instanceMethod yX12_nearest ∈ TB := TB_t 1542 (by decide +kernel) rfl
theorem sl_X12_nearest : Cond.selects "CopyOrdersModel" yX12_nearest yX12_nearest ∈ TB := TB_t 1543 (by decide +kernel) rfl
theorem cd_X12_nearest : Cond.code yX12_nearest cX12_nearest 7 (some .int) ∈ TB := TB_t 1544 (by decide +kernel) rfl
theorem gv_L_89 : GoodIn TB (wsV RL 89 "CopyOrdersModel" yX12_nearest (wsO yX12_nearest cX12_nearest 7 (some .int))) := gV ml_L_89 im_X12_nearest sl_X12_nearest ini_CopyOrdersModel cd_X12_nearest
theorem hd_X12_nearest : yX12_nearest.cls = "CopyOrdersModel" ∧ yX12_nearest.cls ≠ "java/lang/invoke/MethodHandle" ∧ yX12_nearest.cls ≠ "java/lang/invoke/VarHandle" ∧ (parseMethodDescriptor yX12_nearest.desc).map (fun d => d.parameters.length) = some 2 := by decide +kernel
theorem ml_L_90 : Cond.methodLink RL 90 yX11_tree ∈ TB := TB_t 744 (by decide +kernel) rfl
theorem im_X11_tree : Cond.instanceMethod yX11_tree ∈ TB := TB_t 745 (by decide +kernel) rfl
theorem sl_X11_tree : Cond.selects "CopyOrders" yX11_tree yX11_tree ∈ TB := TB_t 746 (by decide +kernel) rfl
theorem cd_X11_tree : Cond.code yX11_tree cX11_tree 3 (some .int) ∈ TB := TB_t 747 (by decide +kernel) rfl
theorem gv_L_90 : GoodIn TB (wsV RL 90 "CopyOrders" yX11_tree (wsO yX11_tree cX11_tree 3 (some .int))) := gV ml_L_90 im_X11_tree sl_X11_tree ini_CopyOrders cd_X11_tree
theorem hd_X11_tree : yX11_tree.cls = "CopyOrders" ∧ yX11_tree.cls ≠ "java/lang/invoke/MethodHandle" ∧ yX11_tree.cls ≠ "java/lang/invoke/VarHandle" ∧ (parseMethodDescriptor yX11_tree.desc).map (fun d => d.parameters.length) = some 0 := by decide +kernel
theorem ml_L_93 : Cond.methodLink RL 93 yX12_tree ∈ TB := TB_t 1553 (by decide +kernel) rfl
theorem im_X12_tree : Cond.instanceMethod yX12_tree ∈ TB := TB_t 1554 (by decide +kernel) rfl
theorem sl_X12_tree : Cond.selects "CopyOrdersModel" yX12_tree yX12_tree ∈ TB := TB_t 1555 (by decide +kernel) rfl
theorem cd_X12_tree : Cond.code yX12_tree cX12_tree 5 (some .int) ∈ TB := TB_t 1556 (by decide +kernel) rfl
theorem gv_L_93 : GoodIn TB (wsV RL 93 "CopyOrdersModel" yX12_tree (wsO yX12_tree cX12_tree 5 (some .int))) := gV ml_L_93 im_X12_tree sl_X12_tree ini_CopyOrdersModel cd_X12_tree
theorem hd_X12_tree : yX12_tree.cls = "CopyOrdersModel" ∧ yX12_tree.cls ≠ "java/lang/invoke/MethodHandle" ∧ yX12_tree.cls ≠ "java/lang/invoke/VarHandle" ∧ (parseMethodDescriptor yX12_tree.desc).map (fun d => d.parameters.length) = some 0 := by decide +kernel
theorem ml_L_94 : Cond.methodLink RL 94 yX11_from ∈ TB := TB_t 792 (by decide +kernel) rfl
theorem im_X11_from : Cond.instanceMethod yX11_from ∈ TB := TB_t 793 (by decide +kernel) rfl
theorem sl_X11_from : Cond.selects "CopyOrders" yX11_from yX11_from ∈ TB := TB_t 794 (by decide +kernel) rfl
theorem cd_X11_from : Cond.code yX11_from cX11_from 2 (some .int) ∈ TB := TB_t 795 (by decide +kernel) rfl
theorem gv_L_94 : GoodIn TB (wsV RL 94 "CopyOrders" yX11_from (wsO yX11_from cX11_from 2 (some .int))) := gV ml_L_94 im_X11_from sl_X11_from ini_CopyOrders cd_X11_from
theorem hd_X11_from : yX11_from.cls = "CopyOrders" ∧ yX11_from.cls ≠ "java/lang/invoke/MethodHandle" ∧ yX11_from.cls ≠ "java/lang/invoke/VarHandle" ∧ (parseMethodDescriptor yX11_from.desc).map (fun d => d.parameters.length) = some 1 := by decide +kernel
theorem ml_L_97 : Cond.methodLink RL 97 yX12_from ∈ TB := TB_t 1565 (by decide +kernel) rfl
theorem im_X12_from : Cond.instanceMethod yX12_from ∈ TB := TB_t 1566 (by decide +kernel) rfl
theorem sl_X12_from : Cond.selects "CopyOrdersModel" yX12_from yX12_from ∈ TB := TB_t 1567 (by decide +kernel) rfl
theorem cd_X12_from : Cond.code yX12_from cX12_from 2 (some .int) ∈ TB := TB_t 1568 (by decide +kernel) rfl
theorem gv_L_97 : GoodIn TB (wsV RL 97 "CopyOrdersModel" yX12_from (wsO yX12_from cX12_from 2 (some .int))) := gV ml_L_97 im_X12_from sl_X12_from ini_CopyOrdersModel cd_X12_from
theorem hd_X12_from : yX12_from.cls = "CopyOrdersModel" ∧ yX12_from.cls ≠ "java/lang/invoke/MethodHandle" ∧ yX12_from.cls ≠ "java/lang/invoke/VarHandle" ∧ (parseMethodDescriptor yX12_from.desc).map (fun d => d.parameters.length) = some 1 := by decide +kernel
theorem ml_L_98 : Cond.methodLink RL 98 yX11_missing ∈ TB := TB_t 800 (by decide +kernel) rfl
theorem im_X11_missing : Cond.instanceMethod yX11_missing ∈ TB := TB_t 801 (by decide +kernel) rfl
theorem sl_X11_missing : Cond.selects "CopyOrders" yX11_missing yX11_missing ∈ TB := TB_t 802 (by decide +kernel) rfl
theorem cd_X11_missing : Cond.code yX11_missing cX11_missing 7 (some .int) ∈ TB := TB_t 803 (by decide +kernel) rfl
theorem gv_L_98 : GoodIn TB (wsV RL 98 "CopyOrders" yX11_missing (wsO yX11_missing cX11_missing 7 (some .int))) := gV ml_L_98 im_X11_missing sl_X11_missing ini_CopyOrders cd_X11_missing
theorem hd_X11_missing : yX11_missing.cls = "CopyOrders" ∧ yX11_missing.cls ≠ "java/lang/invoke/MethodHandle" ∧ yX11_missing.cls ≠ "java/lang/invoke/VarHandle" ∧ (parseMethodDescriptor yX11_missing.desc).map (fun d => d.parameters.length) = some 1 := by decide +kernel
theorem ml_L_101 : Cond.methodLink RL 101 yX12_missing ∈ TB := TB_t 1569 (by decide +kernel) rfl
theorem im_X12_missing : Cond.instanceMethod yX12_missing ∈ TB := TB_t 1570 (by decide +kernel) rfl
theorem sl_X12_missing : Cond.selects "CopyOrdersModel" yX12_missing yX12_missing ∈ TB := TB_t 1571 (by decide +kernel) rfl
theorem cd_X12_missing : Cond.code yX12_missing cX12_missing 6 (some .int) ∈ TB := TB_t 1572 (by decide +kernel) rfl
theorem gv_L_101 : GoodIn TB (wsV RL 101 "CopyOrdersModel" yX12_missing (wsO yX12_missing cX12_missing 6 (some .int))) := gV ml_L_101 im_X12_missing sl_X12_missing ini_CopyOrdersModel cd_X12_missing
theorem hd_X12_missing : yX12_missing.cls = "CopyOrdersModel" ∧ yX12_missing.cls ≠ "java/lang/invoke/MethodHandle" ∧ yX12_missing.cls ≠ "java/lang/invoke/VarHandle" ∧ (parseMethodDescriptor yX12_missing.desc).map (fun d => d.parameters.length) = some 1 := by decide +kernel
theorem ml_L_102 : Cond.methodLink RL 102 yX11_ways ∈ TB := TB_t 810 (by decide +kernel) rfl
theorem im_X11_ways : Cond.instanceMethod yX11_ways ∈ TB := TB_t 811 (by decide +kernel) rfl
theorem sl_X11_ways : Cond.selects "CopyOrders" yX11_ways yX11_ways ∈ TB := TB_t 812 (by decide +kernel) rfl
theorem cd_X11_ways : Cond.code yX11_ways cX11_ways 5 (some .long) ∈ TB := TB_t 813 (by decide +kernel) rfl
theorem gv_L_102 : GoodIn TB (wsV RL 102 "CopyOrders" yX11_ways (wsO yX11_ways cX11_ways 5 (some .long))) := gV ml_L_102 im_X11_ways sl_X11_ways ini_CopyOrders cd_X11_ways
theorem hd_X11_ways : yX11_ways.cls = "CopyOrders" ∧ yX11_ways.cls ≠ "java/lang/invoke/MethodHandle" ∧ yX11_ways.cls ≠ "java/lang/invoke/VarHandle" ∧ (parseMethodDescriptor yX11_ways.desc).map (fun d => d.parameters.length) = some 3 := by decide +kernel
theorem ml_L_105 : Cond.methodLink RL 105 yX12_ways ∈ TB := TB_t 1573 (by decide +kernel) rfl
theorem im_X12_ways : Cond.instanceMethod yX12_ways ∈ TB := TB_t 1574 (by decide +kernel) rfl
theorem sl_X12_ways : Cond.selects "CopyOrdersModel" yX12_ways yX12_ways ∈ TB := TB_t 1575 (by decide +kernel) rfl
theorem cd_X12_ways : Cond.code yX12_ways cX12_ways 4 (some .long) ∈ TB := TB_t 1576 (by decide +kernel) rfl
theorem gv_L_105 : GoodIn TB (wsV RL 105 "CopyOrdersModel" yX12_ways (wsO yX12_ways cX12_ways 4 (some .long))) := gV ml_L_105 im_X12_ways sl_X12_ways ini_CopyOrdersModel cd_X12_ways
theorem hd_X12_ways : yX12_ways.cls = "CopyOrdersModel" ∧ yX12_ways.cls ≠ "java/lang/invoke/MethodHandle" ∧ yX12_ways.cls ≠ "java/lang/invoke/VarHandle" ∧ (parseMethodDescriptor yX12_ways.desc).map (fun d => d.parameters.length) = some 3 := by decide +kernel
theorem ml_L_106 : Cond.methodLink RL 106 yX11_likeliest ∈ TB := TB_t 834 (by decide +kernel) rfl
theorem im_X11_likeliest : Cond.instanceMethod yX11_likeliest ∈ TB := TB_t 835 (by decide +kernel) rfl
theorem sl_X11_likeliest : Cond.selects "CopyOrders" yX11_likeliest yX11_likeliest ∈ TB := TB_t 836 (by decide +kernel) rfl
theorem cd_X11_likeliest : Cond.code yX11_likeliest cX11_likeliest 14 (some .int) ∈ TB := TB_t 837 (by decide +kernel) rfl
theorem gv_L_106 : GoodIn TB (wsV RL 106 "CopyOrders" yX11_likeliest (wsO yX11_likeliest cX11_likeliest 14 (some .int))) := gV ml_L_106 im_X11_likeliest sl_X11_likeliest ini_CopyOrders cd_X11_likeliest
theorem hd_X11_likeliest : yX11_likeliest.cls = "CopyOrders" ∧ yX11_likeliest.cls ≠ "java/lang/invoke/MethodHandle" ∧ yX11_likeliest.cls ≠ "java/lang/invoke/VarHandle" ∧ (parseMethodDescriptor yX11_likeliest.desc).map (fun d => d.parameters.length) = some 4 := by decide +kernel
theorem ml_L_109 : Cond.methodLink RL 109 yX12_likeliest ∈ TB := TB_t 1590 (by decide +kernel) rfl
theorem im_X12_likeliest : Cond.instanceMethod yX12_likeliest ∈ TB := TB_t 1591 (by decide +kernel) rfl
theorem sl_X12_likeliest : Cond.selects "CopyOrdersModel" yX12_likeliest yX12_likeliest ∈ TB := TB_t 1592 (by decide +kernel) rfl
theorem cd_X12_likeliest : Cond.code yX12_likeliest cX12_likeliest 11 (some .int) ∈ TB := TB_t 1593 (by decide +kernel) rfl
theorem gv_L_109 : GoodIn TB (wsV RL 109 "CopyOrdersModel" yX12_likeliest (wsO yX12_likeliest cX12_likeliest 11 (some .int))) := gV ml_L_109 im_X12_likeliest sl_X12_likeliest ini_CopyOrdersModel cd_X12_likeliest
theorem hd_X12_likeliest : yX12_likeliest.cls = "CopyOrdersModel" ∧ yX12_likeliest.cls ≠ "java/lang/invoke/MethodHandle" ∧ yX12_likeliest.cls ≠ "java/lang/invoke/VarHandle" ∧ (parseMethodDescriptor yX12_likeliest.desc).map (fun d => d.parameters.length) = some 4 := by decide +kernel
theorem ml_L_110 : Cond.methodLink RL 110 yX11_likely ∈ TB := TB_t 849 (by decide +kernel) rfl
theorem im_X11_likely : Cond.instanceMethod yX11_likely ∈ TB := TB_t 850 (by decide +kernel) rfl
theorem sl_X11_likely : Cond.selects "CopyOrders" yX11_likely yX11_likely ∈ TB := TB_t 851 (by decide +kernel) rfl
theorem cd_X11_likely : Cond.code yX11_likely cX11_likely 1 (some .long) ∈ TB := TB_t 852 (by decide +kernel) rfl
theorem gv_L_110 : GoodIn TB (wsV RL 110 "CopyOrders" yX11_likely (wsO yX11_likely cX11_likely 1 (some .long))) := gV ml_L_110 im_X11_likely sl_X11_likely ini_CopyOrders cd_X11_likely
theorem hd_X11_likely : yX11_likely.cls = "CopyOrders" ∧ yX11_likely.cls ≠ "java/lang/invoke/MethodHandle" ∧ yX11_likely.cls ≠ "java/lang/invoke/VarHandle" ∧ (parseMethodDescriptor yX11_likely.desc).map (fun d => d.parameters.length) = some 0 := by decide +kernel
theorem ml_L_114 : Cond.methodLink RL 114 yX12_likely ∈ TB := TB_t 1598 (by decide +kernel) rfl
theorem im_X12_likely : Cond.instanceMethod yX12_likely ∈ TB := TB_t 1599 (by decide +kernel) rfl
theorem sl_X12_likely : Cond.selects "CopyOrdersModel" yX12_likely yX12_likely ∈ TB := TB_t 1600 (by decide +kernel) rfl
theorem cd_X12_likely : Cond.code yX12_likely cX12_likely 1 (some .long) ∈ TB := TB_t 1601 (by decide +kernel) rfl
theorem gv_L_114 : GoodIn TB (wsV RL 114 "CopyOrdersModel" yX12_likely (wsO yX12_likely cX12_likely 1 (some .long))) := gV ml_L_114 im_X12_likely sl_X12_likely ini_CopyOrdersModel cd_X12_likely
theorem hd_X12_likely : yX12_likely.cls = "CopyOrdersModel" ∧ yX12_likely.cls ≠ "java/lang/invoke/MethodHandle" ∧ yX12_likely.cls ≠ "java/lang/invoke/VarHandle" ∧ (parseMethodDescriptor yX12_likely.desc).map (fun d => d.parameters.length) = some 0 := by decide +kernel
theorem ml_L_115 : Cond.methodLink RL 115 yX11_firsts ∈ TB := TB_t 853 (by decide +kernel) rfl
theorem im_X11_firsts : Cond.instanceMethod yX11_firsts ∈ TB := TB_t 854 (by decide +kernel) rfl
theorem sl_X11_firsts : Cond.selects "CopyOrders" yX11_firsts yX11_firsts ∈ TB := TB_t 855 (by decide +kernel) rfl
theorem cd_X11_firsts : Cond.code yX11_firsts cX11_firsts 6 (some .int) ∈ TB := TB_t 856 (by decide +kernel) rfl
theorem gv_L_115 : GoodIn TB (wsV RL 115 "CopyOrders" yX11_firsts (wsO yX11_firsts cX11_firsts 6 (some .int))) := gV ml_L_115 im_X11_firsts sl_X11_firsts ini_CopyOrders cd_X11_firsts
theorem hd_X11_firsts : yX11_firsts.cls = "CopyOrders" ∧ yX11_firsts.cls ≠ "java/lang/invoke/MethodHandle" ∧ yX11_firsts.cls ≠ "java/lang/invoke/VarHandle" ∧ (parseMethodDescriptor yX11_firsts.desc).map (fun d => d.parameters.length) = some 2 := by decide +kernel
theorem ml_L_118 : Cond.methodLink RL 118 yX12_firsts ∈ TB := TB_t 1602 (by decide +kernel) rfl
theorem im_X12_firsts : Cond.instanceMethod yX12_firsts ∈ TB := TB_t 1603 (by decide +kernel) rfl
theorem sl_X12_firsts : Cond.selects "CopyOrdersModel" yX12_firsts yX12_firsts ∈ TB := TB_t 1604 (by decide +kernel) rfl
theorem cd_X12_firsts : Cond.code yX12_firsts cX12_firsts 5 (some .int) ∈ TB := TB_t 1605 (by decide +kernel) rfl
theorem gv_L_118 : GoodIn TB (wsV RL 118 "CopyOrdersModel" yX12_firsts (wsO yX12_firsts cX12_firsts 5 (some .int))) := gV ml_L_118 im_X12_firsts sl_X12_firsts ini_CopyOrdersModel cd_X12_firsts
theorem hd_X12_firsts : yX12_firsts.cls = "CopyOrdersModel" ∧ yX12_firsts.cls ≠ "java/lang/invoke/MethodHandle" ∧ yX12_firsts.cls ≠ "java/lang/invoke/VarHandle" ∧ (parseMethodDescriptor yX12_firsts.desc).map (fun d => d.parameters.length) = some 2 := by decide +kernel
theorem ml_L_119 : Cond.methodLink RL 119 yX11_drawn ∈ TB := TB_t 857 (by decide +kernel) rfl
theorem im_X11_drawn : Cond.instanceMethod yX11_drawn ∈ TB := TB_t 858 (by decide +kernel) rfl
theorem sl_X11_drawn : Cond.selects "CopyOrders" yX11_drawn yX11_drawn ∈ TB := TB_t 859 (by decide +kernel) rfl
theorem cd_X11_drawn : Cond.code yX11_drawn cX11_drawn 9 (some .int) ∈ TB := TB_t 860 (by decide +kernel) rfl
theorem gv_L_119 : GoodIn TB (wsV RL 119 "CopyOrders" yX11_drawn (wsO yX11_drawn cX11_drawn 9 (some .int))) := gV ml_L_119 im_X11_drawn sl_X11_drawn ini_CopyOrders cd_X11_drawn
theorem hd_X11_drawn : yX11_drawn.cls = "CopyOrders" ∧ yX11_drawn.cls ≠ "java/lang/invoke/MethodHandle" ∧ yX11_drawn.cls ≠ "java/lang/invoke/VarHandle" ∧ (parseMethodDescriptor yX11_drawn.desc).map (fun d => d.parameters.length) = some 3 := by decide +kernel
theorem ml_L_122 : Cond.methodLink RL 122 yX12_drawn ∈ TB := TB_t 1606 (by decide +kernel) rfl
theorem im_X12_drawn : Cond.instanceMethod yX12_drawn ∈ TB := TB_t 1607 (by decide +kernel) rfl
theorem sl_X12_drawn : Cond.selects "CopyOrdersModel" yX12_drawn yX12_drawn ∈ TB := TB_t 1608 (by decide +kernel) rfl
theorem cd_X12_drawn : Cond.code yX12_drawn cX12_drawn 9 (some .int) ∈ TB := TB_t 1609 (by decide +kernel) rfl
theorem gv_L_122 : GoodIn TB (wsV RL 122 "CopyOrdersModel" yX12_drawn (wsO yX12_drawn cX12_drawn 9 (some .int))) := gV ml_L_122 im_X12_drawn sl_X12_drawn ini_CopyOrdersModel cd_X12_drawn
theorem hd_X12_drawn : yX12_drawn.cls = "CopyOrdersModel" ∧ yX12_drawn.cls ≠ "java/lang/invoke/MethodHandle" ∧ yX12_drawn.cls ≠ "java/lang/invoke/VarHandle" ∧ (parseMethodDescriptor yX12_drawn.desc).map (fun d => d.parameters.length) = some 3 := by decide +kernel
theorem ml_L_123 : Cond.methodLink RL 123 yX11_again ∈ TB := TB_t 871 (by decide +kernel) rfl
theorem im_X11_again : Cond.instanceMethod yX11_again ∈ TB := TB_t 872 (by decide +kernel) rfl
theorem sl_X11_again : Cond.selects "CopyOrders" yX11_again yX11_again ∈ TB := TB_t 873 (by decide +kernel) rfl
theorem cd_X11_again : Cond.code yX11_again cX11_again 3 (some .int) ∈ TB := TB_t 874 (by decide +kernel) rfl
theorem gv_L_123 : GoodIn TB (wsV RL 123 "CopyOrders" yX11_again (wsO yX11_again cX11_again 3 (some .int))) := gV ml_L_123 im_X11_again sl_X11_again ini_CopyOrders cd_X11_again
theorem hd_X11_again : yX11_again.cls = "CopyOrders" ∧ yX11_again.cls ≠ "java/lang/invoke/MethodHandle" ∧ yX11_again.cls ≠ "java/lang/invoke/VarHandle" ∧ (parseMethodDescriptor yX11_again.desc).map (fun d => d.parameters.length) = some 1 := by decide +kernel
theorem ml_L_126 : Cond.methodLink RL 126 yX12_again ∈ TB := TB_t 1615 (by decide +kernel) rfl
theorem im_X12_again : Cond.instanceMethod yX12_again ∈ TB := TB_t 1616 (by decide +kernel) rfl
theorem sl_X12_again : Cond.selects "CopyOrdersModel" yX12_again yX12_again ∈ TB := TB_t 1617 (by decide +kernel) rfl
theorem cd_X12_again : Cond.code yX12_again cX12_again 2 (some .int) ∈ TB := TB_t 1618 (by decide +kernel) rfl
theorem gv_L_126 : GoodIn TB (wsV RL 126 "CopyOrdersModel" yX12_again (wsO yX12_again cX12_again 2 (some .int))) := gV ml_L_126 im_X12_again sl_X12_again ini_CopyOrdersModel cd_X12_again
theorem hd_X12_again : yX12_again.cls = "CopyOrdersModel" ∧ yX12_again.cls ≠ "java/lang/invoke/MethodHandle" ∧ yX12_again.cls ≠ "java/lang/invoke/VarHandle" ∧ (parseMethodDescriptor yX12_again.desc).map (fun d => d.parameters.length) = some 1 := by decide +kernel
theorem ml_L_130 : Cond.methodLink RL 130 yX12_along ∈ TB := TB_t 1619 (by decide +kernel) rfl
theorem im_X12_along : Cond.instanceMethod yX12_along ∈ TB := TB_t 1620 (by decide +kernel) rfl
theorem sl_X12_along : Cond.selects "CopyOrdersModel" yX12_along yX12_along ∈ TB := TB_t 1621 (by decide +kernel) rfl
theorem cd_X12_along : Cond.code yX12_along cX12_along 14 (some .long) ∈ TB := TB_t 1622 (by decide +kernel) rfl
theorem gv_L_130 : GoodIn TB (wsV RL 130 "CopyOrdersModel" yX12_along (wsO yX12_along cX12_along 14 (some .long))) := gV ml_L_130 im_X12_along sl_X12_along ini_CopyOrdersModel cd_X12_along
theorem hd_X12_along : yX12_along.cls = "CopyOrdersModel" ∧ yX12_along.cls ≠ "java/lang/invoke/MethodHandle" ∧ yX12_along.cls ≠ "java/lang/invoke/VarHandle" ∧ (parseMethodDescriptor yX12_along.desc).map (fun d => d.parameters.length) = some 3 := by decide +kernel
theorem ml_L_131 : Cond.methodLink RL 131 yX11_holds ∈ TB := TB_t 877 (by decide +kernel) rfl
theorem im_X11_holds : Cond.instanceMethod yX11_holds ∈ TB := TB_t 878 (by decide +kernel) rfl
theorem sl_X11_holds : Cond.selects "CopyOrders" yX11_holds yX11_holds ∈ TB := TB_t 879 (by decide +kernel) rfl
theorem cd_X11_holds : Cond.code yX11_holds cX11_holds 4 (some .int) ∈ TB := TB_t 880 (by decide +kernel) rfl
theorem gv_L_131 : GoodIn TB (wsV RL 131 "CopyOrders" yX11_holds (wsO yX11_holds cX11_holds 4 (some .int))) := gV ml_L_131 im_X11_holds sl_X11_holds ini_CopyOrders cd_X11_holds
theorem hd_X11_holds : yX11_holds.cls = "CopyOrders" ∧ yX11_holds.cls ≠ "java/lang/invoke/MethodHandle" ∧ yX11_holds.cls ≠ "java/lang/invoke/VarHandle" ∧ (parseMethodDescriptor yX11_holds.desc).map (fun d => d.parameters.length) = some 1 := by decide +kernel
theorem ml_L_134 : Cond.methodLink RL 134 yX12_holds ∈ TB := TB_t 1623 (by decide +kernel) rfl
theorem im_X12_holds : Cond.instanceMethod yX12_holds ∈ TB := TB_t 1624 (by decide +kernel) rfl
theorem sl_X12_holds : Cond.selects "CopyOrdersModel" yX12_holds yX12_holds ∈ TB := TB_t 1625 (by decide +kernel) rfl
theorem cd_X12_holds : Cond.code yX12_holds cX12_holds 4 (some .int) ∈ TB := TB_t 1626 (by decide +kernel) rfl
theorem gv_L_134 : GoodIn TB (wsV RL 134 "CopyOrdersModel" yX12_holds (wsO yX12_holds cX12_holds 4 (some .int))) := gV ml_L_134 im_X12_holds sl_X12_holds ini_CopyOrdersModel cd_X12_holds
theorem hd_X12_holds : yX12_holds.cls = "CopyOrdersModel" ∧ yX12_holds.cls ≠ "java/lang/invoke/MethodHandle" ∧ yX12_holds.cls ≠ "java/lang/invoke/VarHandle" ∧ (parseMethodDescriptor yX12_holds.desc).map (fun d => d.parameters.length) = some 1 := by decide +kernel
theorem ml_L_135 : Cond.methodLink RL 135 yX11_marks ∈ TB := TB_t 889 (by decide +kernel) rfl
theorem im_X11_marks : Cond.instanceMethod yX11_marks ∈ TB := TB_t 890 (by decide +kernel) rfl
theorem sl_X11_marks : Cond.selects "CopyOrders" yX11_marks yX11_marks ∈ TB := TB_t 891 (by decide +kernel) rfl
theorem cd_X11_marks : Cond.code yX11_marks cX11_marks 5 (some .int) ∈ TB := TB_t 892 (by decide +kernel) rfl
theorem gv_L_135 : GoodIn TB (wsV RL 135 "CopyOrders" yX11_marks (wsO yX11_marks cX11_marks 5 (some .int))) := gV ml_L_135 im_X11_marks sl_X11_marks ini_CopyOrders cd_X11_marks
theorem hd_X11_marks : yX11_marks.cls = "CopyOrders" ∧ yX11_marks.cls ≠ "java/lang/invoke/MethodHandle" ∧ yX11_marks.cls ≠ "java/lang/invoke/VarHandle" ∧ (parseMethodDescriptor yX11_marks.desc).map (fun d => d.parameters.length) = some 1 := by decide +kernel
theorem ml_L_138 : Cond.methodLink RL 138 yX12_marks ∈ TB := TB_t 1631 (by decide +kernel) rfl
theorem im_X12_marks : Cond.instanceMethod yX12_marks ∈ TB := TB_t 1632 (by decide +kernel) rfl
theorem sl_X12_marks : Cond.selects "CopyOrdersModel" yX12_marks yX12_marks ∈ TB := TB_t 1633 (by decide +kernel) rfl
theorem cd_X12_marks : Cond.code yX12_marks cX12_marks 4 (some .int) ∈ TB := TB_t 1634 (by decide +kernel) rfl
theorem gv_L_138 : GoodIn TB (wsV RL 138 "CopyOrdersModel" yX12_marks (wsO yX12_marks cX12_marks 4 (some .int))) := gV ml_L_138 im_X12_marks sl_X12_marks ini_CopyOrdersModel cd_X12_marks
theorem hd_X12_marks : yX12_marks.cls = "CopyOrdersModel" ∧ yX12_marks.cls ≠ "java/lang/invoke/MethodHandle" ∧ yX12_marks.cls ≠ "java/lang/invoke/VarHandle" ∧ (parseMethodDescriptor yX12_marks.desc).map (fun d => d.parameters.length) = some 1 := by decide +kernel
theorem ml_L_139 : Cond.methodLink RL 139 yX11_sense ∈ TB := TB_t 893 (by decide +kernel) rfl
theorem im_X11_sense : Cond.instanceMethod yX11_sense ∈ TB := TB_t 894 (by decide +kernel) rfl
theorem sl_X11_sense : Cond.selects "CopyOrders" yX11_sense yX11_sense ∈ TB := TB_t 895 (by decide +kernel) rfl
theorem cd_X11_sense : Cond.code yX11_sense cX11_sense 5 (some .int) ∈ TB := TB_t 896 (by decide +kernel) rfl
theorem gv_L_139 : GoodIn TB (wsV RL 139 "CopyOrders" yX11_sense (wsO yX11_sense cX11_sense 5 (some .int))) := gV ml_L_139 im_X11_sense sl_X11_sense ini_CopyOrders cd_X11_sense
theorem hd_X11_sense : yX11_sense.cls = "CopyOrders" ∧ yX11_sense.cls ≠ "java/lang/invoke/MethodHandle" ∧ yX11_sense.cls ≠ "java/lang/invoke/VarHandle" ∧ (parseMethodDescriptor yX11_sense.desc).map (fun d => d.parameters.length) = some 1 := by decide +kernel
theorem ml_L_142 : Cond.methodLink RL 142 yX12_sense ∈ TB := TB_t 1635 (by decide +kernel) rfl
theorem im_X12_sense : Cond.instanceMethod yX12_sense ∈ TB := TB_t 1636 (by decide +kernel) rfl
theorem sl_X12_sense : Cond.selects "CopyOrdersModel" yX12_sense yX12_sense ∈ TB := TB_t 1637 (by decide +kernel) rfl
theorem cd_X12_sense : Cond.code yX12_sense cX12_sense 4 (some .int) ∈ TB := TB_t 1638 (by decide +kernel) rfl
theorem gv_L_142 : GoodIn TB (wsV RL 142 "CopyOrdersModel" yX12_sense (wsO yX12_sense cX12_sense 4 (some .int))) := gV ml_L_142 im_X12_sense sl_X12_sense ini_CopyOrdersModel cd_X12_sense
theorem hd_X12_sense : yX12_sense.cls = "CopyOrdersModel" ∧ yX12_sense.cls ≠ "java/lang/invoke/MethodHandle" ∧ yX12_sense.cls ≠ "java/lang/invoke/VarHandle" ∧ (parseMethodDescriptor yX12_sense.desc).map (fun d => d.parameters.length) = some 1 := by decide +kernel
theorem ml_L_143 : Cond.methodLink RL 143 yX11_mended ∈ TB := TB_t 902 (by decide +kernel) rfl
theorem im_X11_mended : Cond.instanceMethod yX11_mended ∈ TB := TB_t 903 (by decide +kernel) rfl
theorem sl_X11_mended : Cond.selects "CopyOrders" yX11_mended yX11_mended ∈ TB := TB_t 904 (by decide +kernel) rfl
theorem cd_X11_mended : Cond.code yX11_mended cX11_mended 9 (some .int) ∈ TB := TB_t 905 (by decide +kernel) rfl
theorem gv_L_143 : GoodIn TB (wsV RL 143 "CopyOrders" yX11_mended (wsO yX11_mended cX11_mended 9 (some .int))) := gV ml_L_143 im_X11_mended sl_X11_mended ini_CopyOrders cd_X11_mended
theorem hd_X11_mended : yX11_mended.cls = "CopyOrders" ∧ yX11_mended.cls ≠ "java/lang/invoke/MethodHandle" ∧ yX11_mended.cls ≠ "java/lang/invoke/VarHandle" ∧ (parseMethodDescriptor yX11_mended.desc).map (fun d => d.parameters.length) = some 2 := by decide +kernel
theorem ml_L_146 : Cond.methodLink RL 146 yX12_mended ∈ TB := TB_t 1643 (by decide +kernel) rfl
theorem im_X12_mended : Cond.instanceMethod yX12_mended ∈ TB := TB_t 1644 (by decide +kernel) rfl
theorem sl_X12_mended : Cond.selects "CopyOrdersModel" yX12_mended yX12_mended ∈ TB := TB_t 1645 (by decide +kernel) rfl
theorem cd_X12_mended : Cond.code yX12_mended cX12_mended 7 (some .int) ∈ TB := TB_t 1646 (by decide +kernel) rfl
theorem gv_L_146 : GoodIn TB (wsV RL 146 "CopyOrdersModel" yX12_mended (wsO yX12_mended cX12_mended 7 (some .int))) := gV ml_L_146 im_X12_mended sl_X12_mended ini_CopyOrdersModel cd_X12_mended
theorem hd_X12_mended : yX12_mended.cls = "CopyOrdersModel" ∧ yX12_mended.cls ≠ "java/lang/invoke/MethodHandle" ∧ yX12_mended.cls ≠ "java/lang/invoke/VarHandle" ∧ (parseMethodDescriptor yX12_mended.desc).map (fun d => d.parameters.length) = some 2 := by decide +kernel
theorem ml_L_147 : Cond.methodLink RL 147 yX11_song ∈ TB := TB_t 907 (by decide +kernel) rfl
theorem im_X11_song : Cond.instanceMethod yX11_song ∈ TB := TB_t 908 (by decide +kernel) rfl
theorem sl_X11_song : Cond.selects "CopyOrders" yX11_song yX11_song ∈ TB := TB_t 909 (by decide +kernel) rfl
theorem cd_X11_song : Cond.code yX11_song cX11_song 3 (some .int) ∈ TB := TB_t 910 (by decide +kernel) rfl
theorem gv_L_147 : GoodIn TB (wsV RL 147 "CopyOrders" yX11_song (wsO yX11_song cX11_song 3 (some .int))) := gV ml_L_147 im_X11_song sl_X11_song ini_CopyOrders cd_X11_song
theorem hd_X11_song : yX11_song.cls = "CopyOrders" ∧ yX11_song.cls ≠ "java/lang/invoke/MethodHandle" ∧ yX11_song.cls ≠ "java/lang/invoke/VarHandle" ∧ (parseMethodDescriptor yX11_song.desc).map (fun d => d.parameters.length) = some 1 := by decide +kernel
theorem ml_L_150 : Cond.methodLink RL 150 yX12_song ∈ TB := TB_t 1647 (by decide +kernel) rfl
theorem im_X12_song : Cond.instanceMethod yX12_song ∈ TB := TB_t 1648 (by decide +kernel) rfl
theorem sl_X12_song : Cond.selects "CopyOrdersModel" yX12_song yX12_song ∈ TB := TB_t 1649 (by decide +kernel) rfl
theorem cd_X12_song : Cond.code yX12_song cX12_song 2 (some .int) ∈ TB := TB_t 1650 (by decide +kernel) rfl
theorem gv_L_150 : GoodIn TB (wsV RL 150 "CopyOrdersModel" yX12_song (wsO yX12_song cX12_song 2 (some .int))) := gV ml_L_150 im_X12_song sl_X12_song ini_CopyOrdersModel cd_X12_song
theorem hd_X12_song : yX12_song.cls = "CopyOrdersModel" ∧ yX12_song.cls ≠ "java/lang/invoke/MethodHandle" ∧ yX12_song.cls ≠ "java/lang/invoke/VarHandle" ∧ (parseMethodDescriptor yX12_song.desc).map (fun d => d.parameters.length) = some 1 := by decide +kernel
theorem ml_L_151 : Cond.methodLink RL 151 yX11_better ∈ TB := TB_t 917 (by decide +kernel) rfl
theorem im_X11_better : Cond.instanceMethod yX11_better ∈ TB := TB_t 918 (by decide +kernel) rfl
theorem sl_X11_better : Cond.selects "CopyOrders" yX11_better yX11_better ∈ TB := TB_t 919 (by decide +kernel) rfl
theorem cd_X11_better : Cond.code yX11_better cX11_better 11 (some .int) ∈ TB := TB_t 920 (by decide +kernel) rfl
theorem gv_L_151 : GoodIn TB (wsV RL 151 "CopyOrders" yX11_better (wsO yX11_better cX11_better 11 (some .int))) := gV ml_L_151 im_X11_better sl_X11_better ini_CopyOrders cd_X11_better
theorem hd_X11_better : yX11_better.cls = "CopyOrders" ∧ yX11_better.cls ≠ "java/lang/invoke/MethodHandle" ∧ yX11_better.cls ≠ "java/lang/invoke/VarHandle" ∧ (parseMethodDescriptor yX11_better.desc).map (fun d => d.parameters.length) = some 2 := by decide +kernel
theorem ml_L_154 : Cond.methodLink RL 154 yX12_better ∈ TB := TB_t 1655 (by decide +kernel) rfl
theorem im_X12_better : Cond.instanceMethod yX12_better ∈ TB := TB_t 1656 (by decide +kernel) rfl
theorem sl_X12_better : Cond.selects "CopyOrdersModel" yX12_better yX12_better ∈ TB := TB_t 1657 (by decide +kernel) rfl
theorem cd_X12_better : Cond.code yX12_better cX12_better 9 (some .int) ∈ TB := TB_t 1658 (by decide +kernel) rfl
theorem gv_L_154 : GoodIn TB (wsV RL 154 "CopyOrdersModel" yX12_better (wsO yX12_better cX12_better 9 (some .int))) := gV ml_L_154 im_X12_better sl_X12_better ini_CopyOrdersModel cd_X12_better
theorem hd_X12_better : yX12_better.cls = "CopyOrdersModel" ∧ yX12_better.cls ≠ "java/lang/invoke/MethodHandle" ∧ yX12_better.cls ≠ "java/lang/invoke/VarHandle" ∧ (parseMethodDescriptor yX12_better.desc).map (fun d => d.parameters.length) = some 2 := by decide +kernel
theorem ml_L_155 : Cond.methodLink RL 155 yX11_join ∈ TB := TB_t 922 (by decide +kernel) rfl
theorem im_X11_join : Cond.instanceMethod yX11_join ∈ TB := TB_t 923 (by decide +kernel) rfl
theorem sl_X11_join : Cond.selects "CopyOrders" yX11_join yX11_join ∈ TB := TB_t 924 (by decide +kernel) rfl
theorem cd_X11_join : Cond.code yX11_join cX11_join 11 (some .int) ∈ TB := TB_t 925 (by decide +kernel) rfl
theorem gv_L_155 : GoodIn TB (wsV RL 155 "CopyOrders" yX11_join (wsO yX11_join cX11_join 11 (some .int))) := gV ml_L_155 im_X11_join sl_X11_join ini_CopyOrders cd_X11_join
theorem hd_X11_join : yX11_join.cls = "CopyOrders" ∧ yX11_join.cls ≠ "java/lang/invoke/MethodHandle" ∧ yX11_join.cls ≠ "java/lang/invoke/VarHandle" ∧ (parseMethodDescriptor yX11_join.desc).map (fun d => d.parameters.length) = some 3 := by decide +kernel
theorem ml_L_158 : Cond.methodLink RL 158 yX12_join ∈ TB := TB_t 1659 (by decide +kernel) rfl
theorem im_X12_join : Cond.instanceMethod yX12_join ∈ TB := TB_t 1660 (by decide +kernel) rfl
theorem sl_X12_join : Cond.selects "CopyOrdersModel" yX12_join yX12_join ∈ TB := TB_t 1661 (by decide +kernel) rfl
theorem cd_X12_join : Cond.code yX12_join cX12_join 8 (some .int) ∈ TB := TB_t 1662 (by decide +kernel) rfl
theorem gv_L_158 : GoodIn TB (wsV RL 158 "CopyOrdersModel" yX12_join (wsO yX12_join cX12_join 8 (some .int))) := gV ml_L_158 im_X12_join sl_X12_join ini_CopyOrdersModel cd_X12_join
theorem hd_X12_join : yX12_join.cls = "CopyOrdersModel" ∧ yX12_join.cls ≠ "java/lang/invoke/MethodHandle" ∧ yX12_join.cls ≠ "java/lang/invoke/VarHandle" ∧ (parseMethodDescriptor yX12_join.desc).map (fun d => d.parameters.length) = some 3 := by decide +kernel
theorem ml_L_159 : Cond.methodLink RL 159 yX11_woven ∈ TB := TB_t 926 (by decide +kernel) rfl
theorem im_X11_woven : Cond.instanceMethod yX11_woven ∈ TB := TB_t 927 (by decide +kernel) rfl
theorem sl_X11_woven : Cond.selects "CopyOrders" yX11_woven yX11_woven ∈ TB := TB_t 928 (by decide +kernel) rfl
theorem cd_X11_woven : Cond.code yX11_woven cX11_woven 11 (some .int) ∈ TB := TB_t 929 (by decide +kernel) rfl
theorem gv_L_159 : GoodIn TB (wsV RL 159 "CopyOrders" yX11_woven (wsO yX11_woven cX11_woven 11 (some .int))) := gV ml_L_159 im_X11_woven sl_X11_woven ini_CopyOrders cd_X11_woven
theorem hd_X11_woven : yX11_woven.cls = "CopyOrders" ∧ yX11_woven.cls ≠ "java/lang/invoke/MethodHandle" ∧ yX11_woven.cls ≠ "java/lang/invoke/VarHandle" ∧ (parseMethodDescriptor yX11_woven.desc).map (fun d => d.parameters.length) = some 3 := by decide +kernel
theorem ml_L_162 : Cond.methodLink RL 162 yX12_woven ∈ TB := TB_t 1663 (by decide +kernel) rfl
theorem im_X12_woven : Cond.instanceMethod yX12_woven ∈ TB := TB_t 1664 (by decide +kernel) rfl
theorem sl_X12_woven : Cond.selects "CopyOrdersModel" yX12_woven yX12_woven ∈ TB := TB_t 1665 (by decide +kernel) rfl
theorem cd_X12_woven : Cond.code yX12_woven cX12_woven 9 (some .int) ∈ TB := TB_t 1666 (by decide +kernel) rfl
theorem gv_L_162 : GoodIn TB (wsV RL 162 "CopyOrdersModel" yX12_woven (wsO yX12_woven cX12_woven 9 (some .int))) := gV ml_L_162 im_X12_woven sl_X12_woven ini_CopyOrdersModel cd_X12_woven
theorem hd_X12_woven : yX12_woven.cls = "CopyOrdersModel" ∧ yX12_woven.cls ≠ "java/lang/invoke/MethodHandle" ∧ yX12_woven.cls ≠ "java/lang/invoke/VarHandle" ∧ (parseMethodDescriptor yX12_woven.desc).map (fun d => d.parameters.length) = some 3 := by decide +kernel
theorem ml_L_163 : Cond.methodLink RL 163 yX11_sentence ∈ TB := TB_t 938 (by decide +kernel) rfl
theorem im_X11_sentence : Cond.instanceMethod yX11_sentence ∈ TB := TB_t 939 (by decide +kernel) rfl
theorem sl_X11_sentence : Cond.selects "CopyOrders" yX11_sentence yX11_sentence ∈ TB := TB_t 940 (by decide +kernel) rfl
theorem cd_X11_sentence : Cond.code yX11_sentence cX11_sentence 3 (some .int) ∈ TB := TB_t 941 (by decide +kernel) rfl
theorem gv_L_163 : GoodIn TB (wsV RL 163 "CopyOrders" yX11_sentence (wsO yX11_sentence cX11_sentence 3 (some .int))) := gV ml_L_163 im_X11_sentence sl_X11_sentence ini_CopyOrders cd_X11_sentence
theorem hd_X11_sentence : yX11_sentence.cls = "CopyOrders" ∧ yX11_sentence.cls ≠ "java/lang/invoke/MethodHandle" ∧ yX11_sentence.cls ≠ "java/lang/invoke/VarHandle" ∧ (parseMethodDescriptor yX11_sentence.desc).map (fun d => d.parameters.length) = some 0 := by decide +kernel
theorem ml_L_166 : Cond.methodLink RL 166 yX12_sentence ∈ TB := TB_t 1671 (by decide +kernel) rfl
theorem im_X12_sentence : Cond.instanceMethod yX12_sentence ∈ TB := TB_t 1672 (by decide +kernel) rfl
theorem sl_X12_sentence : Cond.selects "CopyOrdersModel" yX12_sentence yX12_sentence ∈ TB := TB_t 1673 (by decide +kernel) rfl
theorem cd_X12_sentence : Cond.code yX12_sentence cX12_sentence 2 (some .int) ∈ TB := TB_t 1674 (by decide +kernel) rfl
theorem gv_L_166 : GoodIn TB (wsV RL 166 "CopyOrdersModel" yX12_sentence (wsO yX12_sentence cX12_sentence 2 (some .int))) := gV ml_L_166 im_X12_sentence sl_X12_sentence ini_CopyOrdersModel cd_X12_sentence
theorem hd_X12_sentence : yX12_sentence.cls = "CopyOrdersModel" ∧ yX12_sentence.cls ≠ "java/lang/invoke/MethodHandle" ∧ yX12_sentence.cls ≠ "java/lang/invoke/VarHandle" ∧ (parseMethodDescriptor yX12_sentence.desc).map (fun d => d.parameters.length) = some 0 := by decide +kernel
theorem ml_L_167 : Cond.methodLink RL 167 yX11_said ∈ TB := TB_t 1003 (by decide +kernel) rfl
theorem im_X11_said : Cond.instanceMethod yX11_said ∈ TB := TB_t 1004 (by decide +kernel) rfl
theorem sl_X11_said : Cond.selects "CopyOrders" yX11_said yX11_said ∈ TB := TB_t 1005 (by decide +kernel) rfl
theorem cd_X11_said : Cond.code yX11_said cX11_said 3 (some .int) ∈ TB := TB_t 1006 (by decide +kernel) rfl
theorem gv_L_167 : GoodIn TB (wsV RL 167 "CopyOrders" yX11_said (wsO yX11_said cX11_said 3 (some .int))) := gV ml_L_167 im_X11_said sl_X11_said ini_CopyOrders cd_X11_said
theorem hd_X11_said : yX11_said.cls = "CopyOrders" ∧ yX11_said.cls ≠ "java/lang/invoke/MethodHandle" ∧ yX11_said.cls ≠ "java/lang/invoke/VarHandle" ∧ (parseMethodDescriptor yX11_said.desc).map (fun d => d.parameters.length) = some 0 := by decide +kernel
theorem ml_L_170 : Cond.methodLink RL 170 yX12_said ∈ TB := TB_t 1707 (by decide +kernel) rfl
theorem im_X12_said : Cond.instanceMethod yX12_said ∈ TB := TB_t 1708 (by decide +kernel) rfl
theorem sl_X12_said : Cond.selects "CopyOrdersModel" yX12_said yX12_said ∈ TB := TB_t 1709 (by decide +kernel) rfl
theorem cd_X12_said : Cond.code yX12_said cX12_said 3 (some .int) ∈ TB := TB_t 1710 (by decide +kernel) rfl
theorem gv_L_170 : GoodIn TB (wsV RL 170 "CopyOrdersModel" yX12_said (wsO yX12_said cX12_said 3 (some .int))) := gV ml_L_170 im_X12_said sl_X12_said ini_CopyOrdersModel cd_X12_said
theorem hd_X12_said : yX12_said.cls = "CopyOrdersModel" ∧ yX12_said.cls ≠ "java/lang/invoke/MethodHandle" ∧ yX12_said.cls ≠ "java/lang/invoke/VarHandle" ∧ (parseMethodDescriptor yX12_said.desc).map (fun d => d.parameters.length) = some 0 := by decide +kernel
theorem ml_L_171 : Cond.methodLink RL 171 yX11_image ∈ TB := TB_t 1036 (by decide +kernel) rfl
theorem im_X11_image : Cond.instanceMethod yX11_image ∈ TB := TB_t 1037 (by decide +kernel) rfl
theorem sl_X11_image : Cond.selects "CopyOrders" yX11_image yX11_image ∈ TB := TB_t 1038 (by decide +kernel) rfl
theorem cd_X11_image : Cond.code yX11_image cX11_image 2 (some .boolean) ∈ TB := TB_t 1039 (by decide +kernel) rfl
theorem gv_L_171 : GoodIn TB (wsV RL 171 "CopyOrders" yX11_image (wsO yX11_image cX11_image 2 (some .boolean))) := gV ml_L_171 im_X11_image sl_X11_image ini_CopyOrders cd_X11_image
theorem hd_X11_image : yX11_image.cls = "CopyOrders" ∧ yX11_image.cls ≠ "java/lang/invoke/MethodHandle" ∧ yX11_image.cls ≠ "java/lang/invoke/VarHandle" ∧ (parseMethodDescriptor yX11_image.desc).map (fun d => d.parameters.length) = some 1 := by decide +kernel
theorem ml_L_174 : Cond.methodLink RL 174 yX12_image ∈ TB := TB_t 1723 (by decide +kernel) rfl
theorem im_X12_image : Cond.instanceMethod yX12_image ∈ TB := TB_t 1724 (by decide +kernel) rfl
theorem sl_X12_image : Cond.selects "CopyOrdersModel" yX12_image yX12_image ∈ TB := TB_t 1725 (by decide +kernel) rfl
theorem cd_X12_image : Cond.code yX12_image cX12_image 3 (some .boolean) ∈ TB := TB_t 1726 (by decide +kernel) rfl
theorem gv_L_174 : GoodIn TB (wsV RL 174 "CopyOrdersModel" yX12_image (wsO yX12_image cX12_image 3 (some .boolean))) := gV ml_L_174 im_X12_image sl_X12_image ini_CopyOrdersModel cd_X12_image
theorem hd_X12_image : yX12_image.cls = "CopyOrdersModel" ∧ yX12_image.cls ≠ "java/lang/invoke/MethodHandle" ∧ yX12_image.cls ≠ "java/lang/invoke/VarHandle" ∧ (parseMethodDescriptor yX12_image.desc).map (fun d => d.parameters.length) = some 1 := by decide +kernel
theorem ml_L_175 : Cond.methodLink RL 175 yX11_restore ∈ TB := TB_t 1057 (by decide +kernel) rfl
theorem im_X11_restore : Cond.instanceMethod yX11_restore ∈ TB := TB_t 1058 (by decide +kernel) rfl
theorem sl_X11_restore : Cond.selects "CopyOrders" yX11_restore yX11_restore ∈ TB := TB_t 1059 (by decide +kernel) rfl
theorem cd_X11_restore : Cond.code yX11_restore cX11_restore 2 (some .boolean) ∈ TB := TB_t 1060 (by decide +kernel) rfl
theorem gv_L_175 : GoodIn TB (wsV RL 175 "CopyOrders" yX11_restore (wsO yX11_restore cX11_restore 2 (some .boolean))) := gV ml_L_175 im_X11_restore sl_X11_restore ini_CopyOrders cd_X11_restore
theorem hd_X11_restore : yX11_restore.cls = "CopyOrders" ∧ yX11_restore.cls ≠ "java/lang/invoke/MethodHandle" ∧ yX11_restore.cls ≠ "java/lang/invoke/VarHandle" ∧ (parseMethodDescriptor yX11_restore.desc).map (fun d => d.parameters.length) = some 1 := by decide +kernel
theorem ml_L_178 : Cond.methodLink RL 178 yX12_restore ∈ TB := TB_t 1727 (by decide +kernel) rfl
theorem im_X12_restore : Cond.instanceMethod yX12_restore ∈ TB := TB_t 1728 (by decide +kernel) rfl
theorem sl_X12_restore : Cond.selects "CopyOrdersModel" yX12_restore yX12_restore ∈ TB := TB_t 1729 (by decide +kernel) rfl
theorem cd_X12_restore : Cond.code yX12_restore cX12_restore 3 (some .boolean) ∈ TB := TB_t 1730 (by decide +kernel) rfl
theorem gv_L_178 : GoodIn TB (wsV RL 178 "CopyOrdersModel" yX12_restore (wsO yX12_restore cX12_restore 3 (some .boolean))) := gV ml_L_178 im_X12_restore sl_X12_restore ini_CopyOrdersModel cd_X12_restore
theorem hd_X12_restore : yX12_restore.cls = "CopyOrdersModel" ∧ yX12_restore.cls ≠ "java/lang/invoke/MethodHandle" ∧ yX12_restore.cls ≠ "java/lang/invoke/VarHandle" ∧ (parseMethodDescriptor yX12_restore.desc).map (fun d => d.parameters.length) = some 1 := by decide +kernel
theorem ml_L_179 : Cond.methodLink RL 179 yX11_count ∈ TB := TB_t 1061 (by decide +kernel) rfl
theorem im_X11_count : Cond.instanceMethod yX11_count ∈ TB := TB_t 1062 (by decide +kernel) rfl
theorem sl_X11_count : Cond.selects "CopyOrders" yX11_count yX11_count ∈ TB := TB_t 1063 (by decide +kernel) rfl
theorem cd_X11_count : Cond.code yX11_count cX11_count 2 (some .int) ∈ TB := TB_t 1064 (by decide +kernel) rfl
theorem gv_L_179 : GoodIn TB (wsV RL 179 "CopyOrders" yX11_count (wsO yX11_count cX11_count 2 (some .int))) := gV ml_L_179 im_X11_count sl_X11_count ini_CopyOrders cd_X11_count
theorem hd_X11_count : yX11_count.cls = "CopyOrders" ∧ yX11_count.cls ≠ "java/lang/invoke/MethodHandle" ∧ yX11_count.cls ≠ "java/lang/invoke/VarHandle" ∧ (parseMethodDescriptor yX11_count.desc).map (fun d => d.parameters.length) = some 1 := by decide +kernel
theorem ml_L_182 : Cond.methodLink RL 182 yX12_count ∈ TB := TB_t 1731 (by decide +kernel) rfl
theorem im_X12_count : Cond.instanceMethod yX12_count ∈ TB := TB_t 1732 (by decide +kernel) rfl
theorem sl_X12_count : Cond.selects "CopyOrdersModel" yX12_count yX12_count ∈ TB := TB_t 1733 (by decide +kernel) rfl
theorem cd_X12_count : Cond.code yX12_count cX12_count 2 (some .int) ∈ TB := TB_t 1734 (by decide +kernel) rfl
theorem gv_L_182 : GoodIn TB (wsV RL 182 "CopyOrdersModel" yX12_count (wsO yX12_count cX12_count 2 (some .int))) := gV ml_L_182 im_X12_count sl_X12_count ini_CopyOrdersModel cd_X12_count
theorem hd_X12_count : yX12_count.cls = "CopyOrdersModel" ∧ yX12_count.cls ≠ "java/lang/invoke/MethodHandle" ∧ yX12_count.cls ≠ "java/lang/invoke/VarHandle" ∧ (parseMethodDescriptor yX12_count.desc).map (fun d => d.parameters.length) = some 1 := by decide +kernel
theorem ml_L_7 : Cond.methodLink RL 7 yX11_line ∈ TB := TB_t 1070 (by decide +kernel) rfl
theorem im_X11_line : Cond.instanceMethod yX11_line ∈ TB := TB_t 1071 (by decide +kernel) rfl
theorem sl_X11_line : Cond.selects "CopyOrders" yX11_line yX11_line ∈ TB := TB_t 1072 (by decide +kernel) rfl
theorem cd_X11_line : Cond.code yX11_line cX11_line 4 (some .int) ∈ TB := TB_t 1073 (by decide +kernel) rfl
theorem gv_L_7 : GoodIn TB (wsV RL 7 "CopyOrders" yX11_line (wsO yX11_line cX11_line 4 (some .int))) := gV ml_L_7 im_X11_line sl_X11_line ini_CopyOrders cd_X11_line
theorem ml_L_15 : Cond.methodLink RL 15 yX11_along ∈ TB := TB_t 1138 (by decide +kernel) rfl
theorem im_X11_along : Cond.instanceMethod yX11_along ∈ TB := TB_t 1139 (by decide +kernel) rfl
theorem sl_X11_along : Cond.selects "CopyOrders" yX11_along yX11_along ∈ TB := TB_t 1140 (by decide +kernel) rfl
theorem cd_X11_along : Cond.code yX11_along cX11_along 11 (some .long) ∈ TB := TB_t 1141 (by decide +kernel) rfl
theorem gv_L_15 : GoodIn TB (wsV RL 15 "CopyOrders" yX11_along (wsO yX11_along cX11_along 11 (some .long))) := gV ml_L_15 im_X11_along sl_X11_along ini_CopyOrders cd_X11_along
theorem hd_X11_line : yX11_line.cls = "CopyOrders" ∧ yX11_line.cls ≠ "java/lang/invoke/MethodHandle" ∧ yX11_line.cls ≠ "java/lang/invoke/VarHandle" ∧ (parseMethodDescriptor yX11_line.desc).map (fun d => d.parameters.length) = some 2 := by decide +kernel
theorem hd_X11_along : yX11_along.cls = "CopyOrders" ∧ yX11_along.cls ≠ "java/lang/invoke/MethodHandle" ∧ yX11_along.cls ≠ "java/lang/invoke/VarHandle" ∧ (parseMethodDescriptor yX11_along.desc).map (fun d => d.parameters.length) = some 3 := by decide +kernel
theorem cl_L_13 : Cond.classLink RL 13 "java/util/NoSuchElementException" ∈ TB := TB_t 1069 (by decide +kernel) rfl
theorem cl_L_8 : Cond.classLink RL 8 "CopyOrders" ∈ TB := TB_t 23 (by decide +kernel) rfl
theorem cl_L_20 : Cond.classLink RL 20 "CopyOrdersModel" ∈ TB := TB_t 1153 (by decide +kernel) rfl
theorem ini_CopyOrdersLaw : Cond.initialized "CopyOrdersLaw" ∈ TB := TB_t 0 (by decide +kernel) rfl
theorem ist_X11 : Cond.instantiable "CopyOrders" 14 ∈ TB := TB_t 24 (by decide +kernel) rfl
theorem ist_X12 : Cond.instantiable "CopyOrdersModel" 47 ∈ TB := TB_t 1154 (by decide +kernel) rfl
theorem ml_L_19 : Cond.methodLink RL 19 yX11_init ∈ TB := TB_t 25 (by decide +kernel) rfl
theorem im_X11_init : Cond.instanceMethod yX11_init ∈ TB := TB_t 26 (by decide +kernel) rfl
theorem cd_X11_init : Cond.code yX11_init cX11_init 1 none ∈ TB := TB_t 27 (by decide +kernel) rfl
theorem go_X11_init : GoodIn TB (wsO yX11_init cX11_init 1 none) := gO cd_X11_init
theorem hd_X11_init : yX11_init.cls = "CopyOrders" ∧ yX11_init.cls ≠ "java/lang/invoke/MethodHandle" ∧ yX11_init.cls ≠ "java/lang/invoke/VarHandle" ∧ (parseMethodDescriptor yX11_init.desc).map (fun d => d.parameters.length) = some 0 := by decide +kernel
theorem ml_L_22 : Cond.methodLink RL 22 yX12_init ∈ TB := TB_t 1155 (by decide +kernel) rfl
theorem im_X12_init : Cond.instanceMethod yX12_init ∈ TB := TB_t 1156 (by decide +kernel) rfl
theorem cd_X12_init : Cond.code yX12_init cX12_init 1 none ∈ TB := TB_t 1157 (by decide +kernel) rfl
theorem go_X12_init : GoodIn TB (wsO yX12_init cX12_init 1 none) := gO cd_X12_init
theorem hd_X12_init : yX12_init.cls = "CopyOrdersModel" ∧ yX12_init.cls ≠ "java/lang/invoke/MethodHandle" ∧ yX12_init.cls ≠ "java/lang/invoke/VarHandle" ∧ (parseMethodDescriptor yX12_init.desc).map (fun d => d.parameters.length) = some 0 := by decide +kernel
theorem ml_L_42 : Cond.methodLink RL 42 yL_line ∈ TB := TB_t 1066 (by decide +kernel) rfl
theorem stt_L_line : Cond.static yL_line ∈ TB := TB_t 1067 (by decide +kernel) rfl
theorem hd_L_line : yL_line.cls = "CopyOrdersLaw" ∧ yL_line.cls ≠ "java/lang/invoke/MethodHandle" ∧ yL_line.cls ≠ "java/lang/invoke/VarHandle" ∧ (parseMethodDescriptor yL_line.desc).map (fun d => d.parameters.length) = some 4 := by decide +kernel
theorem cw_L_line : Cond.codeWith yL_line cL_line 5 (some .int) [(0, 10, 13, 13)] ∈ TB := TB_t 1068 (by decide +kernel) rfl
theorem ml_L_127 : Cond.methodLink RL 127 yL_along ∈ TB := TB_t 1135 (by decide +kernel) rfl
theorem stt_L_along : Cond.static yL_along ∈ TB := TB_t 1136 (by decide +kernel) rfl
theorem hd_L_along : yL_along.cls = "CopyOrdersLaw" ∧ yL_along.cls ≠ "java/lang/invoke/MethodHandle" ∧ yL_along.cls ≠ "java/lang/invoke/VarHandle" ∧ (parseMethodDescriptor yL_along.desc).map (fun d => d.parameters.length) = some 5 := by decide +kernel
theorem cw_L_along : Cond.codeWith yL_along cL_along 6 (some .int) [(0, 11, 14, 13)] ∈ TB := TB_t 1137 (by decide +kernel) rfl
theorem gw_L_42 : GoodIn TB (va_wsS RL 42 yL_line (wsW yL_line cL_line 5 (some .int) [(0, 10, 13, 13)])) := gSW ml_L_42 stt_L_line ini_CopyOrdersLaw cw_L_line
theorem gw_L_127 : GoodIn TB (va_wsS RL 127 yL_along (wsW yL_along cL_along 6 (some .int) [(0, 11, 14, 13)])) := gSW ml_L_127 stt_L_along ini_CopyOrdersLaw cw_L_along
