set_option maxRecDepth 20000 in
theorem tb_1384 : Cond.methodLink RJ5 3 objectInit ∈ TBg := tbg (i := 1384) (by rfl) rfl
theorem tb_141 : Cond.instanceMethod objectInit ∈ TBg := tbg (i := 141) (by rfl) rfl
theorem tb_142 : Cond.code objectInit ⟨#[0xb1]⟩ 1 none ∈ TBg := tbg (i := 142) (by rfl) rfl
set_option maxRecDepth 20000 in
theorem tb_1385 : Cond.fieldLink RJ5 18 "java/lang/String" "COMPACT_STRINGS" "Z" ∈ TBg := tbg (i := 1385) (by rfl) rfl
set_option maxRecDepth 20000 in
theorem tb_461 : Cond.arrayClass .byte ∈ TBg := tbg (i := 461) (by rfl) rfl
set_option maxRecDepth 20000 in
theorem tb_1393 : Cond.fieldLink RJ5 15 "java/lang/AbstractStringBuilder" "value" "[B" ∈ TBg := tbg (i := 1393) (by rfl) rfl
theorem fl_J5_15 : FL RJ5 15 "java/lang/AbstractStringBuilder" "value" "[B" := Or.inl tb_1393
set_option maxRecDepth 20000 in
theorem tin_J4 : ∀ w ∈ u_ws RJ4 TJ4 4, w ∈ TBg := by decide +kernel
set_option maxRecDepth 20000 in
theorem tb_1394 : Cond.fieldLink RJ5 22 "java/lang/AbstractStringBuilder" "coder" "B" ∈ TBg := tbg (i := 1394) (by rfl) rfl
theorem fl_J5_22 : FL RJ5 22 "java/lang/AbstractStringBuilder" "coder" "B" := Or.inl tb_1394
set_option maxRecDepth 20000 in
theorem tb_1383 : Cond.code yJ5_init_d00df cJ5_init_d00df 2 none ∈ TBg := tbg (i := 1383) (by rfl) rfl
theorem tb_109 : Cond.initialized yJ5_init_d00df.cls ∈ TBg := tbg (i := 109) (by rfl) rfl
set_option maxRecDepth 20000 in
theorem tb_1382 : Cond.instanceMethod yJ5_init_d00df ∈ TBg := tbg (i := 1382) (by rfl) rfl
theorem cal_J5_init_d00df : CalI yJ5_init_d00df (.code yJ5_init_d00df cJ5_init_d00df 2 none) cJ5_init_d00df 2 1 := ⟨rfl, tb_1383, tb_109, tb_1382, rfl, by decide +kernel, by decide +kernel, by decide +kernel⟩
set_option maxRecDepth 20000 in
theorem tb_1381 : Cond.methodLink RJ4 1 yJ5_init_d00df ∈ TBg := tbg (i := 1381) (by rfl) rfl
theorem ml_J4_1 : ML RJ4 1 yJ5_init_d00df := Or.inl tb_1381
set_option maxRecDepth 20000 in
theorem tb_1597 : Cond.fieldLink RJ0 9 "java/lang/String" "value" "[B" ∈ TBg := tbg (i := 1597) (by rfl) rfl
theorem fl_J0_9 : FL RJ0 9 "java/lang/String" "value" "[B" := Or.inl tb_1597
set_option maxRecDepth 20000 in
theorem tin_J0 : ∀ w ∈ u_ws RJ0 TJ0 4, w ∈ TBg := by decide +kernel
set_option maxRecDepth 20000 in
theorem tb_1322 : Cond.fieldLink RJ0 38 "java/lang/String" "COMPACT_STRINGS" "Z" ∈ TBg := tbg (i := 1322) (by rfl) rfl
set_option maxRecDepth 20000 in
theorem tb_1598 : Cond.fieldLink RJ0 15 "java/lang/String" "coder" "B" ∈ TBg := tbg (i := 1598) (by rfl) rfl
theorem fl_J0_15 : FL RJ0 15 "java/lang/String" "coder" "B" := Or.inl tb_1598
set_option maxRecDepth 20000 in
theorem tb_1321 : Cond.code yJ0_coder_7d493 cJ0_coder_7d493 1 (some (.byte)) ∈ TBg := tbg (i := 1321) (by rfl) rfl
theorem tb_111 : Cond.initialized yJ0_coder_7d493.cls ∈ TBg := tbg (i := 111) (by rfl) rfl
set_option maxRecDepth 20000 in
theorem tb_1319 : Cond.instanceMethod yJ0_coder_7d493 ∈ TBg := tbg (i := 1319) (by rfl) rfl
set_option maxRecDepth 20000 in
theorem tb_1320 : Cond.selects RJ0 yJ0_coder_7d493 yJ0_coder_7d493 ∈ TBg := tbg (i := 1320) (by rfl) rfl
theorem cal_J0_coder_7d493 : CalV RJ0 yJ0_coder_7d493 (.code yJ0_coder_7d493 cJ0_coder_7d493 1 (some (.byte))) cJ0_coder_7d493 1 (some (.byte)) 0 := ⟨rfl, tb_1321, tb_111, tb_1319, tb_1320, by decide +kernel, by decide +kernel, by decide +kernel⟩
set_option maxRecDepth 20000 in
theorem tb_1318 : Cond.methodLink RJ0 335 yJ0_coder_7d493 ∈ TBg := tbg (i := 1318) (by rfl) rfl
theorem ml_J0_335 : ML RJ0 335 yJ0_coder_7d493 := Or.inl tb_1318
set_option maxRecDepth 20000 in
theorem tb_1317 : Cond.code yJ0_length_8abf5 cJ0_length_8abf5 1 (some (.int)) ∈ TBg := tbg (i := 1317) (by rfl) rfl
set_option maxRecDepth 20000 in
theorem tb_1315 : Cond.instanceMethod yJ0_length_8abf5 ∈ TBg := tbg (i := 1315) (by rfl) rfl
set_option maxRecDepth 20000 in
theorem tb_1316 : Cond.selects RJ0 yJ0_length_8abf5 yJ0_length_8abf5 ∈ TBg := tbg (i := 1316) (by rfl) rfl
theorem cal_J0_length_8abf5 : CalV RJ0 yJ0_length_8abf5 (.code yJ0_length_8abf5 cJ0_length_8abf5 1 (some (.int))) cJ0_length_8abf5 1 (some (.int)) 0 := ⟨rfl, tb_1317, tb_111, tb_1315, tb_1316, by decide +kernel, by decide +kernel, by decide +kernel⟩
set_option maxRecDepth 20000 in
theorem tb_1472 : Cond.methodLink RJ5 32 yJ0_length_8abf5 ∈ TBg := tbg (i := 1472) (by rfl) rfl
theorem ml_J5_32 : ML RJ5 32 yJ0_length_8abf5 := Or.inl tb_1472
set_option maxRecDepth 20000 in
theorem tb_1396 : Cond.fieldLink RJ5 79 "java/lang/AbstractStringBuilder" "count" "I" ∈ TBg := tbg (i := 1396) (by rfl) rfl
theorem fl_J5_79 : FL RJ5 79 "java/lang/AbstractStringBuilder" "count" "I" := Or.inl tb_1396
set_option maxRecDepth 20000 in
theorem tb_1420 : Cond.code yJ5_ensureCapacityInternal_d00df cJ5_ensureCapacityInternal_d00df 3 none ∈ TBg := tbg (i := 1420) (by rfl) rfl
set_option maxRecDepth 20000 in
theorem tb_1419 : Cond.instanceMethod yJ5_ensureCapacityInternal_d00df ∈ TBg := tbg (i := 1419) (by rfl) rfl
set_option maxRecDepth 20000 in
theorem tb_1641 : Cond.selects RJ4 yJ5_ensureCapacityInternal_d00df yJ5_ensureCapacityInternal_d00df ∈ TBg := tbg (i := 1641) (by rfl) rfl
theorem cal_J5_ensureCapacityInternal_d00df : CalV RJ4 yJ5_ensureCapacityInternal_d00df (.code yJ5_ensureCapacityInternal_d00df cJ5_ensureCapacityInternal_d00df 3 none) cJ5_ensureCapacityInternal_d00df 3 none 1 := ⟨rfl, tb_1420, tb_109, tb_1419, tb_1641, by decide +kernel, by decide +kernel, by decide +kernel⟩
set_option maxRecDepth 20000 in
theorem tb_1417 : Cond.methodLink RJ5 100 yJ5_ensureCapacityInternal_d00df ∈ TBg := tbg (i := 1417) (by rfl) rfl
theorem ml_J5_100 : ML RJ5 100 yJ5_ensureCapacityInternal_d00df := Or.inl tb_1417
set_option maxRecDepth 20000 in
theorem tb_1481 : Cond.methodLink RJ5 40 yJ0_coder_7d493 ∈ TBg := tbg (i := 1481) (by rfl) rfl
theorem ml_J5_40 : ML RJ5 40 yJ0_coder_7d493 := Or.inl tb_1481
set_option maxRecDepth 20000 in
theorem tb_1480 : Cond.code yJ5_inflateIfNeededFor_a7421 cJ5_inflateIfNeededFor_a7421 2 none ∈ TBg := tbg (i := 1480) (by rfl) rfl
set_option maxRecDepth 20000 in
theorem tb_1479 : Cond.instanceMethod yJ5_inflateIfNeededFor_a7421 ∈ TBg := tbg (i := 1479) (by rfl) rfl
set_option maxRecDepth 20000 in
theorem tb_1644 : Cond.selects RJ4 yJ5_inflateIfNeededFor_a7421 yJ5_inflateIfNeededFor_a7421 ∈ TBg := tbg (i := 1644) (by rfl) rfl
theorem cal_J5_inflateIfNeededFor_a7421 : CalV RJ4 yJ5_inflateIfNeededFor_a7421 (.code yJ5_inflateIfNeededFor_a7421 cJ5_inflateIfNeededFor_a7421 2 none) cJ5_inflateIfNeededFor_a7421 2 none 1 := ⟨rfl, tb_1480, tb_109, tb_1479, tb_1644, by decide +kernel, by decide +kernel, by decide +kernel⟩
set_option maxRecDepth 20000 in
theorem tb_1477 : Cond.methodLink RJ5 397 yJ5_inflateIfNeededFor_a7421 ∈ TBg := tbg (i := 1477) (by rfl) rfl
theorem ml_J5_397 : ML RJ5 397 yJ5_inflateIfNeededFor_a7421 := Or.inl tb_1477
set_option maxRecDepth 20000 in
theorem tb_1505 : Cond.methodLink RJ0 212 arraycopyName ∈ TBg := tbg (i := 1505) (by rfl) rfl
set_option maxRecDepth 20000 in
theorem tb_1451 : Cond.native arraycopyName ∈ TBg := tbg (i := 1451) (by rfl) rfl
set_option maxRecDepth 20000 in
theorem tb_1450 : Cond.static arraycopyName ∈ TBg := tbg (i := 1450) (by rfl) rfl
theorem tb_116 : Cond.initialized "java/lang/System" ∈ TBg := tbg (i := 116) (by rfl) rfl
set_option maxRecDepth 20000 in
theorem tb_1504 : Cond.code yJ0_getBytes_840e7 cJ0_getBytes_840e7 4 none ∈ TBg := tbg (i := 1504) (by rfl) rfl
set_option maxRecDepth 20000 in
theorem tb_1502 : Cond.instanceMethod yJ0_getBytes_840e7 ∈ TBg := tbg (i := 1502) (by rfl) rfl
set_option maxRecDepth 20000 in
theorem tb_1503 : Cond.selects RJ0 yJ0_getBytes_840e7 yJ0_getBytes_840e7 ∈ TBg := tbg (i := 1503) (by rfl) rfl
theorem cal_J0_getBytes_840e7 : CalV RJ0 yJ0_getBytes_840e7 (.code yJ0_getBytes_840e7 cJ0_getBytes_840e7 4 none) cJ0_getBytes_840e7 4 none 3 := ⟨rfl, tb_1504, tb_111, tb_1502, tb_1503, by decide +kernel, by decide +kernel, by decide +kernel⟩
set_option maxRecDepth 20000 in
theorem tb_1501 : Cond.methodLink RJ5 399 yJ0_getBytes_840e7 ∈ TBg := tbg (i := 1501) (by rfl) rfl
theorem ml_J5_399 : ML RJ5 399 yJ0_getBytes_840e7 := Or.inl tb_1501
set_option maxRecDepth 20000 in
theorem tb_1476 : Cond.code yJ5_putStringAt_47b60 cJ5_putStringAt_47b60 3 none ∈ TBg := tbg (i := 1476) (by rfl) rfl
set_option maxRecDepth 20000 in
theorem tb_1475 : Cond.instanceMethod yJ5_putStringAt_47b60 ∈ TBg := tbg (i := 1475) (by rfl) rfl
set_option maxRecDepth 20000 in
theorem tb_1643 : Cond.selects RJ4 yJ5_putStringAt_47b60 yJ5_putStringAt_47b60 ∈ TBg := tbg (i := 1643) (by rfl) rfl
theorem cal_J5_putStringAt_47b60 : CalV RJ4 yJ5_putStringAt_47b60 (.code yJ5_putStringAt_47b60 cJ5_putStringAt_47b60 3 none) cJ5_putStringAt_47b60 3 none 2 := ⟨rfl, tb_1476, tb_109, tb_1475, tb_1643, by decide +kernel, by decide +kernel, by decide +kernel⟩
set_option maxRecDepth 20000 in
theorem tb_1473 : Cond.methodLink RJ5 208 yJ5_putStringAt_47b60 ∈ TBg := tbg (i := 1473) (by rfl) rfl
theorem ml_J5_208 : ML RJ5 208 yJ5_putStringAt_47b60 := Or.inl tb_1473
set_option maxRecDepth 20000 in
theorem tb_1412 : Cond.code yJ5_append_cf1ce cJ5_append_cf1ce 3 (some (.object "java/lang/AbstractStringBuilder")) ∈ TBg := tbg (i := 1412) (by rfl) rfl
set_option maxRecDepth 20000 in
theorem tb_1411 : Cond.instanceMethod yJ5_append_cf1ce ∈ TBg := tbg (i := 1411) (by rfl) rfl
set_option maxRecDepth 20000 in
theorem tb_1611 : Cond.sameMethod yJ5_append_cf1ce.cls yJ5_append_cf1ce.cls yJ5_append_cf1ce.name yJ5_append_cf1ce.desc ∈ TBg := tbg (i := 1611) (by rfl) rfl
set_option maxRecDepth 20000 in
theorem tb_1405 : Cond.superclass RJ4 yJ5_append_cf1ce.cls ∈ TBg := tbg (i := 1405) (by rfl) rfl
theorem cal_J5_append_cf1ce_P : CalSU RJ4 yJ5_append_cf1ce (.code yJ5_append_cf1ce cJ5_append_cf1ce 3 (some (.object "java/lang/AbstractStringBuilder"))) cJ5_append_cf1ce 3 (some (.object "java/lang/AbstractStringBuilder")) 1 := ⟨rfl, tb_1412, tb_109, tb_1411, tb_1611, tb_1405, by decide +kernel, by decide +kernel⟩
set_option maxRecDepth 20000 in
theorem tb_1410 : Cond.methodLink RJ4 29 yJ5_append_cf1ce ∈ TBg := tbg (i := 1410) (by rfl) rfl
set_option maxRecDepth 20000 in
theorem tb_1456 : Cond.code yJ5_isLatin1_aae02 cJ5_isLatin1_aae02 1 (some (.boolean)) ∈ TBg := tbg (i := 1456) (by rfl) rfl
set_option maxRecDepth 20000 in
theorem tb_1453 : Cond.instanceMethod yJ5_isLatin1_aae02 ∈ TBg := tbg (i := 1453) (by rfl) rfl
set_option maxRecDepth 20000 in
theorem tb_1455 : Cond.selects RJ4 yJ5_isLatin1_aae02 yJ5_isLatin1_aae02 ∈ TBg := tbg (i := 1455) (by rfl) rfl
theorem cal_J5_isLatin1_aae02 : CalV RJ4 yJ5_isLatin1_aae02 (.code yJ5_isLatin1_aae02 cJ5_isLatin1_aae02 1 (some (.boolean))) cJ5_isLatin1_aae02 1 (some (.boolean)) 0 := ⟨rfl, tb_1456, tb_109, tb_1453, tb_1455, by decide +kernel, by decide +kernel, by decide +kernel⟩
set_option maxRecDepth 20000 in
theorem tb_1452 : Cond.methodLink RJ5 83 yJ5_isLatin1_aae02 ∈ TBg := tbg (i := 1452) (by rfl) rfl
theorem ml_J5_83 : ML RJ5 83 yJ5_isLatin1_aae02 := Or.inl tb_1452
set_option maxRecDepth 20000 in
theorem tb_1516 : Cond.code yJ1_canEncode_fc78d cJ1_canEncode_fc78d 1 (some (.boolean)) ∈ TBg := tbg (i := 1516) (by rfl) rfl
theorem tb_118 : Cond.initialized yJ1_canEncode_fc78d.cls ∈ TBg := tbg (i := 118) (by rfl) rfl
set_option maxRecDepth 20000 in
theorem tb_1515 : Cond.static yJ1_canEncode_fc78d ∈ TBg := tbg (i := 1515) (by rfl) rfl
theorem cal_J1_canEncode_fc78d : CalS yJ1_canEncode_fc78d (.code yJ1_canEncode_fc78d cJ1_canEncode_fc78d 1 (some (.boolean))) cJ1_canEncode_fc78d 1 (some (.boolean)) 1 := ⟨rfl, tb_1516, tb_118, tb_1515, by decide +kernel, by decide +kernel, by decide +kernel⟩
set_option maxRecDepth 20000 in
theorem tb_1514 : Cond.methodLink RJ5 191 yJ1_canEncode_fc78d ∈ TBg := tbg (i := 1514) (by rfl) rfl
theorem ml_J5_191 : ML RJ5 191 yJ1_canEncode_fc78d := Or.inl tb_1514
set_option maxRecDepth 20000 in
theorem tb_1513 : Cond.code yJ5_append_3fe6f cJ5_append_3fe6f 2 (some (.object "java/lang/AbstractStringBuilder")) ∈ TBg := tbg (i := 1513) (by rfl) rfl
set_option maxRecDepth 20000 in
theorem tb_1512 : Cond.instanceMethod yJ5_append_3fe6f ∈ TBg := tbg (i := 1512) (by rfl) rfl
set_option maxRecDepth 20000 in
theorem tb_1618 : Cond.sameMethod yJ5_append_3fe6f.cls yJ5_append_3fe6f.cls yJ5_append_3fe6f.name yJ5_append_3fe6f.desc ∈ TBg := tbg (i := 1618) (by rfl) rfl
theorem cal_J5_append_3fe6f_P : CalSU RJ4 yJ5_append_3fe6f (.code yJ5_append_3fe6f cJ5_append_3fe6f 2 (some (.object "java/lang/AbstractStringBuilder"))) cJ5_append_3fe6f 2 (some (.object "java/lang/AbstractStringBuilder")) 1 := ⟨rfl, tb_1513, tb_109, tb_1512, tb_1618, tb_1405, by decide +kernel, by decide +kernel⟩
set_option maxRecDepth 20000 in
theorem tb_1511 : Cond.methodLink RJ4 50 yJ5_append_3fe6f ∈ TBg := tbg (i := 1511) (by rfl) rfl
set_option maxRecDepth 20000 in
theorem tb_1524 : Cond.classLink RJ4 18 RJ0 ∈ TBg := tbg (i := 1524) (by rfl) rfl
set_option maxRecDepth 20000 in
theorem tb_460 : Cond.instantiable RJ0 4 ∈ TBg := tbg (i := 460) (by rfl) rfl
set_option maxRecDepth 20000 in
theorem tb_1531 : Cond.methodLink RJ0 1 objectInit ∈ TBg := tbg (i := 1531) (by rfl) rfl
set_option maxRecDepth 20000 in
theorem tb_1536 : Cond.code yJ5_getValue_6d5f1 cJ5_getValue_6d5f1 1 (some (.array .byte)) ∈ TBg := tbg (i := 1536) (by rfl) rfl
set_option maxRecDepth 20000 in
theorem tb_1533 : Cond.instanceMethod yJ5_getValue_6d5f1 ∈ TBg := tbg (i := 1533) (by rfl) rfl
set_option maxRecDepth 20000 in
theorem tb_1535 : Cond.selects RJ4 yJ5_getValue_6d5f1 yJ5_getValue_6d5f1 ∈ TBg := tbg (i := 1535) (by rfl) rfl
theorem cal_J5_getValue_6d5f1 : CalV RJ4 yJ5_getValue_6d5f1 (.code yJ5_getValue_6d5f1 cJ5_getValue_6d5f1 1 (some (.array .byte))) cJ5_getValue_6d5f1 1 (some (.array .byte)) 0 := ⟨rfl, tb_1536, tb_109, tb_1533, tb_1535, by decide +kernel, by decide +kernel, by decide +kernel⟩
set_option maxRecDepth 20000 in
theorem tb_1532 : Cond.methodLink RJ0 552 yJ5_getValue_6d5f1 ∈ TBg := tbg (i := 1532) (by rfl) rfl
theorem ml_J0_552 : ML RJ0 552 yJ5_getValue_6d5f1 := Or.inl tb_1532
set_option maxRecDepth 20000 in
theorem tb_1544 : Cond.code yJ5_length_8abf5 cJ5_length_8abf5 1 (some (.int)) ∈ TBg := tbg (i := 1544) (by rfl) rfl
set_option maxRecDepth 20000 in
theorem tb_1538 : Cond.instanceMethod yJ5_length_8abf5 ∈ TBg := tbg (i := 1538) (by rfl) rfl
set_option maxRecDepth 20000 in
theorem tb_1539 : Cond.sameMethod yJ5_length_8abf5.cls yJ5_length_8abf5.cls yJ5_length_8abf5.name yJ5_length_8abf5.desc ∈ TBg := tbg (i := 1539) (by rfl) rfl
theorem cal_J5_length_8abf5_P : CalSU RJ4 yJ5_length_8abf5 (.code yJ5_length_8abf5 cJ5_length_8abf5 1 (some (.int))) cJ5_length_8abf5 1 (some (.int)) 0 := ⟨rfl, tb_1544, tb_109, tb_1538, tb_1539, tb_1405, by decide +kernel, by decide +kernel⟩
set_option maxRecDepth 20000 in
theorem tb_1543 : Cond.methodLink RJ4 343 yJ5_length_8abf5 ∈ TBg := tbg (i := 1543) (by rfl) rfl
set_option maxRecDepth 20000 in
theorem tb_1542 : Cond.code yJ4_length_8abf5 cJ4_length_8abf5 1 (some (.int)) ∈ TBg := tbg (i := 1542) (by rfl) rfl
theorem tb_110 : Cond.initialized yJ4_length_8abf5.cls ∈ TBg := tbg (i := 110) (by rfl) rfl
set_option maxRecDepth 20000 in
theorem tb_1540 : Cond.selects RJ4 yJ5_length_8abf5 yJ4_length_8abf5 ∈ TBg := tbg (i := 1540) (by rfl) rfl
set_option maxRecDepth 20000 in
theorem tb_1541 : Cond.instanceMethod yJ4_length_8abf5 ∈ TBg := tbg (i := 1541) (by rfl) rfl
theorem cal_J4_length_8abf5_U : CalU RJ4 yJ5_length_8abf5 yJ4_length_8abf5 (.code yJ4_length_8abf5 cJ4_length_8abf5 1 (some (.int))) cJ4_length_8abf5 1 (some (.int)) 0 := ⟨rfl, tb_1542, tb_110, tb_1539, tb_1540, tb_1541, tb_1538, ⟨_, _, _, tb_1544⟩, by decide +kernel, by decide +kernel, by decide +kernel⟩
set_option maxRecDepth 20000 in
theorem tb_1537 : Cond.methodLink RJ0 549 yJ5_length_8abf5 ∈ TBg := tbg (i := 1537) (by rfl) rfl
set_option maxRecDepth 20000 in
theorem tb_1545 : Cond.methodLink RJ0 1047 yJ5_isLatin1_aae02 ∈ TBg := tbg (i := 1545) (by rfl) rfl
theorem ml_J0_1047 : ML RJ0 1047 yJ5_isLatin1_aae02 := Or.inl tb_1545
set_option maxRecDepth 20000 in
theorem tb_1395 : Cond.fieldLink RJ0 1048 "java/lang/AbstractStringBuilder" "maybeLatin1" "Z" ∈ TBg := tbg (i := 1395) (by rfl) rfl
theorem fl_J0_1048 : FL RJ0 1048 "java/lang/AbstractStringBuilder" "maybeLatin1" "Z" := Or.inl tb_1395
set_option maxRecDepth 20000 in
theorem tb_1554 : Cond.code yJ7_checkLength_df160 cJ7_checkLength_df160 2 none ∈ TBg := tbg (i := 1554) (by rfl) rfl
theorem tb_115 : Cond.initialized yJ7_checkLength_df160.cls ∈ TBg := tbg (i := 115) (by rfl) rfl
set_option maxRecDepth 20000 in
theorem tb_1553 : Cond.static yJ7_checkLength_df160 ∈ TBg := tbg (i := 1553) (by rfl) rfl
theorem cal_J7_checkLength_df160 : CalS yJ7_checkLength_df160 (.code yJ7_checkLength_df160 cJ7_checkLength_df160 2 none) cJ7_checkLength_df160 2 none 2 := ⟨rfl, tb_1554, tb_115, tb_1553, by decide +kernel, by decide +kernel, by decide +kernel⟩
set_option maxRecDepth 20000 in
theorem tb_1552 : Cond.methodLink RJ7 343 yJ7_checkLength_df160 ∈ TBg := tbg (i := 1552) (by rfl) rfl
theorem ml_J7_343 : ML RJ7 343 yJ7_checkLength_df160 := Or.inl tb_1552
set_option maxRecDepth 20000 in
theorem tb_1446 : Cond.methodLink RJ7 304 Lib.Math.min.name ∈ TBg := tbg (i := 1446) (by rfl) rfl
set_option maxRecDepth 20000 in
theorem tb_1447 : Cond.static Lib.Math.min.name ∈ TBg := tbg (i := 1447) (by rfl) rfl
theorem tb_114 : Cond.initialized "java/lang/Math" ∈ TBg := tbg (i := 114) (by rfl) rfl
set_option maxRecDepth 20000 in
theorem tb_1448 : Cond.code Lib.Math.min.name Lib.Math.min.code 2 (some .int) ∈ TBg := tbg (i := 1448) (by rfl) rfl
set_option maxRecDepth 20000 in
theorem tb_1449 : Cond.methodLink RJ7 150 arraycopyName ∈ TBg := tbg (i := 1449) (by rfl) rfl
set_option maxRecDepth 20000 in
theorem tb_1551 : Cond.code yJ7_copyOfRangeByte_39247 cJ7_copyOfRangeByte_39247 5 (some (.array .byte)) ∈ TBg := tbg (i := 1551) (by rfl) rfl
set_option maxRecDepth 20000 in
theorem tb_1550 : Cond.static yJ7_copyOfRangeByte_39247 ∈ TBg := tbg (i := 1550) (by rfl) rfl
theorem cal_J7_copyOfRangeByte_39247 : CalS yJ7_copyOfRangeByte_39247 (.code yJ7_copyOfRangeByte_39247 cJ7_copyOfRangeByte_39247 5 (some (.array .byte))) cJ7_copyOfRangeByte_39247 5 (some (.array .byte)) 3 := ⟨rfl, tb_1551, tb_115, tb_1550, by decide +kernel, by decide +kernel, by decide +kernel⟩
set_option maxRecDepth 20000 in
theorem tb_1549 : Cond.methodLink RJ7 339 yJ7_copyOfRangeByte_39247 ∈ TBg := tbg (i := 1549) (by rfl) rfl
theorem ml_J7_339 : ML RJ7 339 yJ7_copyOfRangeByte_39247 := Or.inl tb_1549
set_option maxRecDepth 20000 in
theorem tb_1548 : Cond.code yJ7_copyOfRange_39247 cJ7_copyOfRange_39247 3 (some (.array .byte)) ∈ TBg := tbg (i := 1548) (by rfl) rfl
set_option maxRecDepth 20000 in
theorem tb_1547 : Cond.static yJ7_copyOfRange_39247 ∈ TBg := tbg (i := 1547) (by rfl) rfl
theorem cal_J7_copyOfRange_39247 : CalS yJ7_copyOfRange_39247 (.code yJ7_copyOfRange_39247 cJ7_copyOfRange_39247 3 (some (.array .byte))) cJ7_copyOfRange_39247 3 (some (.array .byte)) 3 := ⟨rfl, tb_1548, tb_115, tb_1547, by decide +kernel, by decide +kernel, by decide +kernel⟩
set_option maxRecDepth 20000 in
theorem tb_1546 : Cond.methodLink RJ0 54 yJ7_copyOfRange_39247 ∈ TBg := tbg (i := 1546) (by rfl) rfl
theorem ml_J0_54 : ML RJ0 54 yJ7_copyOfRange_39247 := Or.inl tb_1546
set_option maxRecDepth 20000 in
theorem tb_1530 : Cond.code yJ0_init_db425 cJ0_init_db425 5 none ∈ TBg := tbg (i := 1530) (by rfl) rfl
set_option maxRecDepth 20000 in
theorem tb_1529 : Cond.instanceMethod yJ0_init_db425 ∈ TBg := tbg (i := 1529) (by rfl) rfl
theorem cal_J0_init_db425 : CalI yJ0_init_db425 (.code yJ0_init_db425 cJ0_init_db425 5 none) cJ0_init_db425 5 2 := ⟨rfl, tb_1530, tb_111, tb_1529, rfl, by decide +kernel, by decide +kernel, by decide +kernel⟩
set_option maxRecDepth 20000 in
theorem tb_1528 : Cond.methodLink RJ0 489 yJ0_init_db425 ∈ TBg := tbg (i := 1528) (by rfl) rfl
theorem ml_J0_489 : ML RJ0 489 yJ0_init_db425 := Or.inl tb_1528
set_option maxRecDepth 20000 in
theorem tb_1527 : Cond.code yJ0_init_81219 cJ0_init_81219 2 none ∈ TBg := tbg (i := 1527) (by rfl) rfl
set_option maxRecDepth 20000 in
theorem tb_1526 : Cond.instanceMethod yJ0_init_81219 ∈ TBg := tbg (i := 1526) (by rfl) rfl
theorem cal_J0_init_81219 : CalI yJ0_init_81219 (.code yJ0_init_81219 cJ0_init_81219 2 none) cJ0_init_81219 2 1 := ⟨rfl, tb_1527, tb_111, tb_1526, rfl, by decide +kernel, by decide +kernel, by decide +kernel⟩
set_option maxRecDepth 20000 in
theorem tb_1525 : Cond.methodLink RJ4 137 yJ0_init_81219 ∈ TBg := tbg (i := 1525) (by rfl) rfl
theorem ml_J4_137 : ML RJ4 137 yJ0_init_81219 := Or.inl tb_1525
set_option maxRecDepth 20000 in
theorem tb_1331 : Cond.code yJ0_isLatin1_aae02 cJ0_isLatin1_aae02 1 (some (.boolean)) ∈ TBg := tbg (i := 1331) (by rfl) rfl
set_option maxRecDepth 20000 in
theorem tb_1329 : Cond.instanceMethod yJ0_isLatin1_aae02 ∈ TBg := tbg (i := 1329) (by rfl) rfl
set_option maxRecDepth 20000 in
theorem tb_1330 : Cond.selects RJ0 yJ0_isLatin1_aae02 yJ0_isLatin1_aae02 ∈ TBg := tbg (i := 1330) (by rfl) rfl
theorem cal_J0_isLatin1_aae02 : CalV RJ0 yJ0_isLatin1_aae02 (.code yJ0_isLatin1_aae02 cJ0_isLatin1_aae02 1 (some (.boolean))) cJ0_isLatin1_aae02 1 (some (.boolean)) 0 := ⟨rfl, tb_1331, tb_111, tb_1329, tb_1330, by decide +kernel, by decide +kernel, by decide +kernel⟩
set_option maxRecDepth 20000 in
theorem tb_1328 : Cond.methodLink RJ0 492 yJ0_isLatin1_aae02 ∈ TBg := tbg (i := 1328) (by rfl) rfl
theorem ml_J0_492 : ML RJ0 492 yJ0_isLatin1_aae02 := Or.inl tb_1328
set_option maxRecDepth 20000 in
theorem tb_1338 : Cond.fieldLink RJ0 1053 "jdk/internal/util/Preconditions" "SIOOBE_FORMATTER" "Ljava/util/function/BiFunction;" ∈ TBg := tbg (i := 1338) (by rfl) rfl
set_option maxRecDepth 20000 in
theorem tb_1342 : Cond.code yJ3_checkIndex_8e157 cJ3_checkIndex_8e157 3 (some (.int)) ∈ TBg := tbg (i := 1342) (by rfl) rfl
theorem tb_117 : Cond.initialized yJ3_checkIndex_8e157.cls ∈ TBg := tbg (i := 117) (by rfl) rfl
set_option maxRecDepth 20000 in
theorem tb_1341 : Cond.static yJ3_checkIndex_8e157 ∈ TBg := tbg (i := 1341) (by rfl) rfl
theorem cal_J3_checkIndex_8e157 : CalS yJ3_checkIndex_8e157 (.code yJ3_checkIndex_8e157 cJ3_checkIndex_8e157 3 (some (.int))) cJ3_checkIndex_8e157 3 (some (.int)) 3 := ⟨rfl, tb_1342, tb_117, tb_1341, by decide +kernel, by decide +kernel, by decide +kernel⟩
set_option maxRecDepth 20000 in
theorem tb_1340 : Cond.methodLink RJ0 1059 yJ3_checkIndex_8e157 ∈ TBg := tbg (i := 1340) (by rfl) rfl
theorem ml_J0_1059 : ML RJ0 1059 yJ3_checkIndex_8e157 := Or.inl tb_1340
set_option maxRecDepth 20000 in
theorem tb_1337 : Cond.code yJ0_checkIndex_df160 cJ0_checkIndex_df160 2 none ∈ TBg := tbg (i := 1337) (by rfl) rfl
set_option maxRecDepth 20000 in
theorem tb_1336 : Cond.static yJ0_checkIndex_df160 ∈ TBg := tbg (i := 1336) (by rfl) rfl
theorem cal_J0_checkIndex_df160 : CalS yJ0_checkIndex_df160 (.code yJ0_checkIndex_df160 cJ0_checkIndex_df160 2 none) cJ0_checkIndex_df160 2 none 2 := ⟨rfl, tb_1337, tb_111, tb_1336, by decide +kernel, by decide +kernel, by decide +kernel⟩
set_option maxRecDepth 20000 in
theorem tb_1335 : Cond.methodLink RJ1 9 yJ0_checkIndex_df160 ∈ TBg := tbg (i := 1335) (by rfl) rfl
theorem ml_J1_9 : ML RJ1 9 yJ0_checkIndex_df160 := Or.inl tb_1335
set_option maxRecDepth 20000 in
theorem tb_1334 : Cond.code yJ1_charAt_3b067 cJ1_charAt_3b067 2 (some (.char)) ∈ TBg := tbg (i := 1334) (by rfl) rfl
set_option maxRecDepth 20000 in
theorem tb_1333 : Cond.static yJ1_charAt_3b067 ∈ TBg := tbg (i := 1333) (by rfl) rfl
theorem cal_J1_charAt_3b067 : CalS yJ1_charAt_3b067 (.code yJ1_charAt_3b067 cJ1_charAt_3b067 2 (some (.char))) cJ1_charAt_3b067 2 (some (.char)) 2 := ⟨rfl, tb_1334, tb_118, tb_1333, by decide +kernel, by decide +kernel, by decide +kernel⟩
set_option maxRecDepth 20000 in
theorem tb_1332 : Cond.methodLink RJ0 495 yJ1_charAt_3b067 ∈ TBg := tbg (i := 1332) (by rfl) rfl
theorem ml_J0_495 : ML RJ0 495 yJ1_charAt_3b067 := Or.inl tb_1332
set_option maxRecDepth 20000 in
theorem tb_378 : Cond.constant RL 7 (310019) ∈ TBg := tbg (i := 378) (by rfl) rfl
set_option maxRecDepth 20000 in
theorem tb_382 : Cond.constant RL 8 (2147483647) ∈ TBg := tbg (i := 382) (by rfl) rfl
theorem tb_140 : Cond.methodLink RX11 1 objectInit ∈ TBg := tbg (i := 140) (by rfl) rfl
theorem tb_143 : Cond.classLink RX11 7 RX9 ∈ TBg := tbg (i := 143) (by rfl) rfl
theorem tb_144 : Cond.instantiable RX9 2 ∈ TBg := tbg (i := 144) (by rfl) rfl
theorem tb_102 : Cond.initialized RX9 ∈ TBg := tbg (i := 102) (by rfl) rfl
set_option maxRecDepth 20000 in
theorem tin_X9 : ∀ w ∈ u_ws RX9 TX9 2, w ∈ TBg := by decide +kernel
theorem tb_148 : Cond.methodLink RX9 3 objectInit ∈ TBg := tbg (i := 148) (by rfl) rfl
theorem tb_160 : Cond.arrayClass .char ∈ TBg := tbg (i := 160) (by rfl) rfl
theorem tb_149 : Cond.fieldLink RX9 9 "Shiftgate$Tape" "signs" "[C" ∈ TBg := tbg (i := 149) (by rfl) rfl
theorem fl_X9_9 : FL RX9 9 "Shiftgate$Tape" "signs" "[C" := Or.inl tb_149
theorem tb_147 : Cond.code yX9_init cX9_init 1 none ∈ TBg := tbg (i := 147) (by rfl) rfl
theorem tb_146 : Cond.instanceMethod yX9_init ∈ TBg := tbg (i := 146) (by rfl) rfl
theorem cal_X9_init : CalI yX9_init (.code yX9_init cX9_init 1 none) cX9_init 1 0 := ⟨rfl, tb_147, tb_102, tb_146, rfl, by decide +kernel, by decide +kernel, by decide +kernel⟩
theorem tb_145 : Cond.methodLinkNest RX11 9 yX9_init "Shiftgate" ∈ TBg := tbg (i := 145) (by rfl) rfl
theorem ml_X11_9 : ML RX11 9 yX9_init := Or.inr ⟨_, tb_145⟩
set_option maxRecDepth 20000 in
theorem tb_301 : Cond.fieldLink RX11 10 "Shiftgate" "tape" "LShiftgate$Tape;" ∈ TBg := tbg (i := 301) (by rfl) rfl
theorem fl_X11_10 : FL RX11 10 "Shiftgate" "tape" "LShiftgate$Tape;" := Or.inl tb_301
set_option maxRecDepth 20000 in
theorem tin_X11 : ∀ w ∈ u_ws RX11 TX11 12, w ∈ TBg := by decide +kernel
theorem tb_161 : Cond.classLink RX11 16 "Shiftgate$Graph" ∈ TBg := tbg (i := 161) (by rfl) rfl
set_option maxRecDepth 20000 in
theorem tb_302 : Cond.fieldLink RX11 18 "Shiftgate" "shifts" "[LShiftgate$Graph;" ∈ TBg := tbg (i := 302) (by rfl) rfl
theorem fl_X11_18 : FL RX11 18 "Shiftgate" "shifts" "[LShiftgate$Graph;" := Or.inl tb_302
theorem tb_163 : Cond.classLink RX11 22 "Shiftgate$Block" ∈ TBg := tbg (i := 163) (by rfl) rfl
set_option maxRecDepth 20000 in
theorem tb_304 : Cond.fieldLink RX11 24 "Shiftgate" "codes" "[LShiftgate$Block;" ∈ TBg := tbg (i := 304) (by rfl) rfl
theorem fl_X11_24 : FL RX11 24 "Shiftgate" "codes" "[LShiftgate$Block;" := Or.inl tb_304
theorem tb_165 : Cond.classLink RX11 28 "Shiftgate$Table" ∈ TBg := tbg (i := 165) (by rfl) rfl
set_option maxRecDepth 20000 in
theorem tb_306 : Cond.fieldLink RX11 30 "Shiftgate" "matrices" "[LShiftgate$Table;" ∈ TBg := tbg (i := 306) (by rfl) rfl
theorem fl_X11_30 : FL RX11 30 "Shiftgate" "matrices" "[LShiftgate$Table;" := Or.inl tb_306
theorem tb_167 : Cond.classLink RX11 34 RX6 ∈ TBg := tbg (i := 167) (by rfl) rfl
theorem tb_168 : Cond.instantiable RX6 11 ∈ TBg := tbg (i := 168) (by rfl) rfl
theorem tb_103 : Cond.initialized RX6 ∈ TBg := tbg (i := 103) (by rfl) rfl
set_option maxRecDepth 20000 in
theorem tin_X6 : ∀ w ∈ u_ws RX6 TX6 11, w ∈ TBg := by decide +kernel
theorem tb_172 : Cond.methodLink RX6 3 objectInit ∈ TBg := tbg (i := 172) (by rfl) rfl
theorem tb_207 : Cond.arrayClass .int ∈ TBg := tbg (i := 207) (by rfl) rfl
theorem tb_173 : Cond.fieldLink RX6 11 "Shiftgate$Reader" "knownSet" "[I" ∈ TBg := tbg (i := 173) (by rfl) rfl
theorem fl_X6_11 : FL RX6 11 "Shiftgate$Reader" "knownSet" "[I" := Or.inl tb_173
theorem tb_174 : Cond.fieldLink RX6 15 "Shiftgate$Reader" "knownLeft" "[I" ∈ TBg := tbg (i := 174) (by rfl) rfl
theorem fl_X6_15 : FL RX6 15 "Shiftgate$Reader" "knownLeft" "[I" := Or.inl tb_174
theorem tb_175 : Cond.fieldLink RX6 18 "Shiftgate$Reader" "knownCount" "[I" ∈ TBg := tbg (i := 175) (by rfl) rfl
theorem fl_X6_18 : FL RX6 18 "Shiftgate$Reader" "knownCount" "[I" := Or.inl tb_175
theorem tb_176 : Cond.fieldLink RX6 21 "Shiftgate$Reader" "row" "[I" ∈ TBg := tbg (i := 176) (by rfl) rfl
theorem fl_X6_21 : FL RX6 21 "Shiftgate$Reader" "row" "[I" := Or.inl tb_176
theorem tb_177 : Cond.fieldLink RX6 24 "Shiftgate$Reader" "sets" "[I" ∈ TBg := tbg (i := 177) (by rfl) rfl
theorem fl_X6_24 : FL RX6 24 "Shiftgate$Reader" "sets" "[I" := Or.inl tb_177
theorem tb_178 : Cond.fieldLink RX6 27 "Shiftgate$Reader" "moves" "[I" ∈ TBg := tbg (i := 178) (by rfl) rfl
theorem fl_X6_27 : FL RX6 27 "Shiftgate$Reader" "moves" "[I" := Or.inl tb_178
theorem tb_179 : Cond.fieldLink RX6 30 "Shiftgate$Reader" "kinds" "[I" ∈ TBg := tbg (i := 179) (by rfl) rfl
theorem fl_X6_30 : FL RX6 30 "Shiftgate$Reader" "kinds" "[I" := Or.inl tb_179
theorem tb_180 : Cond.fieldLink RX6 33 "Shiftgate$Reader" "finer" "[I" ∈ TBg := tbg (i := 180) (by rfl) rfl
theorem fl_X6_33 : FL RX6 33 "Shiftgate$Reader" "finer" "[I" := Or.inl tb_180
theorem tb_181 : Cond.fieldLink RX6 36 "Shiftgate$Reader" "firsts" "[I" ∈ TBg := tbg (i := 181) (by rfl) rfl
theorem fl_X6_36 : FL RX6 36 "Shiftgate$Reader" "firsts" "[I" := Or.inl tb_181
theorem tb_182 : Cond.fieldLink RX6 39 "Shiftgate$Reader" "seconds" "[I" ∈ TBg := tbg (i := 182) (by rfl) rfl
theorem fl_X6_39 : FL RX6 39 "Shiftgate$Reader" "seconds" "[I" := Or.inl tb_182
theorem tb_183 : Cond.fieldLink RX6 42 "Shiftgate$Reader" "marks" "[I" ∈ TBg := tbg (i := 183) (by rfl) rfl
theorem fl_X6_42 : FL RX6 42 "Shiftgate$Reader" "marks" "[I" := Or.inl tb_183
theorem tb_171 : Cond.code yX6_init cX6_init 1 none ∈ TBg := tbg (i := 171) (by rfl) rfl
theorem tb_170 : Cond.instanceMethod yX6_init ∈ TBg := tbg (i := 170) (by rfl) rfl
theorem cal_X6_init : CalI yX6_init (.code yX6_init cX6_init 1 none) cX6_init 1 0 := ⟨rfl, tb_171, tb_103, tb_170, rfl, by decide +kernel, by decide +kernel, by decide +kernel⟩
theorem tb_169 : Cond.methodLinkNest RX11 36 yX6_init "Shiftgate" ∈ TBg := tbg (i := 169) (by rfl) rfl
theorem ml_X11_36 : ML RX11 36 yX6_init := Or.inr ⟨_, tb_169⟩
set_option maxRecDepth 20000 in
theorem tb_308 : Cond.fieldLink RX11 37 "Shiftgate" "reader" "LShiftgate$Reader;" ∈ TBg := tbg (i := 308) (by rfl) rfl
theorem fl_X11_37 : FL RX11 37 "Shiftgate" "reader" "LShiftgate$Reader;" := Or.inl tb_308
theorem tb_208 : Cond.classLink RX11 41 RX10 ∈ TBg := tbg (i := 208) (by rfl) rfl
theorem tb_209 : Cond.instantiable RX10 2 ∈ TBg := tbg (i := 209) (by rfl) rfl
theorem tb_104 : Cond.initialized RX10 ∈ TBg := tbg (i := 104) (by rfl) rfl
set_option maxRecDepth 20000 in
theorem tin_X10 : ∀ w ∈ u_ws RX10 TX10 2, w ∈ TBg := by decide +kernel
theorem tb_213 : Cond.methodLink RX10 3 objectInit ∈ TBg := tbg (i := 213) (by rfl) rfl
theorem tb_214 : Cond.fieldLink RX10 9 "Shiftgate$Ways" "reach" "[I" ∈ TBg := tbg (i := 214) (by rfl) rfl
theorem fl_X10_9 : FL RX10 9 "Shiftgate$Ways" "reach" "[I" := Or.inl tb_214
theorem tb_215 : Cond.fieldLink RX10 15 "Shiftgate$Ways" "levels" "[I" ∈ TBg := tbg (i := 215) (by rfl) rfl
theorem fl_X10_15 : FL RX10 15 "Shiftgate$Ways" "levels" "[I" := Or.inl tb_215
theorem tb_212 : Cond.code yX10_init cX10_init 1 none ∈ TBg := tbg (i := 212) (by rfl) rfl
theorem tb_211 : Cond.instanceMethod yX10_init ∈ TBg := tbg (i := 211) (by rfl) rfl
theorem cal_X10_init : CalI yX10_init (.code yX10_init cX10_init 1 none) cX10_init 1 0 := ⟨rfl, tb_212, tb_104, tb_211, rfl, by decide +kernel, by decide +kernel, by decide +kernel⟩
theorem tb_210 : Cond.methodLinkNest RX11 43 yX10_init "Shiftgate" ∈ TBg := tbg (i := 210) (by rfl) rfl
theorem ml_X11_43 : ML RX11 43 yX10_init := Or.inr ⟨_, tb_210⟩
set_option maxRecDepth 20000 in
theorem tb_309 : Cond.fieldLink RX11 44 "Shiftgate" "ways" "LShiftgate$Ways;" ∈ TBg := tbg (i := 309) (by rfl) rfl
theorem fl_X11_44 : FL RX11 44 "Shiftgate" "ways" "LShiftgate$Ways;" := Or.inl tb_309
theorem tb_221 : Cond.classLink RX11 48 RX0 ∈ TBg := tbg (i := 221) (by rfl) rfl
theorem tb_222 : Cond.instantiable RX0 8 ∈ TBg := tbg (i := 222) (by rfl) rfl
theorem tb_105 : Cond.initialized RX0 ∈ TBg := tbg (i := 105) (by rfl) rfl
set_option maxRecDepth 20000 in
theorem tin_X0 : ∀ w ∈ u_ws RX0 TX0 8, w ∈ TBg := by decide +kernel
theorem tb_226 : Cond.methodLink RX0 3 objectInit ∈ TBg := tbg (i := 226) (by rfl) rfl
theorem tb_227 : Cond.classLink RX0 9 RX8 ∈ TBg := tbg (i := 227) (by rfl) rfl
theorem tb_228 : Cond.instantiable RX8 3 ∈ TBg := tbg (i := 228) (by rfl) rfl
theorem tb_106 : Cond.initialized RX8 ∈ TBg := tbg (i := 106) (by rfl) rfl
set_option maxRecDepth 20000 in
theorem tin_X8 : ∀ w ∈ u_ws RX8 TX8 3, w ∈ TBg := by decide +kernel
theorem tb_232 : Cond.methodLink RX8 3 objectInit ∈ TBg := tbg (i := 232) (by rfl) rfl
theorem tb_246 : Cond.arrayClass .long ∈ TBg := tbg (i := 246) (by rfl) rfl
theorem tb_238 : Cond.fieldLink RX8 11 "Shiftgate$Table" "numbers" "[J" ∈ TBg := tbg (i := 238) (by rfl) rfl
theorem fl_X8_11 : FL RX8 11 "Shiftgate$Table" "numbers" "[J" := Or.inl tb_238
theorem tb_231 : Cond.code yX8_init cX8_init 1 none ∈ TBg := tbg (i := 231) (by rfl) rfl
theorem tb_230 : Cond.instanceMethod yX8_init ∈ TBg := tbg (i := 230) (by rfl) rfl
theorem cal_X8_init : CalI yX8_init (.code yX8_init cX8_init 1 none) cX8_init 1 0 := ⟨rfl, tb_231, tb_106, tb_230, rfl, by decide +kernel, by decide +kernel, by decide +kernel⟩
theorem tb_229 : Cond.methodLinkNest RX0 11 yX8_init "Shiftgate" ∈ TBg := tbg (i := 229) (by rfl) rfl
theorem ml_X0_11 : ML RX0 11 yX8_init := Or.inr ⟨_, tb_229⟩
theorem tb_247 : Cond.fieldLink RX0 12 "Shiftgate$Algebra" "first" "LShiftgate$Table;" ∈ TBg := tbg (i := 247) (by rfl) rfl
theorem fl_X0_12 : FL RX0 12 "Shiftgate$Algebra" "first" "LShiftgate$Table;" := Or.inl tb_247
theorem tb_248 : Cond.fieldLink RX0 18 "Shiftgate$Algebra" "second" "LShiftgate$Table;" ∈ TBg := tbg (i := 248) (by rfl) rfl
theorem fl_X0_18 : FL RX0 18 "Shiftgate$Algebra" "second" "LShiftgate$Table;" := Or.inl tb_248
theorem tb_249 : Cond.fieldLink RX0 21 "Shiftgate$Algebra" "third" "LShiftgate$Table;" ∈ TBg := tbg (i := 249) (by rfl) rfl
theorem fl_X0_21 : FL RX0 21 "Shiftgate$Algebra" "third" "LShiftgate$Table;" := Or.inl tb_249
theorem tb_250 : Cond.fieldLink RX0 24 "Shiftgate$Algebra" "coefficients" "[J" ∈ TBg := tbg (i := 250) (by rfl) rfl
theorem fl_X0_24 : FL RX0 24 "Shiftgate$Algebra" "coefficients" "[J" := Or.inl tb_250
theorem tb_251 : Cond.fieldLink RX0 28 "Shiftgate$Algebra" "minors" "[J" ∈ TBg := tbg (i := 251) (by rfl) rfl
theorem fl_X0_28 : FL RX0 28 "Shiftgate$Algebra" "minors" "[J" := Or.inl tb_251
theorem tb_252 : Cond.fieldLink RX0 31 "Shiftgate$Algebra" "divisors" "[J" ∈ TBg := tbg (i := 252) (by rfl) rfl
theorem fl_X0_31 : FL RX0 31 "Shiftgate$Algebra" "divisors" "[J" := Or.inl tb_252
theorem tb_253 : Cond.fieldLink RX0 34 "Shiftgate$Algebra" "counts" "[J" ∈ TBg := tbg (i := 253) (by rfl) rfl
theorem fl_X0_34 : FL RX0 34 "Shiftgate$Algebra" "counts" "[J" := Or.inl tb_253
theorem tb_254 : Cond.fieldLink RX0 37 "Shiftgate$Algebra" "later" "[J" ∈ TBg := tbg (i := 254) (by rfl) rfl
theorem fl_X0_37 : FL RX0 37 "Shiftgate$Algebra" "later" "[J" := Or.inl tb_254
theorem tb_225 : Cond.code yX0_init cX0_init 1 none ∈ TBg := tbg (i := 225) (by rfl) rfl
theorem tb_224 : Cond.instanceMethod yX0_init ∈ TBg := tbg (i := 224) (by rfl) rfl
theorem cal_X0_init : CalI yX0_init (.code yX0_init cX0_init 1 none) cX0_init 1 0 := ⟨rfl, tb_225, tb_105, tb_224, rfl, by decide +kernel, by decide +kernel, by decide +kernel⟩
theorem tb_223 : Cond.methodLinkNest RX11 50 yX0_init "Shiftgate" ∈ TBg := tbg (i := 223) (by rfl) rfl
theorem ml_X11_50 : ML RX11 50 yX0_init := Or.inr ⟨_, tb_223⟩
set_option maxRecDepth 20000 in
theorem tb_310 : Cond.fieldLink RX11 51 "Shiftgate" "algebra" "LShiftgate$Algebra;" ∈ TBg := tbg (i := 310) (by rfl) rfl
theorem fl_X11_51 : FL RX11 51 "Shiftgate" "algebra" "LShiftgate$Algebra;" := Or.inl tb_310
theorem tb_272 : Cond.classLink RX11 55 RX2 ∈ TBg := tbg (i := 272) (by rfl) rfl
theorem tb_273 : Cond.instantiable RX2 1 ∈ TBg := tbg (i := 273) (by rfl) rfl
theorem tb_107 : Cond.initialized RX2 ∈ TBg := tbg (i := 107) (by rfl) rfl
set_option maxRecDepth 20000 in
theorem tin_X2 : ∀ w ∈ u_ws RX2 TX2 1, w ∈ TBg := by decide +kernel
theorem tb_277 : Cond.methodLink RX2 1 objectInit ∈ TBg := tbg (i := 277) (by rfl) rfl
theorem tb_278 : Cond.fieldLink RX2 9 "Shiftgate$Cells" "marks" "[I" ∈ TBg := tbg (i := 278) (by rfl) rfl
theorem fl_X2_9 : FL RX2 9 "Shiftgate$Cells" "marks" "[I" := Or.inl tb_278
theorem tb_276 : Cond.code yX2_init cX2_init 1 none ∈ TBg := tbg (i := 276) (by rfl) rfl
theorem tb_275 : Cond.instanceMethod yX2_init ∈ TBg := tbg (i := 275) (by rfl) rfl
theorem cal_X2_init : CalI yX2_init (.code yX2_init cX2_init 1 none) cX2_init 1 0 := ⟨rfl, tb_276, tb_107, tb_275, rfl, by decide +kernel, by decide +kernel, by decide +kernel⟩
theorem tb_274 : Cond.methodLinkNest RX11 57 yX2_init "Shiftgate" ∈ TBg := tbg (i := 274) (by rfl) rfl
theorem ml_X11_57 : ML RX11 57 yX2_init := Or.inr ⟨_, tb_274⟩
set_option maxRecDepth 20000 in
theorem tb_311 : Cond.fieldLink RX11 58 "Shiftgate" "cells" "LShiftgate$Cells;" ∈ TBg := tbg (i := 311) (by rfl) rfl
theorem fl_X11_58 : FL RX11 58 "Shiftgate" "cells" "LShiftgate$Cells;" := Or.inl tb_311
theorem tb_282 : Cond.classLink RX11 62 RX7 ∈ TBg := tbg (i := 282) (by rfl) rfl
theorem tb_283 : Cond.instantiable RX7 4 ∈ TBg := tbg (i := 283) (by rfl) rfl
theorem tb_108 : Cond.initialized RX7 ∈ TBg := tbg (i := 108) (by rfl) rfl
set_option maxRecDepth 20000 in
theorem tin_X7 : ∀ w ∈ u_ws RX7 TX7 4, w ∈ TBg := by decide +kernel
theorem tb_287 : Cond.methodLink RX7 3 objectInit ∈ TBg := tbg (i := 287) (by rfl) rfl
theorem tb_288 : Cond.fieldLink RX7 9 "Shiftgate$Replacer" "lengths" "[I" ∈ TBg := tbg (i := 288) (by rfl) rfl
theorem fl_X7_9 : FL RX7 9 "Shiftgate$Replacer" "lengths" "[I" := Or.inl tb_288
theorem tb_289 : Cond.fieldLink RX7 15 "Shiftgate$Replacer" "letters" "[I" ∈ TBg := tbg (i := 289) (by rfl) rfl
theorem fl_X7_15 : FL RX7 15 "Shiftgate$Replacer" "letters" "[I" := Or.inl tb_289
theorem tb_290 : Cond.fieldLink RX7 18 "Shiftgate$Replacer" "row" "[I" ∈ TBg := tbg (i := 290) (by rfl) rfl
theorem fl_X7_18 : FL RX7 18 "Shiftgate$Replacer" "row" "[I" := Or.inl tb_290
theorem tb_291 : Cond.fieldLink RX7 21 "Shiftgate$Replacer" "spare" "[I" ∈ TBg := tbg (i := 291) (by rfl) rfl
theorem fl_X7_21 : FL RX7 21 "Shiftgate$Replacer" "spare" "[I" := Or.inl tb_291
theorem tb_286 : Cond.code yX7_init cX7_init 3 none ∈ TBg := tbg (i := 286) (by rfl) rfl
theorem tb_285 : Cond.instanceMethod yX7_init ∈ TBg := tbg (i := 285) (by rfl) rfl
theorem cal_X7_init : CalI yX7_init (.code yX7_init cX7_init 3 none) cX7_init 3 0 := ⟨rfl, tb_286, tb_108, tb_285, rfl, by decide +kernel, by decide +kernel, by decide +kernel⟩
theorem tb_284 : Cond.methodLinkNest RX11 64 yX7_init "Shiftgate" ∈ TBg := tbg (i := 284) (by rfl) rfl
theorem ml_X11_64 : ML RX11 64 yX7_init := Or.inr ⟨_, tb_284⟩
set_option maxRecDepth 20000 in
theorem tb_312 : Cond.fieldLink RX11 65 "Shiftgate" "replacer" "LShiftgate$Replacer;" ∈ TBg := tbg (i := 312) (by rfl) rfl
theorem fl_X11_65 : FL RX11 65 "Shiftgate" "replacer" "LShiftgate$Replacer;" := Or.inl tb_312
set_option maxRecDepth 20000 in
theorem tb_355 : Cond.code yX9_letterOf cX9_letterOf 1 (some (.int)) ∈ TBg := tbg (i := 355) (by rfl) rfl
set_option maxRecDepth 20000 in
theorem tb_354 : Cond.static yX9_letterOf ∈ TBg := tbg (i := 354) (by rfl) rfl
theorem cal_X9_letterOf : CalS yX9_letterOf (.code yX9_letterOf cX9_letterOf 1 (some (.int))) cX9_letterOf 1 (some (.int)) 1 := ⟨rfl, tb_355, tb_102, tb_354, by decide +kernel, by decide +kernel, by decide +kernel⟩
set_option maxRecDepth 20000 in
theorem tb_353 : Cond.methodLink RX9 15 yX9_letterOf ∈ TBg := tbg (i := 353) (by rfl) rfl
theorem ml_X9_15 : ML RX9 15 yX9_letterOf := Or.inl tb_353
set_option maxRecDepth 20000 in
theorem tb_352 : Cond.code yX9_isSign cX9_isSign 1 (some (.boolean)) ∈ TBg := tbg (i := 352) (by rfl) rfl
set_option maxRecDepth 20000 in
theorem tb_351 : Cond.static yX9_isSign ∈ TBg := tbg (i := 351) (by rfl) rfl
theorem cal_X9_isSign : CalS yX9_isSign (.code yX9_isSign cX9_isSign 1 (some (.boolean))) cX9_isSign 1 (some (.boolean)) 1 := ⟨rfl, tb_352, tb_102, tb_351, by decide +kernel, by decide +kernel, by decide +kernel⟩
set_option maxRecDepth 20000 in
theorem tb_488 : Cond.methodLinkNest RX11 69 yX9_isSign "Shiftgate" ∈ TBg := tbg (i := 488) (by rfl) rfl
theorem ml_X11_69 : ML RX11 69 yX9_isSign := Or.inr ⟨_, tb_488⟩
theorem tb_151 : Cond.fieldLinkNest RX11 80 "Shiftgate$Tape" "size" "I" "Shiftgate" ∈ TBg := tbg (i := 151) (by rfl) rfl
theorem fl_X11_80 : FL RX11 80 "Shiftgate$Tape" "size" "I" := Or.inr ⟨_, tb_151⟩
theorem tb_154 : Cond.fieldLink RX9 19 "Shiftgate$Tape" "size" "I" ∈ TBg := tbg (i := 154) (by rfl) rfl
theorem fl_X9_19 : FL RX9 19 "Shiftgate$Tape" "size" "I" := Or.inl tb_154
set_option maxRecDepth 20000 in
theorem tb_524 : Cond.code yX9_append cX9_append 2 none ∈ TBg := tbg (i := 524) (by rfl) rfl
set_option maxRecDepth 20000 in
theorem tb_523 : Cond.instanceMethod yX9_append ∈ TBg := tbg (i := 523) (by rfl) rfl
theorem tb_7 : Cond.selects RX9 yX9_append yX9_append ∈ TBg := tbg (i := 7) (by rfl) rfl
theorem cal_X9_append : CalV RX9 yX9_append (.code yX9_append cX9_append 2 none) cX9_append 2 none 1 := ⟨rfl, tb_524, tb_102, tb_523, tb_7, by decide +kernel, by decide +kernel, by decide +kernel⟩
set_option maxRecDepth 20000 in
theorem tb_521 : Cond.methodLinkNest RX11 89 yX9_append "Shiftgate" ∈ TBg := tbg (i := 521) (by rfl) rfl
theorem ml_X11_89 : ML RX11 89 yX9_append := Or.inr ⟨_, tb_521⟩
set_option maxRecDepth 20000 in
theorem tb_505 : Cond.classLink RX11 84 "java/lang/IllegalStateException" ∈ TBg := tbg (i := 505) (by rfl) rfl
theorem tb_128 : Cond.initialized "java/lang/IllegalStateException" ∈ TBg := tbg (i := 128) (by rfl) rfl
set_option maxRecDepth 20000 in
theorem th_X11_84_88 : ThrW RX11 84 88 "java/lang/IllegalStateException" ["java/lang/RuntimeException", "java/lang/Exception"] := ⟨by decide +kernel, by decide +kernel, tb_505, tb_128, by decide +kernel, by decide +kernel⟩
set_option maxRecDepth 20000 in
theorem tb_489 : Cond.classLink RX11 73 "java/lang/IllegalArgumentException" ∈ TBg := tbg (i := 489) (by rfl) rfl
theorem tb_122 : Cond.initialized "java/lang/IllegalArgumentException" ∈ TBg := tbg (i := 122) (by rfl) rfl
set_option maxRecDepth 20000 in
theorem th_X11_73_77 : ThrW RX11 73 77 "java/lang/IllegalArgumentException" ["java/lang/RuntimeException", "java/lang/Exception"] := ⟨by decide +kernel, by decide +kernel, tb_489, tb_122, by decide +kernel, by decide +kernel⟩
set_option maxRecDepth 20000 in
theorem tb_660 : Cond.code yX9_empty cX9_empty 1 none ∈ TBg := tbg (i := 660) (by rfl) rfl
set_option maxRecDepth 20000 in
theorem tb_659 : Cond.instanceMethod yX9_empty ∈ TBg := tbg (i := 659) (by rfl) rfl
theorem tb_21 : Cond.selects RX9 yX9_empty yX9_empty ∈ TBg := tbg (i := 21) (by rfl) rfl
theorem cal_X9_empty : CalV RX9 yX9_empty (.code yX9_empty cX9_empty 1 none) cX9_empty 1 none 0 := ⟨rfl, tb_660, tb_102, tb_659, tb_21, by decide +kernel, by decide +kernel, by decide +kernel⟩
set_option maxRecDepth 20000 in
theorem tb_657 : Cond.methodLinkNest RX11 93 yX9_empty "Shiftgate" ∈ TBg := tbg (i := 657) (by rfl) rfl
theorem ml_X11_93 : ML RX11 93 yX9_empty := Or.inr ⟨_, tb_657⟩
set_option maxRecDepth 20000 in
theorem tb_531 : Cond.code yX11_demandRange cX11_demandRange 3 none ∈ TBg := tbg (i := 531) (by rfl) rfl
theorem tb_101 : Cond.initialized yX11_demandRange.cls ∈ TBg := tbg (i := 101) (by rfl) rfl
set_option maxRecDepth 20000 in
theorem tb_530 : Cond.static yX11_demandRange ∈ TBg := tbg (i := 530) (by rfl) rfl
theorem cal_X11_demandRange : CalS yX11_demandRange (.code yX11_demandRange cX11_demandRange 3 none) cX11_demandRange 3 none 3 := ⟨rfl, tb_531, tb_101, tb_530, by decide +kernel, by decide +kernel, by decide +kernel⟩
set_option maxRecDepth 20000 in
theorem tb_529 : Cond.methodLink RX11 96 yX11_demandRange ∈ TBg := tbg (i := 529) (by rfl) rfl
theorem ml_X11_96 : ML RX11 96 yX11_demandRange := Or.inl tb_529
set_option maxRecDepth 20000 in
theorem tb_303 : Cond.fieldLink RX11 397 "Shiftgate" "shiftCount" "I" ∈ TBg := tbg (i := 303) (by rfl) rfl
theorem fl_X11_397 : FL RX11 397 "Shiftgate" "shiftCount" "I" := Or.inl tb_303
set_option maxRecDepth 20000 in
theorem tb_536 : Cond.code yX11_demandRoomForShift cX11_demandRoomForShift 1 none ∈ TBg := tbg (i := 536) (by rfl) rfl
set_option maxRecDepth 20000 in
theorem tb_535 : Cond.instanceMethod yX11_demandRoomForShift ∈ TBg := tbg (i := 535) (by rfl) rfl
theorem tb_8 : Cond.selects RX11 yX11_demandRoomForShift yX11_demandRoomForShift ∈ TBg := tbg (i := 8) (by rfl) rfl
theorem cal_X11_demandRoomForShift : CalV RX11 yX11_demandRoomForShift (.code yX11_demandRoomForShift cX11_demandRoomForShift 1 none) cX11_demandRoomForShift 1 none 0 := ⟨rfl, tb_536, tb_101, tb_535, tb_8, by decide +kernel, by decide +kernel, by decide +kernel⟩
set_option maxRecDepth 20000 in
theorem tb_533 : Cond.methodLink RX11 100 yX11_demandRoomForShift ∈ TBg := tbg (i := 533) (by rfl) rfl
theorem ml_X11_100 : ML RX11 100 yX11_demandRoomForShift := Or.inl tb_533
set_option maxRecDepth 20000 in
theorem tb_359 : Cond.instantiable RX3 3 ∈ TBg := tbg (i := 359) (by rfl) rfl
theorem tb_129 : Cond.initialized RX3 ∈ TBg := tbg (i := 129) (by rfl) rfl
set_option maxRecDepth 20000 in
theorem tin_X3 : ∀ w ∈ u_ws RX3 TX3 3, w ∈ TBg := by decide +kernel
set_option maxRecDepth 20000 in
theorem tb_541 : Cond.methodLink RX3 3 objectInit ∈ TBg := tbg (i := 541) (by rfl) rfl
set_option maxRecDepth 20000 in
theorem tb_542 : Cond.fieldLink RX3 9 "Shiftgate$Graph" "states" "I" ∈ TBg := tbg (i := 542) (by rfl) rfl
theorem fl_X3_9 : FL RX3 9 "Shiftgate$Graph" "states" "I" := Or.inl tb_542
set_option maxRecDepth 20000 in
theorem tb_546 : Cond.fieldLink RX3 15 "Shiftgate$Graph" "letters" "I" ∈ TBg := tbg (i := 546) (by rfl) rfl
theorem fl_X3_15 : FL RX3 15 "Shiftgate$Graph" "letters" "I" := Or.inl tb_546
set_option maxRecDepth 20000 in
theorem tb_551 : Cond.fieldLink RX3 18 "Shiftgate$Graph" "edges" "[I" ∈ TBg := tbg (i := 551) (by rfl) rfl
theorem fl_X3_18 : FL RX3 18 "Shiftgate$Graph" "edges" "[I" := Or.inl tb_551
set_option maxRecDepth 20000 in
theorem tb_540 : Cond.code yX3_init cX3_init 3 none ∈ TBg := tbg (i := 540) (by rfl) rfl
set_option maxRecDepth 20000 in
theorem tb_539 : Cond.instanceMethod yX3_init ∈ TBg := tbg (i := 539) (by rfl) rfl
theorem cal_X3_init : CalI yX3_init (.code yX3_init cX3_init 3 none) cX3_init 3 2 := ⟨rfl, tb_540, tb_129, tb_539, rfl, by decide +kernel, by decide +kernel, by decide +kernel⟩
set_option maxRecDepth 20000 in
theorem tb_538 : Cond.methodLinkNest RX11 103 yX3_init "Shiftgate" ∈ TBg := tbg (i := 538) (by rfl) rfl
theorem ml_X11_103 : ML RX11 103 yX3_init := Or.inr ⟨_, tb_538⟩
set_option maxRecDepth 20000 in
theorem tb_562 : Cond.code yX11_addShift cX11_addShift 3 (some (.int)) ∈ TBg := tbg (i := 562) (by rfl) rfl
set_option maxRecDepth 20000 in
theorem tb_561 : Cond.instanceMethod yX11_addShift ∈ TBg := tbg (i := 561) (by rfl) rfl
theorem tb_9 : Cond.selects RX11 yX11_addShift yX11_addShift ∈ TBg := tbg (i := 9) (by rfl) rfl
theorem cal_X11_addShift : CalV RX11 yX11_addShift (.code yX11_addShift cX11_addShift 3 (some (.int))) cX11_addShift 3 (some (.int)) 1 := ⟨rfl, tb_562, tb_101, tb_561, tb_9, by decide +kernel, by decide +kernel, by decide +kernel⟩
set_option maxRecDepth 20000 in
theorem tb_559 : Cond.methodLink RX11 106 yX11_addShift ∈ TBg := tbg (i := 559) (by rfl) rfl
theorem ml_X11_106 : ML RX11 106 yX11_addShift := Or.inl tb_559
set_option maxRecDepth 20000 in
theorem tb_574 : Cond.code yX11_shiftOrNull cX11_shiftOrNull 2 (some (.object "Shiftgate$Graph")) ∈ TBg := tbg (i := 574) (by rfl) rfl
set_option maxRecDepth 20000 in
theorem tb_573 : Cond.instanceMethod yX11_shiftOrNull ∈ TBg := tbg (i := 573) (by rfl) rfl
theorem tb_11 : Cond.selects RX11 yX11_shiftOrNull yX11_shiftOrNull ∈ TBg := tbg (i := 11) (by rfl) rfl
theorem cal_X11_shiftOrNull : CalV RX11 yX11_shiftOrNull (.code yX11_shiftOrNull cX11_shiftOrNull 2 (some (.object "Shiftgate$Graph"))) cX11_shiftOrNull 2 (some (.object "Shiftgate$Graph")) 1 := ⟨rfl, tb_574, tb_101, tb_573, tb_11, by decide +kernel, by decide +kernel, by decide +kernel⟩
set_option maxRecDepth 20000 in
theorem tb_571 : Cond.methodLink RX11 400 yX11_shiftOrNull ∈ TBg := tbg (i := 571) (by rfl) rfl
theorem ml_X11_400 : ML RX11 400 yX11_shiftOrNull := Or.inl tb_571
set_option maxRecDepth 20000 in
theorem tb_575 : Cond.classLink RX11 424 "java/lang/IndexOutOfBoundsException" ∈ TBg := tbg (i := 575) (by rfl) rfl
theorem tb_125 : Cond.initialized "java/lang/IndexOutOfBoundsException" ∈ TBg := tbg (i := 125) (by rfl) rfl
set_option maxRecDepth 20000 in
theorem th_X11_424_428 : ThrW RX11 424 428 "java/lang/IndexOutOfBoundsException" ["java/lang/RuntimeException", "java/lang/Exception"] := ⟨by decide +kernel, by decide +kernel, tb_575, tb_125, by decide +kernel, by decide +kernel⟩
set_option maxRecDepth 20000 in
theorem tb_570 : Cond.code yX11_shiftAt cX11_shiftAt 3 (some (.object "Shiftgate$Graph")) ∈ TBg := tbg (i := 570) (by rfl) rfl
set_option maxRecDepth 20000 in
theorem tb_569 : Cond.instanceMethod yX11_shiftAt ∈ TBg := tbg (i := 569) (by rfl) rfl
theorem tb_10 : Cond.selects RX11 yX11_shiftAt yX11_shiftAt ∈ TBg := tbg (i := 10) (by rfl) rfl
theorem cal_X11_shiftAt : CalV RX11 yX11_shiftAt (.code yX11_shiftAt cX11_shiftAt 3 (some (.object "Shiftgate$Graph"))) cX11_shiftAt 3 (some (.object "Shiftgate$Graph")) 1 := ⟨rfl, tb_570, tb_101, tb_569, tb_10, by decide +kernel, by decide +kernel, by decide +kernel⟩
set_option maxRecDepth 20000 in
theorem tb_567 : Cond.methodLink RX11 110 yX11_shiftAt ∈ TBg := tbg (i := 567) (by rfl) rfl
theorem ml_X11_110 : ML RX11 110 yX11_shiftAt := Or.inl tb_567
set_option maxRecDepth 20000 in
theorem tb_588 : Cond.methodLinkNest RX11 114 yX9_letterOf "Shiftgate" ∈ TBg := tbg (i := 588) (by rfl) rfl
theorem ml_X11_114 : ML RX11 114 yX9_letterOf := Or.inr ⟨_, tb_588⟩
set_option maxRecDepth 20000 in
theorem tb_592 : Cond.code yX3_hasLetter cX3_hasLetter 2 (some (.boolean)) ∈ TBg := tbg (i := 592) (by rfl) rfl
set_option maxRecDepth 20000 in
theorem tb_591 : Cond.instanceMethod yX3_hasLetter ∈ TBg := tbg (i := 591) (by rfl) rfl
theorem tb_12 : Cond.selects RX3 yX3_hasLetter yX3_hasLetter ∈ TBg := tbg (i := 12) (by rfl) rfl
theorem cal_X3_hasLetter : CalV RX3 yX3_hasLetter (.code yX3_hasLetter cX3_hasLetter 2 (some (.boolean))) cX3_hasLetter 2 (some (.boolean)) 1 := ⟨rfl, tb_592, tb_129, tb_591, tb_12, by decide +kernel, by decide +kernel, by decide +kernel⟩
set_option maxRecDepth 20000 in
theorem tb_589 : Cond.methodLinkNest RX11 118 yX3_hasLetter "Shiftgate" ∈ TBg := tbg (i := 589) (by rfl) rfl
theorem ml_X11_118 : ML RX11 118 yX3_hasLetter := Or.inr ⟨_, tb_589⟩
set_option maxRecDepth 20000 in
theorem tb_596 : Cond.code yX3_hasState cX3_hasState 2 (some (.boolean)) ∈ TBg := tbg (i := 596) (by rfl) rfl
set_option maxRecDepth 20000 in
theorem tb_595 : Cond.instanceMethod yX3_hasState ∈ TBg := tbg (i := 595) (by rfl) rfl
theorem tb_13 : Cond.selects RX3 yX3_hasState yX3_hasState ∈ TBg := tbg (i := 13) (by rfl) rfl
theorem cal_X3_hasState : CalV RX3 yX3_hasState (.code yX3_hasState cX3_hasState 2 (some (.boolean))) cX3_hasState 2 (some (.boolean)) 1 := ⟨rfl, tb_596, tb_129, tb_595, tb_13, by decide +kernel, by decide +kernel, by decide +kernel⟩
set_option maxRecDepth 20000 in
theorem tb_593 : Cond.methodLinkNest RX11 122 yX3_hasState "Shiftgate" ∈ TBg := tbg (i := 593) (by rfl) rfl
theorem ml_X11_122 : ML RX11 122 yX3_hasState := Or.inr ⟨_, tb_593⟩
set_option maxRecDepth 20000 in
theorem tb_601 : Cond.code yX3_targets cX3_targets 5 (some (.int)) ∈ TBg := tbg (i := 601) (by rfl) rfl
set_option maxRecDepth 20000 in
theorem tb_600 : Cond.instanceMethod yX3_targets ∈ TBg := tbg (i := 600) (by rfl) rfl
theorem tb_14 : Cond.selects RX3 yX3_targets yX3_targets ∈ TBg := tbg (i := 14) (by rfl) rfl
theorem cal_X3_targets : CalV RX3 yX3_targets (.code yX3_targets cX3_targets 5 (some (.int))) cX3_targets 5 (some (.int)) 2 := ⟨rfl, tb_601, tb_129, tb_600, tb_14, by decide +kernel, by decide +kernel, by decide +kernel⟩
set_option maxRecDepth 20000 in
theorem tb_598 : Cond.methodLinkNest RX11 127 yX3_targets "Shiftgate" ∈ TBg := tbg (i := 598) (by rfl) rfl
theorem ml_X11_127 : ML RX11 127 yX3_targets := Or.inr ⟨_, tb_598⟩
set_option maxRecDepth 20000 in
theorem tb_604 : Cond.code yX11_hasBit cX11_hasBit 2 (some (.boolean)) ∈ TBg := tbg (i := 604) (by rfl) rfl
set_option maxRecDepth 20000 in
theorem tb_603 : Cond.static yX11_hasBit ∈ TBg := tbg (i := 603) (by rfl) rfl
theorem cal_X11_hasBit : CalS yX11_hasBit (.code yX11_hasBit cX11_hasBit 2 (some (.boolean))) cX11_hasBit 2 (some (.boolean)) 2 := ⟨rfl, tb_604, tb_101, tb_603, by decide +kernel, by decide +kernel, by decide +kernel⟩
set_option maxRecDepth 20000 in
theorem tb_602 : Cond.methodLink RX11 131 yX11_hasBit ∈ TBg := tbg (i := 602) (by rfl) rfl
theorem ml_X11_131 : ML RX11 131 yX11_hasBit := Or.inl tb_602
set_option maxRecDepth 20000 in
theorem tb_609 : Cond.methodLink RX3 22 yX3_hasState ∈ TBg := tbg (i := 609) (by rfl) rfl
theorem ml_X3_22 : ML RX3 22 yX3_hasState := Or.inl tb_609
set_option maxRecDepth 20000 in
theorem tb_610 : Cond.methodLink RX3 26 yX3_hasLetter ∈ TBg := tbg (i := 610) (by rfl) rfl
theorem ml_X3_26 : ML RX3 26 yX3_hasLetter := Or.inl tb_610
set_option maxRecDepth 20000 in
theorem tb_608 : Cond.code yX3_tell cX3_tell 8 none ∈ TBg := tbg (i := 608) (by rfl) rfl
set_option maxRecDepth 20000 in
theorem tb_607 : Cond.instanceMethod yX3_tell ∈ TBg := tbg (i := 607) (by rfl) rfl
theorem tb_15 : Cond.selects RX3 yX3_tell yX3_tell ∈ TBg := tbg (i := 15) (by rfl) rfl
theorem cal_X3_tell : CalV RX3 yX3_tell (.code yX3_tell cX3_tell 8 none) cX3_tell 8 none 4 := ⟨rfl, tb_608, tb_129, tb_607, tb_15, by decide +kernel, by decide +kernel, by decide +kernel⟩
set_option maxRecDepth 20000 in
theorem tb_605 : Cond.methodLinkNest RX11 135 yX3_tell "Shiftgate" ∈ TBg := tbg (i := 605) (by rfl) rfl
theorem ml_X11_135 : ML RX11 135 yX3_tell := Or.inr ⟨_, tb_605⟩
set_option maxRecDepth 20000 in
theorem tb_349 : Cond.code yX9_at cX9_at 2 (some (.char)) ∈ TBg := tbg (i := 349) (by rfl) rfl
set_option maxRecDepth 20000 in
theorem tb_348 : Cond.instanceMethod yX9_at ∈ TBg := tbg (i := 348) (by rfl) rfl
theorem tb_1 : Cond.selects RX9 yX9_at yX9_at ∈ TBg := tbg (i := 1) (by rfl) rfl
theorem cal_X9_at : CalV RX9 yX9_at (.code yX9_at cX9_at 2 (some (.char))) cX9_at 2 (some (.char)) 1 := ⟨rfl, tb_349, tb_102, tb_348, tb_1, by decide +kernel, by decide +kernel, by decide +kernel⟩
set_option maxRecDepth 20000 in
theorem tb_346 : Cond.methodLink RX9 23 yX9_at ∈ TBg := tbg (i := 346) (by rfl) rfl
theorem ml_X9_23 : ML RX9 23 yX9_at := Or.inl tb_346
set_option maxRecDepth 20000 in
theorem tb_622 : Cond.code yX9_letterAt cX9_letterAt 2 (some (.int)) ∈ TBg := tbg (i := 622) (by rfl) rfl
set_option maxRecDepth 20000 in
theorem tb_621 : Cond.instanceMethod yX9_letterAt ∈ TBg := tbg (i := 621) (by rfl) rfl
theorem tb_17 : Cond.selects RX9 yX9_letterAt yX9_letterAt ∈ TBg := tbg (i := 17) (by rfl) rfl
theorem cal_X9_letterAt : CalV RX9 yX9_letterAt (.code yX9_letterAt cX9_letterAt 2 (some (.int))) cX9_letterAt 2 (some (.int)) 1 := ⟨rfl, tb_622, tb_102, tb_621, tb_17, by decide +kernel, by decide +kernel, by decide +kernel⟩
set_option maxRecDepth 20000 in
theorem tb_619 : Cond.methodLink RX9 31 yX9_letterAt ∈ TBg := tbg (i := 619) (by rfl) rfl
theorem ml_X9_31 : ML RX9 31 yX9_letterAt := Or.inl tb_619
set_option maxRecDepth 20000 in
theorem tb_626 : Cond.code yX9_endsWord cX9_endsWord 2 (some (.boolean)) ∈ TBg := tbg (i := 626) (by rfl) rfl
set_option maxRecDepth 20000 in
theorem tb_625 : Cond.instanceMethod yX9_endsWord ∈ TBg := tbg (i := 625) (by rfl) rfl
theorem tb_18 : Cond.selects RX9 yX9_endsWord yX9_endsWord ∈ TBg := tbg (i := 18) (by rfl) rfl
theorem cal_X9_endsWord : CalV RX9 yX9_endsWord (.code yX9_endsWord cX9_endsWord 2 (some (.boolean))) cX9_endsWord 2 (some (.boolean)) 1 := ⟨rfl, tb_626, tb_102, tb_625, tb_18, by decide +kernel, by decide +kernel, by decide +kernel⟩
set_option maxRecDepth 20000 in
theorem tb_623 : Cond.methodLink RX9 35 yX9_endsWord ∈ TBg := tbg (i := 623) (by rfl) rfl
theorem ml_X9_35 : ML RX9 35 yX9_endsWord := Or.inl tb_623
set_option maxRecDepth 20000 in
theorem tb_618 : Cond.code yX9_isForbidden cX9_isForbidden 5 (some (.boolean)) ∈ TBg := tbg (i := 618) (by rfl) rfl
set_option maxRecDepth 20000 in
theorem tb_617 : Cond.instanceMethod yX9_isForbidden ∈ TBg := tbg (i := 617) (by rfl) rfl
theorem tb_16 : Cond.selects RX9 yX9_isForbidden yX9_isForbidden ∈ TBg := tbg (i := 16) (by rfl) rfl
theorem cal_X9_isForbidden : CalV RX9 yX9_isForbidden (.code yX9_isForbidden cX9_isForbidden 5 (some (.boolean))) cX9_isForbidden 5 (some (.boolean)) 1 := ⟨rfl, tb_618, tb_102, tb_617, tb_16, by decide +kernel, by decide +kernel, by decide +kernel⟩
set_option maxRecDepth 20000 in
theorem tb_615 : Cond.methodLinkNest RX11 139 yX9_isForbidden "Shiftgate" ∈ TBg := tbg (i := 615) (by rfl) rfl
theorem ml_X11_139 : ML RX11 139 yX9_isForbidden := Or.inr ⟨_, tb_615⟩
set_option maxRecDepth 20000 in
theorem tb_646 : Cond.classLink RX5 9 RX3 ∈ TBg := tbg (i := 646) (by rfl) rfl
set_option maxRecDepth 20000 in
theorem tb_647 : Cond.methodLinkNest RX5 11 yX3_init "Shiftgate" ∈ TBg := tbg (i := 647) (by rfl) rfl
theorem ml_X5_11 : ML RX5 11 yX3_init := Or.inr ⟨_, tb_647⟩
set_option maxRecDepth 20000 in
theorem tb_655 : Cond.code yX9_standsIn cX9_standsIn 12 (some (.boolean)) ∈ TBg := tbg (i := 655) (by rfl) rfl
set_option maxRecDepth 20000 in
theorem tb_654 : Cond.instanceMethod yX9_standsIn ∈ TBg := tbg (i := 654) (by rfl) rfl
theorem tb_20 : Cond.selects RX9 yX9_standsIn yX9_standsIn ∈ TBg := tbg (i := 20) (by rfl) rfl
theorem cal_X9_standsIn : CalV RX9 yX9_standsIn (.code yX9_standsIn cX9_standsIn 12 (some (.boolean))) cX9_standsIn 12 (some (.boolean)) 5 := ⟨rfl, tb_655, tb_102, tb_654, tb_20, by decide +kernel, by decide +kernel, by decide +kernel⟩
set_option maxRecDepth 20000 in
theorem tb_652 : Cond.methodLink RX9 39 yX9_standsIn ∈ TBg := tbg (i := 652) (by rfl) rfl
theorem ml_X9_39 : ML RX9 39 yX9_standsIn := Or.inl tb_652
set_option maxRecDepth 20000 in
theorem tb_651 : Cond.code yX9_bars cX9_bars 6 (some (.boolean)) ∈ TBg := tbg (i := 651) (by rfl) rfl
set_option maxRecDepth 20000 in
theorem tb_650 : Cond.instanceMethod yX9_bars ∈ TBg := tbg (i := 650) (by rfl) rfl
theorem tb_19 : Cond.selects RX9 yX9_bars yX9_bars ∈ TBg := tbg (i := 19) (by rfl) rfl
theorem cal_X9_bars : CalV RX9 yX9_bars (.code yX9_bars cX9_bars 6 (some (.boolean))) cX9_bars 6 (some (.boolean)) 3 := ⟨rfl, tb_651, tb_102, tb_650, tb_19, by decide +kernel, by decide +kernel, by decide +kernel⟩
set_option maxRecDepth 20000 in
theorem tb_648 : Cond.methodLinkNest RX5 14 yX9_bars "Shiftgate" ∈ TBg := tbg (i := 648) (by rfl) rfl
theorem ml_X5_14 : ML RX5 14 yX9_bars := Or.inr ⟨_, tb_648⟩
set_option maxRecDepth 20000 in
theorem tb_656 : Cond.methodLinkNest RX5 20 yX3_tell "Shiftgate" ∈ TBg := tbg (i := 656) (by rfl) rfl
theorem ml_X5_20 : ML RX5 20 yX3_tell := Or.inr ⟨_, tb_656⟩
set_option maxRecDepth 20000 in
theorem tb_645 : Cond.code yX5_byForbidden cX5_byForbidden 6 (some (.object "Shiftgate$Graph")) ∈ TBg := tbg (i := 645) (by rfl) rfl
theorem tb_131 : Cond.initialized yX5_byForbidden.cls ∈ TBg := tbg (i := 131) (by rfl) rfl
set_option maxRecDepth 20000 in
theorem tb_644 : Cond.static yX5_byForbidden ∈ TBg := tbg (i := 644) (by rfl) rfl
theorem cal_X5_byForbidden : CalS yX5_byForbidden (.code yX5_byForbidden cX5_byForbidden 6 (some (.object "Shiftgate$Graph"))) cX5_byForbidden 6 (some (.object "Shiftgate$Graph")) 2 := ⟨rfl, tb_645, tb_131, tb_644, by decide +kernel, by decide +kernel, by decide +kernel⟩
set_option maxRecDepth 20000 in
theorem tb_643 : Cond.methodLinkNest RX11 147 yX5_byForbidden "Shiftgate" ∈ TBg := tbg (i := 643) (by rfl) rfl
theorem ml_X11_147 : ML RX11 147 yX5_byForbidden := Or.inr ⟨_, tb_643⟩
set_option maxRecDepth 20000 in
theorem tb_627 : Cond.classLink RX11 142 "java/lang/UnsupportedOperationException" ∈ TBg := tbg (i := 627) (by rfl) rfl
theorem tb_130 : Cond.initialized "java/lang/UnsupportedOperationException" ∈ TBg := tbg (i := 130) (by rfl) rfl
set_option maxRecDepth 20000 in
theorem th_X11_142_146 : ThrW RX11 142 146 "java/lang/UnsupportedOperationException" ["java/lang/RuntimeException", "java/lang/Exception"] := ⟨by decide +kernel, by decide +kernel, tb_627, tb_130, by decide +kernel, by decide +kernel⟩
set_option maxRecDepth 20000 in
theorem tb_668 : Cond.methodLinkNest RX5 26 yX11_hasBit "Shiftgate" ∈ TBg := tbg (i := 668) (by rfl) rfl
theorem ml_X5_26 : ML RX5 26 yX11_hasBit := Or.inr ⟨_, tb_668⟩
set_option maxRecDepth 20000 in
theorem tb_667 : Cond.code yX5_byGaps cX5_byGaps 4 (some (.object "Shiftgate$Graph")) ∈ TBg := tbg (i := 667) (by rfl) rfl
set_option maxRecDepth 20000 in
theorem tb_666 : Cond.static yX5_byGaps ∈ TBg := tbg (i := 666) (by rfl) rfl
theorem cal_X5_byGaps : CalS yX5_byGaps (.code yX5_byGaps cX5_byGaps 4 (some (.object "Shiftgate$Graph"))) cX5_byGaps 4 (some (.object "Shiftgate$Graph")) 1 := ⟨rfl, tb_667, tb_131, tb_666, by decide +kernel, by decide +kernel, by decide +kernel⟩
set_option maxRecDepth 20000 in
theorem tb_665 : Cond.methodLinkNest RX11 153 yX5_byGaps "Shiftgate" ∈ TBg := tbg (i := 665) (by rfl) rfl
theorem ml_X11_153 : ML RX11 153 yX5_byGaps := Or.inr ⟨_, tb_665⟩
set_option maxRecDepth 20000 in
theorem tb_681 : Cond.methodLinkNest RX3 39 yX11_hasBit "Shiftgate" ∈ TBg := tbg (i := 681) (by rfl) rfl
theorem ml_X3_39 : ML RX3 39 yX11_hasBit := Or.inr ⟨_, tb_681⟩
set_option maxRecDepth 20000 in
theorem tb_686 : Cond.methodLink RX3 35 yX3_targets ∈ TBg := tbg (i := 686) (by rfl) rfl
theorem ml_X3_35 : ML RX3 35 yX3_targets := Or.inl tb_686
set_option maxRecDepth 20000 in
theorem tb_685 : Cond.code yX3_allTargets cX3_allTargets 4 (some (.int)) ∈ TBg := tbg (i := 685) (by rfl) rfl
set_option maxRecDepth 20000 in
theorem tb_684 : Cond.instanceMethod yX3_allTargets ∈ TBg := tbg (i := 684) (by rfl) rfl
theorem tb_24 : Cond.selects RX3 yX3_allTargets yX3_allTargets ∈ TBg := tbg (i := 24) (by rfl) rfl
theorem cal_X3_allTargets : CalV RX3 yX3_allTargets (.code yX3_allTargets cX3_allTargets 4 (some (.int))) cX3_allTargets 4 (some (.int)) 1 := ⟨rfl, tb_685, tb_129, tb_684, tb_24, by decide +kernel, by decide +kernel, by decide +kernel⟩
set_option maxRecDepth 20000 in
theorem tb_682 : Cond.methodLink RX3 49 yX3_allTargets ∈ TBg := tbg (i := 682) (by rfl) rfl
theorem ml_X3_49 : ML RX3 49 yX3_allTargets := Or.inl tb_682
set_option maxRecDepth 20000 in
theorem tb_680 : Cond.code yX3_entered cX3_entered 4 (some (.int)) ∈ TBg := tbg (i := 680) (by rfl) rfl
set_option maxRecDepth 20000 in
theorem tb_679 : Cond.instanceMethod yX3_entered ∈ TBg := tbg (i := 679) (by rfl) rfl
theorem tb_23 : Cond.selects RX3 yX3_entered yX3_entered ∈ TBg := tbg (i := 23) (by rfl) rfl
theorem cal_X3_entered : CalV RX3 yX3_entered (.code yX3_entered cX3_entered 4 (some (.int))) cX3_entered 4 (some (.int)) 1 := ⟨rfl, tb_680, tb_129, tb_679, tb_23, by decide +kernel, by decide +kernel, by decide +kernel⟩
set_option maxRecDepth 20000 in
theorem tb_677 : Cond.methodLink RX3 43 yX3_entered ∈ TBg := tbg (i := 677) (by rfl) rfl
theorem ml_X3_43 : ML RX3 43 yX3_entered := Or.inl tb_677
set_option maxRecDepth 20000 in
theorem tb_690 : Cond.code yX3_leaving cX3_leaving 4 (some (.int)) ∈ TBg := tbg (i := 690) (by rfl) rfl
set_option maxRecDepth 20000 in
theorem tb_689 : Cond.instanceMethod yX3_leaving ∈ TBg := tbg (i := 689) (by rfl) rfl
theorem tb_25 : Cond.selects RX3 yX3_leaving yX3_leaving ∈ TBg := tbg (i := 25) (by rfl) rfl
theorem cal_X3_leaving : CalV RX3 yX3_leaving (.code yX3_leaving cX3_leaving 4 (some (.int))) cX3_leaving 4 (some (.int)) 1 := ⟨rfl, tb_690, tb_129, tb_689, tb_25, by decide +kernel, by decide +kernel, by decide +kernel⟩
set_option maxRecDepth 20000 in
theorem tb_687 : Cond.methodLink RX3 46 yX3_leaving ∈ TBg := tbg (i := 687) (by rfl) rfl
theorem ml_X3_46 : ML RX3 46 yX3_leaving := Or.inl tb_687
set_option maxRecDepth 20000 in
theorem tb_676 : Cond.code yX3_liveSet cX3_liveSet 4 (some (.int)) ∈ TBg := tbg (i := 676) (by rfl) rfl
set_option maxRecDepth 20000 in
theorem tb_675 : Cond.instanceMethod yX3_liveSet ∈ TBg := tbg (i := 675) (by rfl) rfl
theorem tb_22 : Cond.selects RX3 yX3_liveSet yX3_liveSet ∈ TBg := tbg (i := 22) (by rfl) rfl
theorem cal_X3_liveSet : CalV RX3 yX3_liveSet (.code yX3_liveSet cX3_liveSet 4 (some (.int))) cX3_liveSet 4 (some (.int)) 0 := ⟨rfl, tb_676, tb_129, tb_675, tb_22, by decide +kernel, by decide +kernel, by decide +kernel⟩
set_option maxRecDepth 20000 in
theorem tb_673 : Cond.methodLinkNest RX11 156 yX3_liveSet "Shiftgate" ∈ TBg := tbg (i := 673) (by rfl) rfl
theorem ml_X11_156 : ML RX11 156 yX3_liveSet := Or.inr ⟨_, tb_673⟩
set_option maxRecDepth 20000 in
theorem tb_694 : Cond.constant RJ6 265 (1431655765) ∈ TBg := tbg (i := 694) (by rfl) rfl
set_option maxRecDepth 20000 in
theorem tb_695 : Cond.constant RJ6 266 (858993459) ∈ TBg := tbg (i := 695) (by rfl) rfl
set_option maxRecDepth 20000 in
theorem tb_696 : Cond.constant RJ6 267 (252645135) ∈ TBg := tbg (i := 696) (by rfl) rfl
set_option maxRecDepth 20000 in
theorem tb_693 : Cond.code yJ6_bitCount_0f7a4 cJ6_bitCount_0f7a4 1 (some (.int)) ∈ TBg := tbg (i := 693) (by rfl) rfl
theorem tb_124 : Cond.initialized yJ6_bitCount_0f7a4.cls ∈ TBg := tbg (i := 124) (by rfl) rfl
set_option maxRecDepth 20000 in
theorem tb_692 : Cond.static yJ6_bitCount_0f7a4 ∈ TBg := tbg (i := 692) (by rfl) rfl
theorem cal_J6_bitCount_0f7a4 : CalS yJ6_bitCount_0f7a4 (.code yJ6_bitCount_0f7a4 cJ6_bitCount_0f7a4 1 (some (.int))) cJ6_bitCount_0f7a4 1 (some (.int)) 1 := ⟨rfl, tb_693, tb_124, tb_692, by decide +kernel, by decide +kernel, by decide +kernel⟩
set_option maxRecDepth 20000 in
theorem tb_691 : Cond.methodLink RX11 160 yJ6_bitCount_0f7a4 ∈ TBg := tbg (i := 691) (by rfl) rfl
theorem ml_X11_160 : ML RX11 160 yJ6_bitCount_0f7a4 := Or.inl tb_691
set_option maxRecDepth 20000 in
theorem tb_707 : Cond.code yJ7_fill_53178 cJ7_fill_53178 4 none ∈ TBg := tbg (i := 707) (by rfl) rfl
set_option maxRecDepth 20000 in
theorem tb_706 : Cond.static yJ7_fill_53178 ∈ TBg := tbg (i := 706) (by rfl) rfl
theorem cal_J7_fill_53178 : CalS yJ7_fill_53178 (.code yJ7_fill_53178 cJ7_fill_53178 4 none) cJ7_fill_53178 4 none 2 := ⟨rfl, tb_707, tb_115, tb_706, by decide +kernel, by decide +kernel, by decide +kernel⟩
set_option maxRecDepth 20000 in
theorem tb_705 : Cond.methodLink RX6 65 yJ7_fill_53178 ∈ TBg := tbg (i := 705) (by rfl) rfl
theorem ml_X6_65 : ML RX6 65 yJ7_fill_53178 := Or.inl tb_705
set_option maxRecDepth 20000 in
theorem tb_708 : Cond.methodLinkNest RX6 45 yX3_liveSet "Shiftgate" ∈ TBg := tbg (i := 708) (by rfl) rfl
theorem ml_X6_45 : ML RX6 45 yX3_liveSet := Or.inr ⟨_, tb_708⟩
set_option maxRecDepth 20000 in
theorem tb_714 : Cond.code yX6_slotOf cX6_slotOf 3 (some (.int)) ∈ TBg := tbg (i := 714) (by rfl) rfl
set_option maxRecDepth 20000 in
theorem tb_713 : Cond.static yX6_slotOf ∈ TBg := tbg (i := 713) (by rfl) rfl
theorem cal_X6_slotOf : CalS yX6_slotOf (.code yX6_slotOf cX6_slotOf 3 (some (.int))) cX6_slotOf 3 (some (.int)) 2 := ⟨rfl, tb_714, tb_103, tb_713, by decide +kernel, by decide +kernel, by decide +kernel⟩
set_option maxRecDepth 20000 in
theorem tb_712 : Cond.methodLink RX6 75 yX6_slotOf ∈ TBg := tbg (i := 712) (by rfl) rfl
theorem ml_X6_75 : ML RX6 75 yX6_slotOf := Or.inl tb_712
set_option maxRecDepth 20000 in
theorem tb_718 : Cond.code yX6_recall cX6_recall 4 (some (.int)) ∈ TBg := tbg (i := 718) (by rfl) rfl
set_option maxRecDepth 20000 in
theorem tb_717 : Cond.instanceMethod yX6_recall ∈ TBg := tbg (i := 717) (by rfl) rfl
theorem tb_27 : Cond.selects RX6 yX6_recall yX6_recall ∈ TBg := tbg (i := 27) (by rfl) rfl
theorem cal_X6_recall : CalV RX6 yX6_recall (.code yX6_recall cX6_recall 4 (some (.int))) cX6_recall 4 (some (.int)) 3 := ⟨rfl, tb_718, tb_103, tb_717, tb_27, by decide +kernel, by decide +kernel, by decide +kernel⟩
set_option maxRecDepth 20000 in
theorem tb_715 : Cond.methodLink RX6 78 yX6_recall ∈ TBg := tbg (i := 715) (by rfl) rfl
theorem ml_X6_78 : ML RX6 78 yX6_recall := Or.inl tb_715
set_option maxRecDepth 20000 in
theorem tb_547 : Cond.fieldLinkNest RX6 82 "Shiftgate$Graph" "letters" "I" "Shiftgate" ∈ TBg := tbg (i := 547) (by rfl) rfl
theorem fl_X6_82 : FL RX6 82 "Shiftgate$Graph" "letters" "I" := Or.inr ⟨_, tb_547⟩
set_option maxRecDepth 20000 in
theorem tb_726 : Cond.code yX6_keep cX6_keep 5 none ∈ TBg := tbg (i := 726) (by rfl) rfl
set_option maxRecDepth 20000 in
theorem tb_725 : Cond.instanceMethod yX6_keep ∈ TBg := tbg (i := 725) (by rfl) rfl
theorem tb_29 : Cond.selects RX6 yX6_keep yX6_keep ∈ TBg := tbg (i := 29) (by rfl) rfl
theorem cal_X6_keep : CalV RX6 yX6_keep (.code yX6_keep cX6_keep 5 none) cX6_keep 5 none 4 := ⟨rfl, tb_726, tb_103, tb_725, tb_29, by decide +kernel, by decide +kernel, by decide +kernel⟩
set_option maxRecDepth 20000 in
theorem tb_723 : Cond.methodLink RX6 85 yX6_keep ∈ TBg := tbg (i := 723) (by rfl) rfl
theorem ml_X6_85 : ML RX6 85 yX6_keep := Or.inl tb_723
set_option maxRecDepth 20000 in
theorem tb_722 : Cond.code yX3_read cX3_read 5 (some (.int)) ∈ TBg := tbg (i := 722) (by rfl) rfl
set_option maxRecDepth 20000 in
theorem tb_721 : Cond.instanceMethod yX3_read ∈ TBg := tbg (i := 721) (by rfl) rfl
theorem tb_28 : Cond.selects RX3 yX3_read yX3_read ∈ TBg := tbg (i := 28) (by rfl) rfl
theorem cal_X3_read : CalV RX3 yX3_read (.code yX3_read cX3_read 5 (some (.int))) cX3_read 5 (some (.int)) 2 := ⟨rfl, tb_722, tb_129, tb_721, tb_28, by decide +kernel, by decide +kernel, by decide +kernel⟩
set_option maxRecDepth 20000 in
theorem tb_719 : Cond.methodLinkNest RX6 61 yX3_read "Shiftgate" ∈ TBg := tbg (i := 719) (by rfl) rfl
theorem ml_X6_61 : ML RX6 61 yX3_read := Or.inr ⟨_, tb_719⟩
set_option maxRecDepth 20000 in
theorem tb_711 : Cond.code yX6_countOn cX6_countOn 9 (some (.int)) ∈ TBg := tbg (i := 711) (by rfl) rfl
set_option maxRecDepth 20000 in
theorem tb_710 : Cond.static yX6_countOn ∈ TBg := tbg (i := 710) (by rfl) rfl
theorem cal_X6_countOn : CalS yX6_countOn (.code yX6_countOn cX6_countOn 9 (some (.int))) cX6_countOn 9 (some (.int)) 5 := ⟨rfl, tb_711, tb_103, tb_710, by decide +kernel, by decide +kernel, by decide +kernel⟩
set_option maxRecDepth 20000 in
theorem tb_709 : Cond.methodLink RX6 71 yX6_countOn ∈ TBg := tbg (i := 709) (by rfl) rfl
theorem ml_X6_71 : ML RX6 71 yX6_countOn := Or.inl tb_709
set_option maxRecDepth 20000 in
theorem tb_704 : Cond.code yX6_countWords cX6_countWords 4 (some (.int)) ∈ TBg := tbg (i := 704) (by rfl) rfl
set_option maxRecDepth 20000 in
theorem tb_703 : Cond.instanceMethod yX6_countWords ∈ TBg := tbg (i := 703) (by rfl) rfl
theorem tb_26 : Cond.selects RX6 yX6_countWords yX6_countWords ∈ TBg := tbg (i := 26) (by rfl) rfl
theorem cal_X6_countWords : CalV RX6 yX6_countWords (.code yX6_countWords cX6_countWords 4 (some (.int))) cX6_countWords 4 (some (.int)) 2 := ⟨rfl, tb_704, tb_103, tb_703, tb_26, by decide +kernel, by decide +kernel, by decide +kernel⟩
set_option maxRecDepth 20000 in
theorem tb_701 : Cond.methodLinkNest RX11 166 yX6_countWords "Shiftgate" ∈ TBg := tbg (i := 701) (by rfl) rfl
theorem ml_X11_166 : ML RX11 166 yX6_countWords := Or.inr ⟨_, tb_701⟩
set_option maxRecDepth 20000 in
theorem tb_755 : Cond.code yX6_readRow cX6_readRow 7 (some (.int)) ∈ TBg := tbg (i := 755) (by rfl) rfl
set_option maxRecDepth 20000 in
theorem tb_754 : Cond.instanceMethod yX6_readRow ∈ TBg := tbg (i := 754) (by rfl) rfl
theorem tb_33 : Cond.selects RX6 yX6_readRow yX6_readRow ∈ TBg := tbg (i := 33) (by rfl) rfl
theorem cal_X6_readRow : CalV RX6 yX6_readRow (.code yX6_readRow cX6_readRow 7 (some (.int))) cX6_readRow 7 (some (.int)) 4 := ⟨rfl, tb_755, tb_103, tb_754, tb_33, by decide +kernel, by decide +kernel, by decide +kernel⟩
set_option maxRecDepth 20000 in
theorem tb_752 : Cond.methodLink RX6 97 yX6_readRow ∈ TBg := tbg (i := 752) (by rfl) rfl
theorem ml_X6_97 : ML RX6 97 yX6_readRow := Or.inl tb_752
set_option maxRecDepth 20000 in
theorem tb_751 : Cond.code yX6_isPoint cX6_isPoint 7 (some (.boolean)) ∈ TBg := tbg (i := 751) (by rfl) rfl
set_option maxRecDepth 20000 in
theorem tb_750 : Cond.instanceMethod yX6_isPoint ∈ TBg := tbg (i := 750) (by rfl) rfl
theorem tb_32 : Cond.selects RX6 yX6_isPoint yX6_isPoint ∈ TBg := tbg (i := 32) (by rfl) rfl
theorem cal_X6_isPoint : CalV RX6 yX6_isPoint (.code yX6_isPoint cX6_isPoint 7 (some (.boolean))) cX6_isPoint 7 (some (.boolean)) 3 := ⟨rfl, tb_751, tb_103, tb_750, tb_32, by decide +kernel, by decide +kernel, by decide +kernel⟩
set_option maxRecDepth 20000 in
theorem tb_748 : Cond.methodLink RX6 89 yX6_isPoint ∈ TBg := tbg (i := 748) (by rfl) rfl
theorem ml_X6_89 : ML RX6 89 yX6_isPoint := Or.inl tb_748
set_option maxRecDepth 20000 in
theorem tb_759 : Cond.code yX6_isAdvanced cX6_isAdvanced 4 (some (.boolean)) ∈ TBg := tbg (i := 759) (by rfl) rfl
set_option maxRecDepth 20000 in
theorem tb_758 : Cond.instanceMethod yX6_isAdvanced ∈ TBg := tbg (i := 758) (by rfl) rfl
theorem tb_34 : Cond.selects RX6 yX6_isAdvanced yX6_isAdvanced ∈ TBg := tbg (i := 34) (by rfl) rfl
theorem cal_X6_isAdvanced : CalV RX6 yX6_isAdvanced (.code yX6_isAdvanced cX6_isAdvanced 4 (some (.boolean))) cX6_isAdvanced 4 (some (.boolean)) 2 := ⟨rfl, tb_759, tb_103, tb_758, tb_34, by decide +kernel, by decide +kernel, by decide +kernel⟩
set_option maxRecDepth 20000 in
theorem tb_756 : Cond.methodLink RX6 93 yX6_isAdvanced ∈ TBg := tbg (i := 756) (by rfl) rfl
theorem ml_X6_93 : ML RX6 93 yX6_isAdvanced := Or.inl tb_756
set_option maxRecDepth 20000 in
theorem tb_747 : Cond.code yX6_countPoints cX6_countPoints 6 (some (.int)) ∈ TBg := tbg (i := 747) (by rfl) rfl
set_option maxRecDepth 20000 in
theorem tb_746 : Cond.instanceMethod yX6_countPoints ∈ TBg := tbg (i := 746) (by rfl) rfl
theorem tb_31 : Cond.selects RX6 yX6_countPoints yX6_countPoints ∈ TBg := tbg (i := 31) (by rfl) rfl
theorem cal_X6_countPoints : CalV RX6 yX6_countPoints (.code yX6_countPoints cX6_countPoints 6 (some (.int))) cX6_countPoints 6 (some (.int)) 2 := ⟨rfl, tb_747, tb_103, tb_746, tb_31, by decide +kernel, by decide +kernel, by decide +kernel⟩
set_option maxRecDepth 20000 in
theorem tb_744 : Cond.methodLinkNest RX11 182 yX6_countPoints "Shiftgate" ∈ TBg := tbg (i := 744) (by rfl) rfl
theorem ml_X11_182 : ML RX11 182 yX6_countPoints := Or.inr ⟨_, tb_744⟩
set_option maxRecDepth 20000 in
theorem tb_772 : Cond.methodLinkNest RX10 18 yX3_allTargets "Shiftgate" ∈ TBg := tbg (i := 772) (by rfl) rfl
theorem ml_X10_18 : ML RX10 18 yX3_allTargets := Or.inr ⟨_, tb_772⟩
set_option maxRecDepth 20000 in
theorem tb_773 : Cond.methodLinkNest RX10 24 yX11_hasBit "Shiftgate" ∈ TBg := tbg (i := 773) (by rfl) rfl
theorem ml_X10_24 : ML RX10 24 yX11_hasBit := Or.inr ⟨_, tb_773⟩
set_option maxRecDepth 20000 in
theorem tb_771 : Cond.code yX10_follow cX10_follow 4 none ∈ TBg := tbg (i := 771) (by rfl) rfl
set_option maxRecDepth 20000 in
theorem tb_770 : Cond.instanceMethod yX10_follow ∈ TBg := tbg (i := 770) (by rfl) rfl
theorem tb_36 : Cond.selects RX10 yX10_follow yX10_follow ∈ TBg := tbg (i := 36) (by rfl) rfl
theorem cal_X10_follow : CalV RX10 yX10_follow (.code yX10_follow cX10_follow 4 none) cX10_follow 4 none 1 := ⟨rfl, tb_771, tb_104, tb_770, tb_36, by decide +kernel, by decide +kernel, by decide +kernel⟩
set_option maxRecDepth 20000 in
theorem tb_768 : Cond.methodLink RX10 31 yX10_follow ∈ TBg := tbg (i := 768) (by rfl) rfl
theorem ml_X10_31 : ML RX10 31 yX10_follow := Or.inl tb_768
set_option maxRecDepth 20000 in
theorem tb_544 : Cond.fieldLinkNest RX10 35 "Shiftgate$Graph" "states" "I" "Shiftgate" ∈ TBg := tbg (i := 544) (by rfl) rfl
theorem fl_X10_35 : FL RX10 35 "Shiftgate$Graph" "states" "I" := Or.inr ⟨_, tb_544⟩
set_option maxRecDepth 20000 in
theorem tb_781 : Cond.code yX10_reachOf cX10_reachOf 2 (some (.int)) ∈ TBg := tbg (i := 781) (by rfl) rfl
set_option maxRecDepth 20000 in
theorem tb_780 : Cond.instanceMethod yX10_reachOf ∈ TBg := tbg (i := 780) (by rfl) rfl
theorem tb_38 : Cond.selects RX10 yX10_reachOf yX10_reachOf ∈ TBg := tbg (i := 38) (by rfl) rfl
theorem cal_X10_reachOf : CalV RX10 yX10_reachOf (.code yX10_reachOf cX10_reachOf 2 (some (.int))) cX10_reachOf 2 (some (.int)) 1 := ⟨rfl, tb_781, tb_104, tb_780, tb_38, by decide +kernel, by decide +kernel, by decide +kernel⟩
set_option maxRecDepth 20000 in
theorem tb_778 : Cond.methodLink RX10 28 yX10_reachOf ∈ TBg := tbg (i := 778) (by rfl) rfl
theorem ml_X10_28 : ML RX10 28 yX10_reachOf := Or.inl tb_778
set_option maxRecDepth 20000 in
theorem tb_777 : Cond.code yX10_partOf cX10_partOf 4 (some (.int)) ∈ TBg := tbg (i := 777) (by rfl) rfl
set_option maxRecDepth 20000 in
theorem tb_776 : Cond.instanceMethod yX10_partOf ∈ TBg := tbg (i := 776) (by rfl) rfl
theorem tb_37 : Cond.selects RX10 yX10_partOf yX10_partOf ∈ TBg := tbg (i := 37) (by rfl) rfl
theorem cal_X10_partOf : CalV RX10 yX10_partOf (.code yX10_partOf cX10_partOf 4 (some (.int))) cX10_partOf 4 (some (.int)) 1 := ⟨rfl, tb_777, tb_104, tb_776, tb_37, by decide +kernel, by decide +kernel, by decide +kernel⟩
set_option maxRecDepth 20000 in
theorem tb_774 : Cond.methodLink RX10 39 yX10_partOf ∈ TBg := tbg (i := 774) (by rfl) rfl
theorem ml_X10_39 : ML RX10 39 yX10_partOf := Or.inl tb_774
set_option maxRecDepth 20000 in
theorem tb_767 : Cond.code yX10_countParts cX10_countParts 6 (some (.int)) ∈ TBg := tbg (i := 767) (by rfl) rfl
set_option maxRecDepth 20000 in
theorem tb_766 : Cond.instanceMethod yX10_countParts ∈ TBg := tbg (i := 766) (by rfl) rfl
theorem tb_35 : Cond.selects RX10 yX10_countParts yX10_countParts ∈ TBg := tbg (i := 35) (by rfl) rfl
theorem cal_X10_countParts : CalV RX10 yX10_countParts (.code yX10_countParts cX10_countParts 6 (some (.int))) cX10_countParts 6 (some (.int)) 1 := ⟨rfl, tb_767, tb_104, tb_766, tb_35, by decide +kernel, by decide +kernel, by decide +kernel⟩
set_option maxRecDepth 20000 in
theorem tb_764 : Cond.methodLinkNest RX11 185 yX10_countParts "Shiftgate" ∈ TBg := tbg (i := 764) (by rfl) rfl
theorem ml_X11_185 : ML RX11 185 yX10_countParts := Or.inr ⟨_, tb_764⟩
set_option maxRecDepth 20000 in
theorem tb_827 : Cond.methodLinkNest RX10 42 yX3_liveSet "Shiftgate" ∈ TBg := tbg (i := 827) (by rfl) rfl
theorem ml_X10_42 : ML RX10 42 yX3_liveSet := Or.inr ⟨_, tb_827⟩
set_option maxRecDepth 20000 in
theorem tb_826 : Cond.code yX10_isOnePart cX10_isOnePart 4 (some (.boolean)) ∈ TBg := tbg (i := 826) (by rfl) rfl
set_option maxRecDepth 20000 in
theorem tb_825 : Cond.instanceMethod yX10_isOnePart ∈ TBg := tbg (i := 825) (by rfl) rfl
theorem tb_41 : Cond.selects RX10 yX10_isOnePart yX10_isOnePart ∈ TBg := tbg (i := 41) (by rfl) rfl
theorem cal_X10_isOnePart : CalV RX10 yX10_isOnePart (.code yX10_isOnePart cX10_isOnePart 4 (some (.boolean))) cX10_isOnePart 4 (some (.boolean)) 1 := ⟨rfl, tb_826, tb_104, tb_825, tb_41, by decide +kernel, by decide +kernel, by decide +kernel⟩
set_option maxRecDepth 20000 in
theorem tb_823 : Cond.methodLinkNest RX11 198 yX10_isOnePart "Shiftgate" ∈ TBg := tbg (i := 823) (by rfl) rfl
theorem ml_X11_198 : ML RX11 198 yX10_isOnePart := Or.inr ⟨_, tb_823⟩
set_option maxRecDepth 20000 in
theorem tb_853 : Cond.code yX6_keepSet cX6_keepSet 3 none ∈ TBg := tbg (i := 853) (by rfl) rfl
set_option maxRecDepth 20000 in
theorem tb_852 : Cond.instanceMethod yX6_keepSet ∈ TBg := tbg (i := 852) (by rfl) rfl
theorem tb_45 : Cond.selects RX6 yX6_keepSet yX6_keepSet ∈ TBg := tbg (i := 45) (by rfl) rfl
theorem cal_X6_keepSet : CalV RX6 yX6_keepSet (.code yX6_keepSet cX6_keepSet 3 none) cX6_keepSet 3 none 2 := ⟨rfl, tb_853, tb_103, tb_852, tb_45, by decide +kernel, by decide +kernel, by decide +kernel⟩
set_option maxRecDepth 20000 in
theorem tb_850 : Cond.methodLink RX6 120 yX6_keepSet ∈ TBg := tbg (i := 850) (by rfl) rfl
theorem ml_X6_120 : ML RX6 120 yX6_keepSet := Or.inl tb_850
set_option maxRecDepth 20000 in
theorem tb_857 : Cond.code yX6_placeOfSet cX6_placeOfSet 4 (some (.int)) ∈ TBg := tbg (i := 857) (by rfl) rfl
set_option maxRecDepth 20000 in
theorem tb_856 : Cond.instanceMethod yX6_placeOfSet ∈ TBg := tbg (i := 856) (by rfl) rfl
theorem tb_46 : Cond.selects RX6 yX6_placeOfSet yX6_placeOfSet ∈ TBg := tbg (i := 46) (by rfl) rfl
theorem cal_X6_placeOfSet : CalV RX6 yX6_placeOfSet (.code yX6_placeOfSet cX6_placeOfSet 4 (some (.int))) cX6_placeOfSet 4 (some (.int)) 2 := ⟨rfl, tb_857, tb_103, tb_856, tb_46, by decide +kernel, by decide +kernel, by decide +kernel⟩
set_option maxRecDepth 20000 in
theorem tb_854 : Cond.methodLink RX6 124 yX6_placeOfSet ∈ TBg := tbg (i := 854) (by rfl) rfl
theorem ml_X6_124 : ML RX6 124 yX6_placeOfSet := Or.inl tb_854
set_option maxRecDepth 20000 in
theorem tb_861 : Cond.code yX6_noteMove cX6_noteMove 5 none ∈ TBg := tbg (i := 861) (by rfl) rfl
set_option maxRecDepth 20000 in
theorem tb_860 : Cond.instanceMethod yX6_noteMove ∈ TBg := tbg (i := 860) (by rfl) rfl
theorem tb_47 : Cond.selects RX6 yX6_noteMove yX6_noteMove ∈ TBg := tbg (i := 47) (by rfl) rfl
theorem cal_X6_noteMove : CalV RX6 yX6_noteMove (.code yX6_noteMove cX6_noteMove 5 none) cX6_noteMove 5 none 3 := ⟨rfl, tb_861, tb_103, tb_860, tb_47, by decide +kernel, by decide +kernel, by decide +kernel⟩
set_option maxRecDepth 20000 in
theorem tb_858 : Cond.methodLink RX6 127 yX6_noteMove ∈ TBg := tbg (i := 858) (by rfl) rfl
theorem ml_X6_127 : ML RX6 127 yX6_noteMove := Or.inl tb_858
set_option maxRecDepth 20000 in
theorem tb_849 : Cond.code yX6_collectSets cX6_collectSets 8 (some (.int)) ∈ TBg := tbg (i := 849) (by rfl) rfl
set_option maxRecDepth 20000 in
theorem tb_848 : Cond.instanceMethod yX6_collectSets ∈ TBg := tbg (i := 848) (by rfl) rfl
theorem tb_44 : Cond.selects RX6 yX6_collectSets yX6_collectSets ∈ TBg := tbg (i := 44) (by rfl) rfl
theorem cal_X6_collectSets : CalV RX6 yX6_collectSets (.code yX6_collectSets cX6_collectSets 8 (some (.int))) cX6_collectSets 8 (some (.int)) 1 := ⟨rfl, tb_849, tb_103, tb_848, tb_44, by decide +kernel, by decide +kernel, by decide +kernel⟩
set_option maxRecDepth 20000 in
theorem tb_846 : Cond.methodLink RX6 113 yX6_collectSets ∈ TBg := tbg (i := 846) (by rfl) rfl
theorem ml_X6_113 : ML RX6 113 yX6_collectSets := Or.inl tb_846
set_option maxRecDepth 20000 in
theorem tb_873 : Cond.code yX6_kindOf cX6_kindOf 2 (some (.int)) ∈ TBg := tbg (i := 873) (by rfl) rfl
set_option maxRecDepth 20000 in
theorem tb_872 : Cond.instanceMethod yX6_kindOf ∈ TBg := tbg (i := 872) (by rfl) rfl
theorem tb_50 : Cond.selects RX6 yX6_kindOf yX6_kindOf ∈ TBg := tbg (i := 50) (by rfl) rfl
theorem cal_X6_kindOf : CalV RX6 yX6_kindOf (.code yX6_kindOf cX6_kindOf 2 (some (.int))) cX6_kindOf 2 (some (.int)) 1 := ⟨rfl, tb_873, tb_103, tb_872, tb_50, by decide +kernel, by decide +kernel, by decide +kernel⟩
set_option maxRecDepth 20000 in
theorem tb_870 : Cond.methodLink RX6 134 yX6_kindOf ∈ TBg := tbg (i := 870) (by rfl) rfl
theorem ml_X6_134 : ML RX6 134 yX6_kindOf := Or.inl tb_870
set_option maxRecDepth 20000 in
theorem tb_877 : Cond.code yX6_kindBehind cX6_kindBehind 4 (some (.int)) ∈ TBg := tbg (i := 877) (by rfl) rfl
set_option maxRecDepth 20000 in
theorem tb_876 : Cond.instanceMethod yX6_kindBehind ∈ TBg := tbg (i := 876) (by rfl) rfl
theorem tb_51 : Cond.selects RX6 yX6_kindBehind yX6_kindBehind ∈ TBg := tbg (i := 51) (by rfl) rfl
theorem cal_X6_kindBehind : CalV RX6 yX6_kindBehind (.code yX6_kindBehind cX6_kindBehind 4 (some (.int))) cX6_kindBehind 4 (some (.int)) 2 := ⟨rfl, tb_877, tb_103, tb_876, tb_51, by decide +kernel, by decide +kernel, by decide +kernel⟩
set_option maxRecDepth 20000 in
theorem tb_874 : Cond.methodLink RX6 137 yX6_kindBehind ∈ TBg := tbg (i := 874) (by rfl) rfl
theorem ml_X6_137 : ML RX6 137 yX6_kindBehind := Or.inl tb_874
set_option maxRecDepth 20000 in
theorem tb_869 : Cond.code yX6_firstLike cX6_firstLike 6 (some (.int)) ∈ TBg := tbg (i := 869) (by rfl) rfl
set_option maxRecDepth 20000 in
theorem tb_868 : Cond.instanceMethod yX6_firstLike ∈ TBg := tbg (i := 868) (by rfl) rfl
theorem tb_49 : Cond.selects RX6 yX6_firstLike yX6_firstLike ∈ TBg := tbg (i := 49) (by rfl) rfl
theorem cal_X6_firstLike : CalV RX6 yX6_firstLike (.code yX6_firstLike cX6_firstLike 6 (some (.int))) cX6_firstLike 6 (some (.int)) 2 := ⟨rfl, tb_869, tb_103, tb_868, tb_49, by decide +kernel, by decide +kernel, by decide +kernel⟩
set_option maxRecDepth 20000 in
theorem tb_866 : Cond.methodLink RX6 131 yX6_firstLike ∈ TBg := tbg (i := 866) (by rfl) rfl
theorem ml_X6_131 : ML RX6 131 yX6_firstLike := Or.inl tb_866
set_option maxRecDepth 20000 in
theorem tb_865 : Cond.code yX6_refine cX6_refine 6 (some (.int)) ∈ TBg := tbg (i := 865) (by rfl) rfl
set_option maxRecDepth 20000 in
theorem tb_864 : Cond.instanceMethod yX6_refine ∈ TBg := tbg (i := 864) (by rfl) rfl
theorem tb_48 : Cond.selects RX6 yX6_refine yX6_refine ∈ TBg := tbg (i := 48) (by rfl) rfl
theorem cal_X6_refine : CalV RX6 yX6_refine (.code yX6_refine cX6_refine 6 (some (.int))) cX6_refine 6 (some (.int)) 2 := ⟨rfl, tb_865, tb_103, tb_864, tb_48, by decide +kernel, by decide +kernel, by decide +kernel⟩
set_option maxRecDepth 20000 in
theorem tb_862 : Cond.methodLink RX6 117 yX6_refine ∈ TBg := tbg (i := 862) (by rfl) rfl
theorem ml_X6_117 : ML RX6 117 yX6_refine := Or.inl tb_862
set_option maxRecDepth 20000 in
theorem tb_845 : Cond.code yX6_countFutures cX6_countFutures 6 (some (.int)) ∈ TBg := tbg (i := 845) (by rfl) rfl
set_option maxRecDepth 20000 in
theorem tb_844 : Cond.instanceMethod yX6_countFutures ∈ TBg := tbg (i := 844) (by rfl) rfl
theorem tb_43 : Cond.selects RX6 yX6_countFutures yX6_countFutures ∈ TBg := tbg (i := 43) (by rfl) rfl
theorem cal_X6_countFutures : CalV RX6 yX6_countFutures (.code yX6_countFutures cX6_countFutures 6 (some (.int))) cX6_countFutures 6 (some (.int)) 1 := ⟨rfl, tb_845, tb_103, tb_844, tb_43, by decide +kernel, by decide +kernel, by decide +kernel⟩
set_option maxRecDepth 20000 in
theorem tb_842 : Cond.methodLinkNest RX11 206 yX6_countFutures "Shiftgate" ∈ TBg := tbg (i := 842) (by rfl) rfl
theorem ml_X11_206 : ML RX11 206 yX6_countFutures := Or.inr ⟨_, tb_842⟩
set_option maxRecDepth 20000 in
theorem tb_550 : Cond.fieldLinkNest RX11 170 "Shiftgate$Graph" "letters" "I" "Shiftgate" ∈ TBg := tbg (i := 550) (by rfl) rfl
theorem fl_X11_170 : FL RX11 170 "Shiftgate$Graph" "letters" "I" := Or.inr ⟨_, tb_550⟩
set_option maxRecDepth 20000 in
theorem tb_890 : Cond.code yX6_isUnlike cX6_isUnlike 2 (some (.boolean)) ∈ TBg := tbg (i := 890) (by rfl) rfl
set_option maxRecDepth 20000 in
theorem tb_889 : Cond.static yX6_isUnlike ∈ TBg := tbg (i := 889) (by rfl) rfl
theorem cal_X6_isUnlike : CalS yX6_isUnlike (.code yX6_isUnlike cX6_isUnlike 2 (some (.boolean))) cX6_isUnlike 2 (some (.boolean)) 2 := ⟨rfl, tb_890, tb_103, tb_889, by decide +kernel, by decide +kernel, by decide +kernel⟩
set_option maxRecDepth 20000 in
theorem tb_888 : Cond.methodLink RX6 140 yX6_isUnlike ∈ TBg := tbg (i := 888) (by rfl) rfl
theorem ml_X6_140 : ML RX6 140 yX6_isUnlike := Or.inl tb_888
set_option maxRecDepth 20000 in
theorem tb_894 : Cond.code yX6_keepPair cX6_keepPair 4 none ∈ TBg := tbg (i := 894) (by rfl) rfl
set_option maxRecDepth 20000 in
theorem tb_893 : Cond.instanceMethod yX6_keepPair ∈ TBg := tbg (i := 893) (by rfl) rfl
theorem tb_53 : Cond.selects RX6 yX6_keepPair yX6_keepPair ∈ TBg := tbg (i := 53) (by rfl) rfl
theorem cal_X6_keepPair : CalV RX6 yX6_keepPair (.code yX6_keepPair cX6_keepPair 4 none) cX6_keepPair 4 none 3 := ⟨rfl, tb_894, tb_103, tb_893, tb_53, by decide +kernel, by decide +kernel, by decide +kernel⟩
set_option maxRecDepth 20000 in
theorem tb_891 : Cond.methodLink RX6 143 yX6_keepPair ∈ TBg := tbg (i := 891) (by rfl) rfl
theorem ml_X6_143 : ML RX6 143 yX6_keepPair := Or.inl tb_891
set_option maxRecDepth 20000 in
theorem tb_898 : Cond.code yX6_isMet cX6_isMet 5 (some (.boolean)) ∈ TBg := tbg (i := 898) (by rfl) rfl
set_option maxRecDepth 20000 in
theorem tb_897 : Cond.instanceMethod yX6_isMet ∈ TBg := tbg (i := 897) (by rfl) rfl
theorem tb_54 : Cond.selects RX6 yX6_isMet yX6_isMet ∈ TBg := tbg (i := 54) (by rfl) rfl
theorem cal_X6_isMet : CalV RX6 yX6_isMet (.code yX6_isMet cX6_isMet 5 (some (.boolean))) cX6_isMet 5 (some (.boolean)) 3 := ⟨rfl, tb_898, tb_103, tb_897, tb_54, by decide +kernel, by decide +kernel, by decide +kernel⟩
set_option maxRecDepth 20000 in
theorem tb_895 : Cond.methodLink RX6 146 yX6_isMet ∈ TBg := tbg (i := 895) (by rfl) rfl
theorem ml_X6_146 : ML RX6 146 yX6_isMet := Or.inl tb_895
set_option maxRecDepth 20000 in
theorem tb_887 : Cond.code yX6_match cX6_match 12 (some (.int)) ∈ TBg := tbg (i := 887) (by rfl) rfl
set_option maxRecDepth 20000 in
theorem tb_886 : Cond.instanceMethod yX6_match ∈ TBg := tbg (i := 886) (by rfl) rfl
theorem tb_52 : Cond.selects RX6 yX6_match yX6_match ∈ TBg := tbg (i := 52) (by rfl) rfl
theorem cal_X6_match : CalV RX6 yX6_match (.code yX6_match cX6_match 12 (some (.int))) cX6_match 12 (some (.int)) 2 := ⟨rfl, tb_887, tb_103, tb_886, tb_52, by decide +kernel, by decide +kernel, by decide +kernel⟩
set_option maxRecDepth 20000 in
theorem tb_884 : Cond.methodLinkNest RX11 213 yX6_match "Shiftgate" ∈ TBg := tbg (i := 884) (by rfl) rfl
theorem ml_X11_213 : ML RX11 213 yX6_match := Or.inr ⟨_, tb_884⟩
set_option maxRecDepth 20000 in
theorem tb_913 : Cond.methodLinkNest RX0 54 yX3_liveSet "Shiftgate" ∈ TBg := tbg (i := 913) (by rfl) rfl
theorem ml_X0_54 : ML RX0 54 yX3_liveSet := Or.inr ⟨_, tb_913⟩
set_option maxRecDepth 20000 in
theorem tb_914 : Cond.methodLink RX0 60 yJ6_bitCount_0f7a4 ∈ TBg := tbg (i := 914) (by rfl) rfl
theorem ml_X0_60 : ML RX0 60 yJ6_bitCount_0f7a4 := Or.inl tb_914
theorem tb_233 : Cond.fieldLink RX8 15 "Shiftgate$Table" "rows" "I" ∈ TBg := tbg (i := 233) (by rfl) rfl
theorem fl_X8_15 : FL RX8 15 "Shiftgate$Table" "rows" "I" := Or.inl tb_233
theorem tb_236 : Cond.fieldLink RX8 19 "Shiftgate$Table" "columns" "I" ∈ TBg := tbg (i := 236) (by rfl) rfl
theorem fl_X8_19 : FL RX8 19 "Shiftgate$Table" "columns" "I" := Or.inl tb_236
set_option maxRecDepth 20000 in
theorem tb_921 : Cond.code yJ7_fill_d0a16 cJ7_fill_d0a16 5 none ∈ TBg := tbg (i := 921) (by rfl) rfl
set_option maxRecDepth 20000 in
theorem tb_920 : Cond.static yJ7_fill_d0a16 ∈ TBg := tbg (i := 920) (by rfl) rfl
theorem cal_J7_fill_d0a16 : CalS yJ7_fill_d0a16 (.code yJ7_fill_d0a16 cJ7_fill_d0a16 5 none) cJ7_fill_d0a16 5 none 2 := ⟨rfl, tb_921, tb_115, tb_920, by decide +kernel, by decide +kernel, by decide +kernel⟩
set_option maxRecDepth 20000 in
theorem tb_919 : Cond.methodLink RX8 22 yJ7_fill_d0a16 ∈ TBg := tbg (i := 919) (by rfl) rfl
theorem ml_X8_22 : ML RX8 22 yJ7_fill_d0a16 := Or.inl tb_919
set_option maxRecDepth 20000 in
theorem tb_918 : Cond.code yX8_reshape cX8_reshape 3 none ∈ TBg := tbg (i := 918) (by rfl) rfl
set_option maxRecDepth 20000 in
theorem tb_917 : Cond.instanceMethod yX8_reshape ∈ TBg := tbg (i := 917) (by rfl) rfl
theorem tb_57 : Cond.selects RX8 yX8_reshape yX8_reshape ∈ TBg := tbg (i := 57) (by rfl) rfl
theorem cal_X8_reshape : CalV RX8 yX8_reshape (.code yX8_reshape cX8_reshape 3 none) cX8_reshape 3 none 2 := ⟨rfl, tb_918, tb_106, tb_917, tb_57, by decide +kernel, by decide +kernel, by decide +kernel⟩
set_option maxRecDepth 20000 in
theorem tb_915 : Cond.methodLinkNest RX0 66 yX8_reshape "Shiftgate" ∈ TBg := tbg (i := 915) (by rfl) rfl
theorem ml_X0_66 : ML RX0 66 yX8_reshape := Or.inr ⟨_, tb_915⟩
set_option maxRecDepth 20000 in
theorem tb_543 : Cond.fieldLinkNest RX0 70 "Shiftgate$Graph" "states" "I" "Shiftgate" ∈ TBg := tbg (i := 543) (by rfl) rfl
theorem fl_X0_70 : FL RX0 70 "Shiftgate$Graph" "states" "I" := Or.inr ⟨_, tb_543⟩
set_option maxRecDepth 20000 in
theorem tb_922 : Cond.methodLinkNest RX0 74 yX11_hasBit "Shiftgate" ∈ TBg := tbg (i := 922) (by rfl) rfl
theorem ml_X0_74 : ML RX0 74 yX11_hasBit := Or.inr ⟨_, tb_922⟩
set_option maxRecDepth 20000 in
theorem tb_549 : Cond.fieldLinkNest RX0 82 "Shiftgate$Graph" "letters" "I" "Shiftgate" ∈ TBg := tbg (i := 549) (by rfl) rfl
theorem fl_X0_82 : FL RX0 82 "Shiftgate$Graph" "letters" "I" := Or.inr ⟨_, tb_549⟩
set_option maxRecDepth 20000 in
theorem tb_935 : Cond.code yX8_placeOf cX8_placeOf 4 (some (.int)) ∈ TBg := tbg (i := 935) (by rfl) rfl
set_option maxRecDepth 20000 in
theorem tb_934 : Cond.instanceMethod yX8_placeOf ∈ TBg := tbg (i := 934) (by rfl) rfl
theorem tb_60 : Cond.selects RX8 yX8_placeOf yX8_placeOf ∈ TBg := tbg (i := 60) (by rfl) rfl
theorem cal_X8_placeOf : CalV RX8 yX8_placeOf (.code yX8_placeOf cX8_placeOf 4 (some (.int))) cX8_placeOf 4 (some (.int)) 2 := ⟨rfl, tb_935, tb_106, tb_934, tb_60, by decide +kernel, by decide +kernel, by decide +kernel⟩
set_option maxRecDepth 20000 in
theorem tb_932 : Cond.methodLink RX8 28 yX8_placeOf ∈ TBg := tbg (i := 932) (by rfl) rfl
theorem ml_X8_28 : ML RX8 28 yX8_placeOf := Or.inl tb_932
set_option maxRecDepth 20000 in
theorem tb_931 : Cond.code yX8_write cX8_write 6 none ∈ TBg := tbg (i := 931) (by rfl) rfl
set_option maxRecDepth 20000 in
theorem tb_930 : Cond.instanceMethod yX8_write ∈ TBg := tbg (i := 930) (by rfl) rfl
theorem tb_59 : Cond.selects RX8 yX8_write yX8_write ∈ TBg := tbg (i := 59) (by rfl) rfl
theorem cal_X8_write : CalV RX8 yX8_write (.code yX8_write cX8_write 6 none) cX8_write 6 none 3 := ⟨rfl, tb_931, tb_106, tb_930, tb_59, by decide +kernel, by decide +kernel, by decide +kernel⟩
set_option maxRecDepth 20000 in
theorem tb_928 : Cond.methodLinkNest RX0 89 yX8_write "Shiftgate" ∈ TBg := tbg (i := 928) (by rfl) rfl
theorem ml_X0_89 : ML RX0 89 yX8_write := Or.inr ⟨_, tb_928⟩
set_option maxRecDepth 20000 in
theorem tb_927 : Cond.methodLinkNest RX0 85 yX3_targets "Shiftgate" ∈ TBg := tbg (i := 927) (by rfl) rfl
theorem ml_X0_85 : ML RX0 85 yX3_targets := Or.inr ⟨_, tb_927⟩
set_option maxRecDepth 20000 in
theorem tb_926 : Cond.code yX0_countRow cX0_countRow 9 none ∈ TBg := tbg (i := 926) (by rfl) rfl
set_option maxRecDepth 20000 in
theorem tb_925 : Cond.instanceMethod yX0_countRow ∈ TBg := tbg (i := 925) (by rfl) rfl
theorem tb_58 : Cond.selects RX0 yX0_countRow yX0_countRow ∈ TBg := tbg (i := 58) (by rfl) rfl
theorem cal_X0_countRow : CalV RX0 yX0_countRow (.code yX0_countRow cX0_countRow 9 none) cX0_countRow 9 none 4 := ⟨rfl, tb_926, tb_105, tb_925, tb_58, by decide +kernel, by decide +kernel, by decide +kernel⟩
set_option maxRecDepth 20000 in
theorem tb_923 : Cond.methodLink RX0 78 yX0_countRow ∈ TBg := tbg (i := 923) (by rfl) rfl
theorem ml_X0_78 : ML RX0 78 yX0_countRow := Or.inl tb_923
set_option maxRecDepth 20000 in
theorem tb_912 : Cond.code yX0_countBetween cX0_countBetween 6 none ∈ TBg := tbg (i := 912) (by rfl) rfl
set_option maxRecDepth 20000 in
theorem tb_911 : Cond.instanceMethod yX0_countBetween ∈ TBg := tbg (i := 911) (by rfl) rfl
theorem tb_56 : Cond.selects RX0 yX0_countBetween yX0_countBetween ∈ TBg := tbg (i := 56) (by rfl) rfl
theorem cal_X0_countBetween : CalV RX0 yX0_countBetween (.code yX0_countBetween cX0_countBetween 6 none) cX0_countBetween 6 none 1 := ⟨rfl, tb_912, tb_105, tb_911, tb_56, by decide +kernel, by decide +kernel, by decide +kernel⟩
set_option maxRecDepth 20000 in
theorem tb_909 : Cond.methodLink RX0 46 yX0_countBetween ∈ TBg := tbg (i := 909) (by rfl) rfl
theorem ml_X0_46 : ML RX0 46 yX0_countBetween := Or.inl tb_909
theorem tb_234 : Cond.fieldLinkNest RX0 93 "Shiftgate$Table" "rows" "I" "Shiftgate" ∈ TBg := tbg (i := 234) (by rfl) rfl
theorem fl_X0_93 : FL RX0 93 "Shiftgate$Table" "rows" "I" := Or.inr ⟨_, tb_234⟩
set_option maxRecDepth 20000 in
theorem tb_940 : Cond.methodLink RX0 96 yJ7_fill_d0a16 ∈ TBg := tbg (i := 940) (by rfl) rfl
theorem ml_X0_96 : ML RX0 96 yJ7_fill_d0a16 := Or.inl tb_940
set_option maxRecDepth 20000 in
theorem tb_944 : Cond.code yX0_keepCoefficient cX0_keepCoefficient 4 none ∈ TBg := tbg (i := 944) (by rfl) rfl
set_option maxRecDepth 20000 in
theorem tb_943 : Cond.instanceMethod yX0_keepCoefficient ∈ TBg := tbg (i := 943) (by rfl) rfl
theorem tb_62 : Cond.selects RX0 yX0_keepCoefficient yX0_keepCoefficient ∈ TBg := tbg (i := 62) (by rfl) rfl
theorem cal_X0_keepCoefficient : CalV RX0 yX0_keepCoefficient (.code yX0_keepCoefficient cX0_keepCoefficient 4 none) cX0_keepCoefficient 4 none 2 := ⟨rfl, tb_944, tb_105, tb_943, tb_62, by decide +kernel, by decide +kernel, by decide +kernel⟩
set_option maxRecDepth 20000 in
theorem tb_941 : Cond.methodLink RX0 102 yX0_keepCoefficient ∈ TBg := tbg (i := 941) (by rfl) rfl
theorem ml_X0_102 : ML RX0 102 yX0_keepCoefficient := Or.inl tb_941
set_option maxRecDepth 20000 in
theorem tb_953 : Cond.methodLink RX8 42 yX8_reshape ∈ TBg := tbg (i := 953) (by rfl) rfl
theorem ml_X8_42 : ML RX8 42 yX8_reshape := Or.inl tb_953
set_option maxRecDepth 20000 in
theorem tb_955 : Cond.methodLink RX8 46 yX8_write ∈ TBg := tbg (i := 955) (by rfl) rfl
theorem ml_X8_46 : ML RX8 46 yX8_write := Or.inl tb_955
set_option maxRecDepth 20000 in
theorem tb_948 : Cond.code yX8_at cX8_at 4 (some (.long)) ∈ TBg := tbg (i := 948) (by rfl) rfl
set_option maxRecDepth 20000 in
theorem tb_947 : Cond.instanceMethod yX8_at ∈ TBg := tbg (i := 947) (by rfl) rfl
theorem tb_63 : Cond.selects RX8 yX8_at yX8_at ∈ TBg := tbg (i := 63) (by rfl) rfl
theorem cal_X8_at : CalV RX8 yX8_at (.code yX8_at cX8_at 4 (some (.long))) cX8_at 4 (some (.long)) 2 := ⟨rfl, tb_948, tb_106, tb_947, tb_63, by decide +kernel, by decide +kernel, by decide +kernel⟩
set_option maxRecDepth 20000 in
theorem tb_954 : Cond.methodLink RX8 38 yX8_at ∈ TBg := tbg (i := 954) (by rfl) rfl
theorem ml_X8_38 : ML RX8 38 yX8_at := Or.inl tb_954
set_option maxRecDepth 20000 in
theorem tb_952 : Cond.code yX8_multiply cX8_multiply 8 none ∈ TBg := tbg (i := 952) (by rfl) rfl
set_option maxRecDepth 20000 in
theorem tb_951 : Cond.instanceMethod yX8_multiply ∈ TBg := tbg (i := 951) (by rfl) rfl
theorem tb_64 : Cond.selects RX8 yX8_multiply yX8_multiply ∈ TBg := tbg (i := 64) (by rfl) rfl
theorem cal_X8_multiply : CalV RX8 yX8_multiply (.code yX8_multiply cX8_multiply 8 none) cX8_multiply 8 none 2 := ⟨rfl, tb_952, tb_106, tb_951, tb_64, by decide +kernel, by decide +kernel, by decide +kernel⟩
set_option maxRecDepth 20000 in
theorem tb_949 : Cond.methodLinkNest RX0 110 yX8_multiply "Shiftgate" ∈ TBg := tbg (i := 949) (by rfl) rfl
theorem ml_X0_110 : ML RX0 110 yX8_multiply := Or.inr ⟨_, tb_949⟩
set_option maxRecDepth 20000 in
theorem tb_959 : Cond.code yX8_diagonalSum cX8_diagonalSum 4 (some (.long)) ∈ TBg := tbg (i := 959) (by rfl) rfl
set_option maxRecDepth 20000 in
theorem tb_958 : Cond.instanceMethod yX8_diagonalSum ∈ TBg := tbg (i := 958) (by rfl) rfl
theorem tb_65 : Cond.selects RX8 yX8_diagonalSum yX8_diagonalSum ∈ TBg := tbg (i := 65) (by rfl) rfl
theorem cal_X8_diagonalSum : CalV RX8 yX8_diagonalSum (.code yX8_diagonalSum cX8_diagonalSum 4 (some (.long))) cX8_diagonalSum 4 (some (.long)) 0 := ⟨rfl, tb_959, tb_106, tb_958, tb_65, by decide +kernel, by decide +kernel, by decide +kernel⟩
set_option maxRecDepth 20000 in
theorem tb_956 : Cond.methodLinkNest RX0 114 yX8_diagonalSum "Shiftgate" ∈ TBg := tbg (i := 956) (by rfl) rfl
theorem ml_X0_114 : ML RX0 114 yX8_diagonalSum := Or.inr ⟨_, tb_956⟩
set_option maxRecDepth 20000 in
theorem tb_945 : Cond.methodLinkNest RX0 106 yX8_at "Shiftgate" ∈ TBg := tbg (i := 945) (by rfl) rfl
theorem ml_X0_106 : ML RX0 106 yX8_at := Or.inr ⟨_, tb_945⟩
set_option maxRecDepth 20000 in
theorem tb_939 : Cond.code yX0_coefficientOf cX0_coefficientOf 9 (some (.long)) ∈ TBg := tbg (i := 939) (by rfl) rfl
set_option maxRecDepth 20000 in
theorem tb_938 : Cond.instanceMethod yX0_coefficientOf ∈ TBg := tbg (i := 938) (by rfl) rfl
theorem tb_61 : Cond.selects RX0 yX0_coefficientOf yX0_coefficientOf ∈ TBg := tbg (i := 61) (by rfl) rfl
theorem cal_X0_coefficientOf : CalV RX0 yX0_coefficientOf (.code yX0_coefficientOf cX0_coefficientOf 9 (some (.long))) cX0_coefficientOf 9 (some (.long)) 2 := ⟨rfl, tb_939, tb_105, tb_938, tb_61, by decide +kernel, by decide +kernel, by decide +kernel⟩
set_option maxRecDepth 20000 in
theorem tb_936 : Cond.methodLink RX0 50 yX0_coefficientOf ∈ TBg := tbg (i := 936) (by rfl) rfl
theorem ml_X0_50 : ML RX0 50 yX0_coefficientOf := Or.inl tb_936
set_option maxRecDepth 20000 in
theorem tb_908 : Cond.code yX0_graphCoefficient cX0_graphCoefficient 3 (some (.long)) ∈ TBg := tbg (i := 908) (by rfl) rfl
set_option maxRecDepth 20000 in
theorem tb_907 : Cond.instanceMethod yX0_graphCoefficient ∈ TBg := tbg (i := 907) (by rfl) rfl
theorem tb_55 : Cond.selects RX0 yX0_graphCoefficient yX0_graphCoefficient ∈ TBg := tbg (i := 55) (by rfl) rfl
theorem cal_X0_graphCoefficient : CalV RX0 yX0_graphCoefficient (.code yX0_graphCoefficient cX0_graphCoefficient 3 (some (.long))) cX0_graphCoefficient 3 (some (.long)) 2 := ⟨rfl, tb_908, tb_105, tb_907, tb_55, by decide +kernel, by decide +kernel, by decide +kernel⟩
set_option maxRecDepth 20000 in
theorem tb_905 : Cond.methodLinkNest RX11 221 yX0_graphCoefficient "Shiftgate" ∈ TBg := tbg (i := 905) (by rfl) rfl
theorem ml_X11_221 : ML RX11 221 yX0_graphCoefficient := Or.inr ⟨_, tb_905⟩
set_option maxRecDepth 20000 in
theorem tb_973 : Cond.constantLong RX0 155 (-1) ∈ TBg := tbg (i := 973) (by rfl) rfl
set_option maxRecDepth 20000 in
theorem tb_972 : Cond.code yX0_sumBehind cX0_sumBehind 9 (some (.long)) ∈ TBg := tbg (i := 972) (by rfl) rfl
set_option maxRecDepth 20000 in
theorem tb_971 : Cond.instanceMethod yX0_sumBehind ∈ TBg := tbg (i := 971) (by rfl) rfl
theorem tb_67 : Cond.selects RX0 yX0_sumBehind yX0_sumBehind ∈ TBg := tbg (i := 67) (by rfl) rfl
theorem cal_X0_sumBehind : CalV RX0 yX0_sumBehind (.code yX0_sumBehind cX0_sumBehind 9 (some (.long))) cX0_sumBehind 9 (some (.long)) 3 := ⟨rfl, tb_972, tb_105, tb_971, tb_67, by decide +kernel, by decide +kernel, by decide +kernel⟩
set_option maxRecDepth 20000 in
theorem tb_969 : Cond.methodLink RX0 151 yX0_sumBehind ∈ TBg := tbg (i := 969) (by rfl) rfl
theorem ml_X0_151 : ML RX0 151 yX0_sumBehind := Or.inl tb_969
set_option maxRecDepth 20000 in
theorem tb_974 : Cond.constantLong RX0 157 (1000) ∈ TBg := tbg (i := 974) (by rfl) rfl
set_option maxRecDepth 20000 in
theorem tb_968 : Cond.code yX0_findBound cX0_findBound 15 (some (.long)) ∈ TBg := tbg (i := 968) (by rfl) rfl
set_option maxRecDepth 20000 in
theorem tb_967 : Cond.instanceMethod yX0_findBound ∈ TBg := tbg (i := 967) (by rfl) rfl
theorem tb_66 : Cond.selects RX0 yX0_findBound yX0_findBound ∈ TBg := tbg (i := 66) (by rfl) rfl
theorem cal_X0_findBound : CalV RX0 yX0_findBound (.code yX0_findBound cX0_findBound 15 (some (.long))) cX0_findBound 15 (some (.long)) 3 := ⟨rfl, tb_968, tb_105, tb_967, tb_66, by decide +kernel, by decide +kernel, by decide +kernel⟩
set_option maxRecDepth 20000 in
theorem tb_965 : Cond.methodLinkNest RX11 227 yX0_findBound "Shiftgate" ∈ TBg := tbg (i := 965) (by rfl) rfl
theorem ml_X11_227 : ML RX11 227 yX0_findBound := Or.inr ⟨_, tb_965⟩
set_option maxRecDepth 20000 in
theorem tb_305 : Cond.fieldLink RX11 231 "Shiftgate" "codeCount" "I" ∈ TBg := tbg (i := 305) (by rfl) rfl
theorem fl_X11_231 : FL RX11 231 "Shiftgate" "codeCount" "I" := Or.inl tb_305
set_option maxRecDepth 20000 in
theorem tb_364 : Cond.instantiable RX1 2 ∈ TBg := tbg (i := 364) (by rfl) rfl
theorem tb_133 : Cond.initialized RX1 ∈ TBg := tbg (i := 133) (by rfl) rfl
set_option maxRecDepth 20000 in
theorem tin_X1 : ∀ w ∈ u_ws RX1 TX1 2, w ∈ TBg := by decide +kernel
set_option maxRecDepth 20000 in
theorem tb_983 : Cond.methodLink RX1 3 objectInit ∈ TBg := tbg (i := 983) (by rfl) rfl
set_option maxRecDepth 20000 in
theorem tb_984 : Cond.fieldLink RX1 9 "Shiftgate$Block" "letters" "I" ∈ TBg := tbg (i := 984) (by rfl) rfl
theorem fl_X1_9 : FL RX1 9 "Shiftgate$Block" "letters" "I" := Or.inl tb_984
set_option maxRecDepth 20000 in
theorem tb_986 : Cond.fieldLink RX1 15 "Shiftgate$Block" "gives" "[I" ∈ TBg := tbg (i := 986) (by rfl) rfl
theorem fl_X1_15 : FL RX1 15 "Shiftgate$Block" "gives" "[I" := Or.inl tb_986
set_option maxRecDepth 20000 in
theorem tb_982 : Cond.code yX1_init cX1_init 2 none ∈ TBg := tbg (i := 982) (by rfl) rfl
set_option maxRecDepth 20000 in
theorem tb_981 : Cond.instanceMethod yX1_init ∈ TBg := tbg (i := 981) (by rfl) rfl
theorem cal_X1_init : CalI yX1_init (.code yX1_init cX1_init 2 none) cX1_init 2 1 := ⟨rfl, tb_982, tb_133, tb_981, rfl, by decide +kernel, by decide +kernel, by decide +kernel⟩
set_option maxRecDepth 20000 in
theorem tb_980 : Cond.methodLinkNest RX11 236 yX1_init "Shiftgate" ∈ TBg := tbg (i := 980) (by rfl) rfl
theorem ml_X11_236 : ML RX11 236 yX1_init := Or.inr ⟨_, tb_980⟩
set_option maxRecDepth 20000 in
theorem tb_999 : Cond.code yX11_codeAt cX11_codeAt 3 (some (.object "Shiftgate$Block")) ∈ TBg := tbg (i := 999) (by rfl) rfl
set_option maxRecDepth 20000 in
theorem tb_998 : Cond.instanceMethod yX11_codeAt ∈ TBg := tbg (i := 998) (by rfl) rfl
theorem tb_68 : Cond.selects RX11 yX11_codeAt yX11_codeAt ∈ TBg := tbg (i := 68) (by rfl) rfl
theorem cal_X11_codeAt : CalV RX11 yX11_codeAt (.code yX11_codeAt cX11_codeAt 3 (some (.object "Shiftgate$Block"))) cX11_codeAt 3 (some (.object "Shiftgate$Block")) 1 := ⟨rfl, tb_999, tb_101, tb_998, tb_68, by decide +kernel, by decide +kernel, by decide +kernel⟩
set_option maxRecDepth 20000 in
theorem tb_996 : Cond.methodLink RX11 239 yX11_codeAt ∈ TBg := tbg (i := 996) (by rfl) rfl
theorem ml_X11_239 : ML RX11 239 yX11_codeAt := Or.inl tb_996
set_option maxRecDepth 20000 in
theorem tb_369 : Cond.code yX1_hasLetter cX1_hasLetter 2 (some (.boolean)) ∈ TBg := tbg (i := 369) (by rfl) rfl
set_option maxRecDepth 20000 in
theorem tb_368 : Cond.instanceMethod yX1_hasLetter ∈ TBg := tbg (i := 368) (by rfl) rfl
theorem tb_4 : Cond.selects RX1 yX1_hasLetter yX1_hasLetter ∈ TBg := tbg (i := 4) (by rfl) rfl
theorem cal_X1_hasLetter : CalV RX1 yX1_hasLetter (.code yX1_hasLetter cX1_hasLetter 2 (some (.boolean))) cX1_hasLetter 2 (some (.boolean)) 1 := ⟨rfl, tb_369, tb_133, tb_368, tb_4, by decide +kernel, by decide +kernel, by decide +kernel⟩
set_option maxRecDepth 20000 in
theorem tb_1001 : Cond.methodLinkNest RX11 243 yX1_hasLetter "Shiftgate" ∈ TBg := tbg (i := 1001) (by rfl) rfl
theorem ml_X11_243 : ML RX11 243 yX1_hasLetter := Or.inr ⟨_, tb_1001⟩
set_option maxRecDepth 20000 in
theorem tb_366 : Cond.methodLink RX1 19 yX1_hasLetter ∈ TBg := tbg (i := 366) (by rfl) rfl
theorem ml_X1_19 : ML RX1 19 yX1_hasLetter := Or.inl tb_366
set_option maxRecDepth 20000 in
theorem tb_1006 : Cond.code yX1_given cX1_given 4 (some (.int)) ∈ TBg := tbg (i := 1006) (by rfl) rfl
set_option maxRecDepth 20000 in
theorem tb_1005 : Cond.instanceMethod yX1_given ∈ TBg := tbg (i := 1005) (by rfl) rfl
theorem tb_69 : Cond.selects RX1 yX1_given yX1_given ∈ TBg := tbg (i := 69) (by rfl) rfl
theorem cal_X1_given : CalV RX1 yX1_given (.code yX1_given cX1_given 4 (some (.int))) cX1_given 4 (some (.int)) 2 := ⟨rfl, tb_1006, tb_133, tb_1005, tb_69, by decide +kernel, by decide +kernel, by decide +kernel⟩
set_option maxRecDepth 20000 in
theorem tb_1003 : Cond.methodLinkNest RX11 246 yX1_given "Shiftgate" ∈ TBg := tbg (i := 1003) (by rfl) rfl
theorem ml_X11_246 : ML RX11 246 yX1_given := Or.inr ⟨_, tb_1003⟩
set_option maxRecDepth 20000 in
theorem tb_1010 : Cond.code yX1_give cX1_give 5 none ∈ TBg := tbg (i := 1010) (by rfl) rfl
set_option maxRecDepth 20000 in
theorem tb_1009 : Cond.instanceMethod yX1_give ∈ TBg := tbg (i := 1009) (by rfl) rfl
theorem tb_70 : Cond.selects RX1 yX1_give yX1_give ∈ TBg := tbg (i := 70) (by rfl) rfl
theorem cal_X1_give : CalV RX1 yX1_give (.code yX1_give cX1_give 5 none) cX1_give 5 none 3 := ⟨rfl, tb_1010, tb_133, tb_1009, tb_70, by decide +kernel, by decide +kernel, by decide +kernel⟩
set_option maxRecDepth 20000 in
theorem tb_1007 : Cond.methodLinkNest RX11 249 yX1_give "Shiftgate" ∈ TBg := tbg (i := 1007) (by rfl) rfl
theorem ml_X11_249 : ML RX11 249 yX1_give := Or.inr ⟨_, tb_1007⟩
set_option maxRecDepth 20000 in
theorem tb_1013 : Cond.code yX9_signOf cX9_signOf 1 (some (.char)) ∈ TBg := tbg (i := 1013) (by rfl) rfl
set_option maxRecDepth 20000 in
theorem tb_1012 : Cond.static yX9_signOf ∈ TBg := tbg (i := 1012) (by rfl) rfl
theorem cal_X9_signOf : CalS yX9_signOf (.code yX9_signOf cX9_signOf 1 (some (.char))) cX9_signOf 1 (some (.char)) 1 := ⟨rfl, tb_1013, tb_102, tb_1012, by decide +kernel, by decide +kernel, by decide +kernel⟩
set_option maxRecDepth 20000 in
theorem tb_1011 : Cond.methodLinkNest RX11 252 yX9_signOf "Shiftgate" ∈ TBg := tbg (i := 1011) (by rfl) rfl
theorem ml_X11_252 : ML RX11 252 yX9_signOf := Or.inr ⟨_, tb_1011⟩
set_option maxRecDepth 20000 in
theorem tb_985 : Cond.fieldLinkNest RX11 256 "Shiftgate$Block" "letters" "I" "Shiftgate" ∈ TBg := tbg (i := 985) (by rfl) rfl
theorem fl_X11_256 : FL RX11 256 "Shiftgate$Block" "letters" "I" := Or.inr ⟨_, tb_985⟩
set_option maxRecDepth 20000 in
theorem tb_734 : Cond.code yX9_hasOnlyLetters cX9_hasOnlyLetters 4 (some (.boolean)) ∈ TBg := tbg (i := 734) (by rfl) rfl
set_option maxRecDepth 20000 in
theorem tb_733 : Cond.instanceMethod yX9_hasOnlyLetters ∈ TBg := tbg (i := 733) (by rfl) rfl
theorem tb_30 : Cond.selects RX9 yX9_hasOnlyLetters yX9_hasOnlyLetters ∈ TBg := tbg (i := 30) (by rfl) rfl
theorem cal_X9_hasOnlyLetters : CalV RX9 yX9_hasOnlyLetters (.code yX9_hasOnlyLetters cX9_hasOnlyLetters 4 (some (.boolean))) cX9_hasOnlyLetters 4 (some (.boolean)) 1 := ⟨rfl, tb_734, tb_102, tb_733, tb_30, by decide +kernel, by decide +kernel, by decide +kernel⟩
set_option maxRecDepth 20000 in
theorem tb_731 : Cond.methodLinkNest RX11 173 yX9_hasOnlyLetters "Shiftgate" ∈ TBg := tbg (i := 731) (by rfl) rfl
theorem ml_X11_173 : ML RX11 173 yX9_hasOnlyLetters := Or.inr ⟨_, tb_731⟩
set_option maxRecDepth 20000 in
theorem tb_1023 : Cond.methodLinkNest RX9 43 yX1_given "Shiftgate" ∈ TBg := tbg (i := 1023) (by rfl) rfl
theorem ml_X9_43 : ML RX9 43 yX1_given := Or.inr ⟨_, tb_1023⟩
set_option maxRecDepth 20000 in
theorem tb_1024 : Cond.methodLink RX9 49 yX9_signOf ∈ TBg := tbg (i := 1024) (by rfl) rfl
theorem ml_X9_49 : ML RX9 49 yX9_signOf := Or.inl tb_1024
set_option maxRecDepth 20000 in
theorem tb_1022 : Cond.code yX9_slideBy cX9_slideBy 3 none ∈ TBg := tbg (i := 1022) (by rfl) rfl
set_option maxRecDepth 20000 in
theorem tb_1021 : Cond.instanceMethod yX9_slideBy ∈ TBg := tbg (i := 1021) (by rfl) rfl
theorem tb_71 : Cond.selects RX9 yX9_slideBy yX9_slideBy ∈ TBg := tbg (i := 71) (by rfl) rfl
theorem cal_X9_slideBy : CalV RX9 yX9_slideBy (.code yX9_slideBy cX9_slideBy 3 none) cX9_slideBy 3 none 1 := ⟨rfl, tb_1022, tb_102, tb_1021, tb_71, by decide +kernel, by decide +kernel, by decide +kernel⟩
set_option maxRecDepth 20000 in
theorem tb_1019 : Cond.methodLinkNest RX11 259 yX9_slideBy "Shiftgate" ∈ TBg := tbg (i := 1019) (by rfl) rfl
theorem ml_X11_259 : ML RX11 259 yX9_slideBy := Or.inr ⟨_, tb_1019⟩
set_option maxRecDepth 20000 in
theorem tb_803 : Cond.classLink RX11 193 "java/util/NoSuchElementException" ∈ TBg := tbg (i := 803) (by rfl) rfl
theorem tb_132 : Cond.initialized "java/util/NoSuchElementException" ∈ TBg := tbg (i := 132) (by rfl) rfl
set_option maxRecDepth 20000 in
theorem th_X11_193_197 : ThrWX RX11 193 197 "java/util/NoSuchElementException" 13 ⟨#[0x2a, 0x2b, 0xb7, 0x00, 0x0d, 0xb1]⟩ "java/lang/RuntimeException" ["java/lang/Exception"] := ⟨by decide +kernel, by decide +kernel, tb_803, tb_132, by decide +kernel, by decide +kernel, by decide +kernel, by decide +kernel, by decide +kernel, by decide +kernel⟩
set_option maxRecDepth 20000 in
theorem tb_1029 : Cond.methodLinkNest RX11 263 yX9_at "Shiftgate" ∈ TBg := tbg (i := 1029) (by rfl) rfl
theorem ml_X11_263 : ML RX11 263 yX9_at := Or.inr ⟨_, tb_1029⟩
set_option maxRecDepth 20000 in
theorem tb_548 : Cond.fieldLinkNest RX5 34 "Shiftgate$Graph" "letters" "I" "Shiftgate" ∈ TBg := tbg (i := 548) (by rfl) rfl
theorem fl_X5_34 : FL RX5 34 "Shiftgate$Graph" "letters" "I" := Or.inr ⟨_, tb_548⟩
set_option maxRecDepth 20000 in
theorem tb_1040 : Cond.methodLinkNest RX5 30 yX3_read "Shiftgate" ∈ TBg := tbg (i := 1040) (by rfl) rfl
theorem ml_X5_30 : ML RX5 30 yX3_read := Or.inr ⟨_, tb_1040⟩
set_option maxRecDepth 20000 in
theorem tb_1039 : Cond.code yX5_arrivals cX5_arrivals 3 (some (.int)) ∈ TBg := tbg (i := 1039) (by rfl) rfl
set_option maxRecDepth 20000 in
theorem tb_1038 : Cond.static yX5_arrivals ∈ TBg := tbg (i := 1038) (by rfl) rfl
theorem cal_X5_arrivals : CalS yX5_arrivals (.code yX5_arrivals cX5_arrivals 3 (some (.int))) cX5_arrivals 3 (some (.int)) 3 := ⟨rfl, tb_1039, tb_131, tb_1038, by decide +kernel, by decide +kernel, by decide +kernel⟩
set_option maxRecDepth 20000 in
theorem tb_1037 : Cond.methodLink RX5 38 yX5_arrivals ∈ TBg := tbg (i := 1037) (by rfl) rfl
theorem ml_X5_38 : ML RX5 38 yX5_arrivals := Or.inl tb_1037
set_option maxRecDepth 20000 in
theorem tb_1041 : Cond.methodLink RX5 42 yJ6_bitCount_0f7a4 ∈ TBg := tbg (i := 1041) (by rfl) rfl
theorem ml_X5_42 : ML RX5 42 yJ6_bitCount_0f7a4 := Or.inl tb_1041
set_option maxRecDepth 20000 in
theorem tb_1036 : Cond.code yX5_countPairs cX5_countPairs 4 (some (.int)) ∈ TBg := tbg (i := 1036) (by rfl) rfl
set_option maxRecDepth 20000 in
theorem tb_1035 : Cond.static yX5_countPairs ∈ TBg := tbg (i := 1035) (by rfl) rfl
theorem cal_X5_countPairs : CalS yX5_countPairs (.code yX5_countPairs cX5_countPairs 4 (some (.int))) cX5_countPairs 4 (some (.int)) 2 := ⟨rfl, tb_1036, tb_131, tb_1035, by decide +kernel, by decide +kernel, by decide +kernel⟩
set_option maxRecDepth 20000 in
theorem tb_1034 : Cond.methodLinkNest RX11 266 yX5_countPairs "Shiftgate" ∈ TBg := tbg (i := 1034) (by rfl) rfl
theorem ml_X11_266 : ML RX11 266 yX5_countPairs := Or.inr ⟨_, tb_1034⟩
set_option maxRecDepth 20000 in
theorem tb_1046 : Cond.methodLinkNest RX5 57 yX3_liveSet "Shiftgate" ∈ TBg := tbg (i := 1046) (by rfl) rfl
theorem ml_X5_57 : ML RX5 57 yX3_liveSet := Or.inr ⟨_, tb_1046⟩
set_option maxRecDepth 20000 in
theorem tb_1047 : Cond.methodLink RX5 61 yX5_countPairs ∈ TBg := tbg (i := 1047) (by rfl) rfl
theorem ml_X5_61 : ML RX5 61 yX5_countPairs := Or.inl tb_1047
set_option maxRecDepth 20000 in
theorem tb_1051 : Cond.methodLink RX5 48 yJ7_fill_53178 ∈ TBg := tbg (i := 1051) (by rfl) rfl
theorem ml_X5_48 : ML RX5 48 yJ7_fill_53178 := Or.inl tb_1051
set_option maxRecDepth 20000 in
theorem tb_545 : Cond.fieldLinkNest RX5 54 "Shiftgate$Graph" "states" "I" "Shiftgate" ∈ TBg := tbg (i := 545) (by rfl) rfl
theorem fl_X5_54 : FL RX5 54 "Shiftgate$Graph" "states" "I" := Or.inr ⟨_, tb_545⟩
set_option maxRecDepth 20000 in
theorem tb_1050 : Cond.code yX5_numberPairs cX5_numberPairs 7 (some (.array .int)) ∈ TBg := tbg (i := 1050) (by rfl) rfl
set_option maxRecDepth 20000 in
theorem tb_1049 : Cond.static yX5_numberPairs ∈ TBg := tbg (i := 1049) (by rfl) rfl
theorem cal_X5_numberPairs : CalS yX5_numberPairs (.code yX5_numberPairs cX5_numberPairs 7 (some (.array .int))) cX5_numberPairs 7 (some (.array .int)) 2 := ⟨rfl, tb_1050, tb_131, tb_1049, by decide +kernel, by decide +kernel, by decide +kernel⟩
set_option maxRecDepth 20000 in
theorem tb_1048 : Cond.methodLink RX5 65 yX5_numberPairs ∈ TBg := tbg (i := 1048) (by rfl) rfl
theorem ml_X5_65 : ML RX5 65 yX5_numberPairs := Or.inl tb_1048
set_option maxRecDepth 20000 in
theorem tb_1054 : Cond.code yX5_numberOf cX5_numberOf 4 (some (.int)) ∈ TBg := tbg (i := 1054) (by rfl) rfl
set_option maxRecDepth 20000 in
theorem tb_1053 : Cond.static yX5_numberOf ∈ TBg := tbg (i := 1053) (by rfl) rfl
theorem cal_X5_numberOf : CalS yX5_numberOf (.code yX5_numberOf cX5_numberOf 4 (some (.int))) cX5_numberOf 4 (some (.int)) 3 := ⟨rfl, tb_1054, tb_131, tb_1053, by decide +kernel, by decide +kernel, by decide +kernel⟩
set_option maxRecDepth 20000 in
theorem tb_1052 : Cond.methodLink RX5 69 yX5_numberOf ∈ TBg := tbg (i := 1052) (by rfl) rfl
theorem ml_X5_69 : ML RX5 69 yX5_numberOf := Or.inl tb_1052
set_option maxRecDepth 20000 in
theorem tb_1055 : Cond.methodLinkNest RX5 73 yX1_given "Shiftgate" ∈ TBg := tbg (i := 1055) (by rfl) rfl
theorem ml_X5_73 : ML RX5 73 yX1_given := Or.inr ⟨_, tb_1055⟩
set_option maxRecDepth 20000 in
theorem tb_1056 : Cond.methodLinkNest RX5 78 yX3_targets "Shiftgate" ∈ TBg := tbg (i := 1056) (by rfl) rfl
theorem ml_X5_78 : ML RX5 78 yX3_targets := Or.inr ⟨_, tb_1056⟩
set_option maxRecDepth 20000 in
theorem tb_1059 : Cond.code yX5_drawTo cX5_drawTo 8 none ∈ TBg := tbg (i := 1059) (by rfl) rfl
set_option maxRecDepth 20000 in
theorem tb_1058 : Cond.static yX5_drawTo ∈ TBg := tbg (i := 1058) (by rfl) rfl
theorem cal_X5_drawTo : CalS yX5_drawTo (.code yX5_drawTo cX5_drawTo 8 none) cX5_drawTo 8 none 6 := ⟨rfl, tb_1059, tb_131, tb_1058, by decide +kernel, by decide +kernel, by decide +kernel⟩
set_option maxRecDepth 20000 in
theorem tb_1057 : Cond.methodLink RX5 81 yX5_drawTo ∈ TBg := tbg (i := 1057) (by rfl) rfl
theorem ml_X5_81 : ML RX5 81 yX5_drawTo := Or.inl tb_1057
set_option maxRecDepth 20000 in
theorem tb_1045 : Cond.code yX5_byImage cX5_byImage 10 (some (.object "Shiftgate$Graph")) ∈ TBg := tbg (i := 1045) (by rfl) rfl
set_option maxRecDepth 20000 in
theorem tb_1044 : Cond.static yX5_byImage ∈ TBg := tbg (i := 1044) (by rfl) rfl
theorem cal_X5_byImage : CalS yX5_byImage (.code yX5_byImage cX5_byImage 10 (some (.object "Shiftgate$Graph"))) cX5_byImage 10 (some (.object "Shiftgate$Graph")) 2 := ⟨rfl, tb_1045, tb_131, tb_1044, by decide +kernel, by decide +kernel, by decide +kernel⟩
set_option maxRecDepth 20000 in
theorem tb_1043 : Cond.methodLinkNest RX11 271 yX5_byImage "Shiftgate" ∈ TBg := tbg (i := 1043) (by rfl) rfl
theorem ml_X11_271 : ML RX11 271 yX5_byImage := Or.inr ⟨_, tb_1043⟩
set_option maxRecDepth 20000 in
theorem tb_307 : Cond.fieldLink RX11 279 "Shiftgate" "matrixCount" "I" ∈ TBg := tbg (i := 307) (by rfl) rfl
theorem fl_X11_279 : FL RX11 279 "Shiftgate" "matrixCount" "I" := Or.inl tb_307
set_option maxRecDepth 20000 in
theorem tb_1082 : Cond.methodLinkNest RX11 284 yX8_init "Shiftgate" ∈ TBg := tbg (i := 1082) (by rfl) rfl
theorem ml_X11_284 : ML RX11 284 yX8_init := Or.inr ⟨_, tb_1082⟩
set_option maxRecDepth 20000 in
theorem tb_1083 : Cond.methodLinkNest RX11 285 yX8_reshape "Shiftgate" ∈ TBg := tbg (i := 1083) (by rfl) rfl
theorem ml_X11_285 : ML RX11 285 yX8_reshape := Or.inr ⟨_, tb_1083⟩
set_option maxRecDepth 20000 in
theorem tb_1091 : Cond.code yX11_matrixAt cX11_matrixAt 3 (some (.object "Shiftgate$Table")) ∈ TBg := tbg (i := 1091) (by rfl) rfl
set_option maxRecDepth 20000 in
theorem tb_1090 : Cond.instanceMethod yX11_matrixAt ∈ TBg := tbg (i := 1090) (by rfl) rfl
theorem tb_75 : Cond.selects RX11 yX11_matrixAt yX11_matrixAt ∈ TBg := tbg (i := 75) (by rfl) rfl
theorem cal_X11_matrixAt : CalV RX11 yX11_matrixAt (.code yX11_matrixAt cX11_matrixAt 3 (some (.object "Shiftgate$Table"))) cX11_matrixAt 3 (some (.object "Shiftgate$Table")) 1 := ⟨rfl, tb_1091, tb_101, tb_1090, tb_75, by decide +kernel, by decide +kernel, by decide +kernel⟩
set_option maxRecDepth 20000 in
theorem tb_1088 : Cond.methodLink RX11 288 yX11_matrixAt ∈ TBg := tbg (i := 1088) (by rfl) rfl
theorem ml_X11_288 : ML RX11 288 yX11_matrixAt := Or.inl tb_1088
theorem tb_235 : Cond.fieldLinkNest RX11 309 "Shiftgate$Table" "rows" "I" "Shiftgate" ∈ TBg := tbg (i := 235) (by rfl) rfl
theorem fl_X11_309 : FL RX11 309 "Shiftgate$Table" "rows" "I" := Or.inr ⟨_, tb_235⟩
theorem tb_237 : Cond.fieldLinkNest RX11 437 "Shiftgate$Table" "columns" "I" "Shiftgate" ∈ TBg := tbg (i := 237) (by rfl) rfl
theorem fl_X11_437 : FL RX11 437 "Shiftgate$Table" "columns" "I" := Or.inr ⟨_, tb_237⟩
set_option maxRecDepth 20000 in
theorem tb_1095 : Cond.code yX11_demandCell cX11_demandCell 3 none ∈ TBg := tbg (i := 1095) (by rfl) rfl
set_option maxRecDepth 20000 in
theorem tb_1094 : Cond.static yX11_demandCell ∈ TBg := tbg (i := 1094) (by rfl) rfl
theorem cal_X11_demandCell : CalS yX11_demandCell (.code yX11_demandCell cX11_demandCell 3 none) cX11_demandCell 3 none 3 := ⟨rfl, tb_1095, tb_101, tb_1094, by decide +kernel, by decide +kernel, by decide +kernel⟩
set_option maxRecDepth 20000 in
theorem tb_1093 : Cond.methodLink RX11 292 yX11_demandCell ∈ TBg := tbg (i := 1093) (by rfl) rfl
theorem ml_X11_292 : ML RX11 292 yX11_demandCell := Or.inl tb_1093
set_option maxRecDepth 20000 in
theorem tb_1097 : Cond.methodLinkNest RX11 296 yX8_at "Shiftgate" ∈ TBg := tbg (i := 1097) (by rfl) rfl
theorem ml_X11_296 : ML RX11 296 yX8_at := Or.inr ⟨_, tb_1097⟩
set_option maxRecDepth 20000 in
theorem tb_1098 : Cond.methodLinkNest RX11 299 yX8_write "Shiftgate" ∈ TBg := tbg (i := 1098) (by rfl) rfl
theorem ml_X11_299 : ML RX11 299 yX8_write := Or.inr ⟨_, tb_1098⟩
set_option maxRecDepth 20000 in
theorem tb_1110 : Cond.code yX11_demandSquare cX11_demandSquare 1 none ∈ TBg := tbg (i := 1110) (by rfl) rfl
set_option maxRecDepth 20000 in
theorem tb_1109 : Cond.static yX11_demandSquare ∈ TBg := tbg (i := 1109) (by rfl) rfl
theorem cal_X11_demandSquare : CalS yX11_demandSquare (.code yX11_demandSquare cX11_demandSquare 1 none) cX11_demandSquare 1 none 1 := ⟨rfl, tb_1110, tb_101, tb_1109, by decide +kernel, by decide +kernel, by decide +kernel⟩
set_option maxRecDepth 20000 in
theorem tb_1108 : Cond.methodLink RX11 305 yX11_demandSquare ∈ TBg := tbg (i := 1108) (by rfl) rfl
theorem ml_X11_305 : ML RX11 305 yX11_demandSquare := Or.inl tb_1108
set_option maxRecDepth 20000 in
theorem tb_1116 : Cond.code yX8_splitAt cX8_splitAt 9 none ∈ TBg := tbg (i := 1116) (by rfl) rfl
set_option maxRecDepth 20000 in
theorem tb_1115 : Cond.instanceMethod yX8_splitAt ∈ TBg := tbg (i := 1115) (by rfl) rfl
theorem tb_76 : Cond.selects RX8 yX8_splitAt yX8_splitAt ∈ TBg := tbg (i := 76) (by rfl) rfl
theorem cal_X8_splitAt : CalV RX8 yX8_splitAt (.code yX8_splitAt cX8_splitAt 9 none) cX8_splitAt 9 none 3 := ⟨rfl, tb_1116, tb_106, tb_1115, tb_76, by decide +kernel, by decide +kernel, by decide +kernel⟩
set_option maxRecDepth 20000 in
theorem tb_1113 : Cond.methodLinkNest RX11 314 yX8_splitAt "Shiftgate" ∈ TBg := tbg (i := 1113) (by rfl) rfl
theorem ml_X11_314 : ML RX11 314 yX8_splitAt := Or.inr ⟨_, tb_1113⟩
set_option maxRecDepth 20000 in
theorem tb_1146 : Cond.code yX8_copyFrom cX8_copyFrom 4 none ∈ TBg := tbg (i := 1146) (by rfl) rfl
set_option maxRecDepth 20000 in
theorem tb_1145 : Cond.instanceMethod yX8_copyFrom ∈ TBg := tbg (i := 1145) (by rfl) rfl
theorem tb_82 : Cond.selects RX8 yX8_copyFrom yX8_copyFrom ∈ TBg := tbg (i := 82) (by rfl) rfl
theorem cal_X8_copyFrom : CalV RX8 yX8_copyFrom (.code yX8_copyFrom cX8_copyFrom 4 none) cX8_copyFrom 4 none 1 := ⟨rfl, tb_1146, tb_106, tb_1145, tb_82, by decide +kernel, by decide +kernel, by decide +kernel⟩
set_option maxRecDepth 20000 in
theorem tb_1143 : Cond.methodLinkNest RX0 118 yX8_copyFrom "Shiftgate" ∈ TBg := tbg (i := 1143) (by rfl) rfl
theorem ml_X0_118 : ML RX0 118 yX8_copyFrom := Or.inr ⟨_, tb_1143⟩
set_option maxRecDepth 20000 in
theorem tb_1142 : Cond.code yX0_powerOf cX0_powerOf 7 (some (.object "Shiftgate$Table")) ∈ TBg := tbg (i := 1142) (by rfl) rfl
set_option maxRecDepth 20000 in
theorem tb_1141 : Cond.instanceMethod yX0_powerOf ∈ TBg := tbg (i := 1141) (by rfl) rfl
theorem tb_81 : Cond.selects RX0 yX0_powerOf yX0_powerOf ∈ TBg := tbg (i := 81) (by rfl) rfl
theorem cal_X0_powerOf : CalV RX0 yX0_powerOf (.code yX0_powerOf cX0_powerOf 7 (some (.object "Shiftgate$Table"))) cX0_powerOf 7 (some (.object "Shiftgate$Table")) 2 := ⟨rfl, tb_1142, tb_105, tb_1141, tb_81, by decide +kernel, by decide +kernel, by decide +kernel⟩
set_option maxRecDepth 20000 in
theorem tb_1187 : Cond.methodLinkNest RX11 341 yX0_powerOf "Shiftgate" ∈ TBg := tbg (i := 1187) (by rfl) rfl
theorem ml_X11_341 : ML RX11 341 yX0_powerOf := Or.inr ⟨_, tb_1187⟩
set_option maxRecDepth 20000 in
theorem tb_1188 : Cond.methodLinkNest RX11 345 yX8_diagonalSum "Shiftgate" ∈ TBg := tbg (i := 1188) (by rfl) rfl
theorem ml_X11_345 : ML RX11 345 yX8_diagonalSum := Or.inr ⟨_, tb_1188⟩
set_option maxRecDepth 20000 in
theorem tb_1266 : Cond.code yX7_lengthOf cX7_lengthOf 2 (some (.int)) ∈ TBg := tbg (i := 1266) (by rfl) rfl
set_option maxRecDepth 20000 in
theorem tb_1265 : Cond.instanceMethod yX7_lengthOf ∈ TBg := tbg (i := 1265) (by rfl) rfl
theorem tb_92 : Cond.selects RX7 yX7_lengthOf yX7_lengthOf ∈ TBg := tbg (i := 92) (by rfl) rfl
theorem cal_X7_lengthOf : CalV RX7 yX7_lengthOf (.code yX7_lengthOf cX7_lengthOf 2 (some (.int))) cX7_lengthOf 2 (some (.int)) 1 := ⟨rfl, tb_1266, tb_108, tb_1265, tb_92, by decide +kernel, by decide +kernel, by decide +kernel⟩
set_option maxRecDepth 20000 in
theorem tb_1263 : Cond.methodLinkNest RX11 387 yX7_lengthOf "Shiftgate" ∈ TBg := tbg (i := 1263) (by rfl) rfl
theorem ml_X11_387 : ML RX11 387 yX7_lengthOf := Or.inr ⟨_, tb_1263⟩
theorem tb_152 : Cond.fieldLinkNest RX7 24 "Shiftgate$Tape" "size" "I" "Shiftgate" ∈ TBg := tbg (i := 152) (by rfl) rfl
theorem fl_X7_24 : FL RX7 24 "Shiftgate$Tape" "size" "I" := Or.inr ⟨_, tb_152⟩
set_option maxRecDepth 20000 in
theorem tb_1271 : Cond.methodLinkNest RX7 30 yX9_letterAt "Shiftgate" ∈ TBg := tbg (i := 1271) (by rfl) rfl
theorem ml_X7_30 : ML RX7 30 yX9_letterAt := Or.inr ⟨_, tb_1271⟩
set_option maxRecDepth 20000 in
theorem tb_1270 : Cond.code yX7_learn cX7_learn 5 none ∈ TBg := tbg (i := 1270) (by rfl) rfl
set_option maxRecDepth 20000 in
theorem tb_1269 : Cond.instanceMethod yX7_learn ∈ TBg := tbg (i := 1269) (by rfl) rfl
theorem tb_93 : Cond.selects RX7 yX7_learn yX7_learn ∈ TBg := tbg (i := 93) (by rfl) rfl
theorem cal_X7_learn : CalV RX7 yX7_learn (.code yX7_learn cX7_learn 5 none) cX7_learn 5 none 2 := ⟨rfl, tb_1270, tb_108, tb_1269, tb_93, by decide +kernel, by decide +kernel, by decide +kernel⟩
set_option maxRecDepth 20000 in
theorem tb_1267 : Cond.methodLinkNest RX11 390 yX7_learn "Shiftgate" ∈ TBg := tbg (i := 1267) (by rfl) rfl
theorem ml_X11_390 : ML RX11 390 yX7_learn := Or.inr ⟨_, tb_1267⟩
set_option maxRecDepth 20000 in
theorem tb_1284 : Cond.methodLink RX7 34 yJ7_fill_53178 ∈ TBg := tbg (i := 1284) (by rfl) rfl
theorem ml_X7_34 : ML RX7 34 yJ7_fill_53178 := Or.inl tb_1284
set_option maxRecDepth 20000 in
theorem tb_1289 : Cond.methodLink RX7 44 yX7_lengthOf ∈ TBg := tbg (i := 1289) (by rfl) rfl
theorem ml_X7_44 : ML RX7 44 yX7_lengthOf := Or.inl tb_1289
set_option maxRecDepth 20000 in
theorem tb_1288 : Cond.code yX7_replace cX7_replace 6 (some (.int)) ∈ TBg := tbg (i := 1288) (by rfl) rfl
set_option maxRecDepth 20000 in
theorem tb_1287 : Cond.instanceMethod yX7_replace ∈ TBg := tbg (i := 1287) (by rfl) rfl
theorem tb_96 : Cond.selects RX7 yX7_replace yX7_replace ∈ TBg := tbg (i := 96) (by rfl) rfl
theorem cal_X7_replace : CalV RX7 yX7_replace (.code yX7_replace cX7_replace 6 (some (.int))) cX7_replace 6 (some (.int)) 2 := ⟨rfl, tb_1288, tb_108, tb_1287, tb_96, by decide +kernel, by decide +kernel, by decide +kernel⟩
set_option maxRecDepth 20000 in
theorem tb_1285 : Cond.methodLink RX7 40 yX7_replace ∈ TBg := tbg (i := 1285) (by rfl) rfl
theorem ml_X7_40 : ML RX7 40 yX7_replace := Or.inl tb_1285
set_option maxRecDepth 20000 in
theorem tb_1283 : Cond.code yX7_grow cX7_grow 5 (some (.int)) ∈ TBg := tbg (i := 1283) (by rfl) rfl
set_option maxRecDepth 20000 in
theorem tb_1282 : Cond.instanceMethod yX7_grow ∈ TBg := tbg (i := 1282) (by rfl) rfl
theorem tb_95 : Cond.selects RX7 yX7_grow yX7_grow ∈ TBg := tbg (i := 95) (by rfl) rfl
theorem cal_X7_grow : CalV RX7 yX7_grow (.code yX7_grow cX7_grow 5 (some (.int))) cX7_grow 5 (some (.int)) 0 := ⟨rfl, tb_1283, tb_108, tb_1282, tb_95, by decide +kernel, by decide +kernel, by decide +kernel⟩
set_option maxRecDepth 20000 in
theorem tb_1280 : Cond.methodLink RX7 47 yX7_grow ∈ TBg := tbg (i := 1280) (by rfl) rfl
theorem ml_X7_47 : ML RX7 47 yX7_grow := Or.inl tb_1280
set_option maxRecDepth 20000 in
theorem tb_1293 : Cond.code yX7_wordAt cX7_wordAt 5 (some (.int)) ∈ TBg := tbg (i := 1293) (by rfl) rfl
set_option maxRecDepth 20000 in
theorem tb_1292 : Cond.instanceMethod yX7_wordAt ∈ TBg := tbg (i := 1292) (by rfl) rfl
theorem tb_97 : Cond.selects RX7 yX7_wordAt yX7_wordAt ∈ TBg := tbg (i := 97) (by rfl) rfl
theorem cal_X7_wordAt : CalV RX7 yX7_wordAt (.code yX7_wordAt cX7_wordAt 5 (some (.int))) cX7_wordAt 5 (some (.int)) 2 := ⟨rfl, tb_1293, tb_108, tb_1292, tb_97, by decide +kernel, by decide +kernel, by decide +kernel⟩
set_option maxRecDepth 20000 in
theorem tb_1290 : Cond.methodLink RX7 51 yX7_wordAt ∈ TBg := tbg (i := 1290) (by rfl) rfl
theorem ml_X7_51 : ML RX7 51 yX7_wordAt := Or.inl tb_1290
set_option maxRecDepth 20000 in
theorem tb_1297 : Cond.code yX7_isFound cX7_isFound 4 (some (.boolean)) ∈ TBg := tbg (i := 1297) (by rfl) rfl
set_option maxRecDepth 20000 in
theorem tb_1296 : Cond.instanceMethod yX7_isFound ∈ TBg := tbg (i := 1296) (by rfl) rfl
theorem tb_98 : Cond.selects RX7 yX7_isFound yX7_isFound ∈ TBg := tbg (i := 98) (by rfl) rfl
theorem cal_X7_isFound : CalV RX7 yX7_isFound (.code yX7_isFound cX7_isFound 4 (some (.boolean))) cX7_isFound 4 (some (.boolean)) 2 := ⟨rfl, tb_1297, tb_108, tb_1296, tb_98, by decide +kernel, by decide +kernel, by decide +kernel⟩
set_option maxRecDepth 20000 in
theorem tb_1294 : Cond.methodLink RX7 54 yX7_isFound ∈ TBg := tbg (i := 1294) (by rfl) rfl
theorem ml_X7_54 : ML RX7 54 yX7_isFound := Or.inl tb_1294
set_option maxRecDepth 20000 in
theorem tb_1279 : Cond.code yX7_countUnlike cX7_countUnlike 6 (some (.int)) ∈ TBg := tbg (i := 1279) (by rfl) rfl
set_option maxRecDepth 20000 in
theorem tb_1278 : Cond.instanceMethod yX7_countUnlike ∈ TBg := tbg (i := 1278) (by rfl) rfl
theorem tb_94 : Cond.selects RX7 yX7_countUnlike yX7_countUnlike ∈ TBg := tbg (i := 94) (by rfl) rfl
theorem cal_X7_countUnlike : CalV RX7 yX7_countUnlike (.code yX7_countUnlike cX7_countUnlike 6 (some (.int))) cX7_countUnlike 6 (some (.int)) 1 := ⟨rfl, tb_1279, tb_108, tb_1278, tb_94, by decide +kernel, by decide +kernel, by decide +kernel⟩
set_option maxRecDepth 20000 in
theorem tb_1276 : Cond.methodLinkNest RX11 394 yX7_countUnlike "Shiftgate" ∈ TBg := tbg (i := 1276) (by rfl) rfl
theorem ml_X11_394 : ML RX11 394 yX7_countUnlike := Or.inr ⟨_, tb_1276⟩
set_option maxRecDepth 20000 in
theorem tb_1370 : Cond.constantLong RX11 403 (31) ∈ TBg := tbg (i := 1370) (by rfl) rfl
set_option maxRecDepth 20000 in
theorem tb_837 : Cond.methodLink RX3 29 yJ6_bitCount_0f7a4 ∈ TBg := tbg (i := 837) (by rfl) rfl
theorem ml_X3_29 : ML RX3 29 yJ6_bitCount_0f7a4 := Or.inl tb_837
set_option maxRecDepth 20000 in
theorem tb_1374 : Cond.code yX3_countEdges cX3_countEdges 3 (some (.int)) ∈ TBg := tbg (i := 1374) (by rfl) rfl
set_option maxRecDepth 20000 in
theorem tb_1373 : Cond.instanceMethod yX3_countEdges ∈ TBg := tbg (i := 1373) (by rfl) rfl
theorem tb_99 : Cond.selects RX3 yX3_countEdges yX3_countEdges ∈ TBg := tbg (i := 99) (by rfl) rfl
theorem cal_X3_countEdges : CalV RX3 yX3_countEdges (.code yX3_countEdges cX3_countEdges 3 (some (.int))) cX3_countEdges 3 (some (.int)) 0 := ⟨rfl, tb_1374, tb_129, tb_1373, tb_99, by decide +kernel, by decide +kernel, by decide +kernel⟩
set_option maxRecDepth 20000 in
theorem tb_1371 : Cond.methodLinkNest RX11 405 yX3_countEdges "Shiftgate" ∈ TBg := tbg (i := 1371) (by rfl) rfl
theorem ml_X11_405 : ML RX11 405 yX3_countEdges := Or.inr ⟨_, tb_1371⟩
set_option maxRecDepth 20000 in
theorem tb_350 : Cond.methodLink RX9 27 yX9_isSign ∈ TBg := tbg (i := 350) (by rfl) rfl
theorem ml_X9_27 : ML RX9 27 yX9_isSign := Or.inl tb_350
set_option maxRecDepth 20000 in
theorem tb_345 : Cond.code yX9_isInBounds cX9_isInBounds 3 (some (.boolean)) ∈ TBg := tbg (i := 345) (by rfl) rfl
set_option maxRecDepth 20000 in
theorem tb_344 : Cond.instanceMethod yX9_isInBounds ∈ TBg := tbg (i := 344) (by rfl) rfl
theorem tb_0 : Cond.selects RX9 yX9_isInBounds yX9_isInBounds ∈ TBg := tbg (i := 0) (by rfl) rfl
theorem cal_X9_isInBounds : CalV RX9 yX9_isInBounds (.code yX9_isInBounds cX9_isInBounds 3 (some (.boolean))) cX9_isInBounds 3 (some (.boolean)) 0 := ⟨rfl, tb_345, tb_102, tb_344, tb_0, by decide +kernel, by decide +kernel, by decide +kernel⟩
set_option maxRecDepth 20000 in
theorem tb_342 : Cond.methodLinkNest RX11 418 yX9_isInBounds "Shiftgate" ∈ TBg := tbg (i := 342) (by rfl) rfl
theorem ml_X11_418 : ML RX11 418 yX9_isInBounds := Or.inr ⟨_, tb_342⟩
set_option maxRecDepth 20000 in
theorem tb_360 : Cond.code yX3_isInBounds cX3_isInBounds 1 (some (.boolean)) ∈ TBg := tbg (i := 360) (by rfl) rfl
set_option maxRecDepth 20000 in
theorem tb_358 : Cond.instanceMethod yX3_isInBounds ∈ TBg := tbg (i := 358) (by rfl) rfl
theorem tb_2 : Cond.selects RX3 yX3_isInBounds yX3_isInBounds ∈ TBg := tbg (i := 2) (by rfl) rfl
theorem cal_X3_isInBounds : CalV RX3 yX3_isInBounds (.code yX3_isInBounds cX3_isInBounds 1 (some (.boolean))) cX3_isInBounds 1 (some (.boolean)) 0 := ⟨rfl, tb_360, tb_129, tb_358, tb_2, by decide +kernel, by decide +kernel, by decide +kernel⟩
set_option maxRecDepth 20000 in
theorem tb_356 : Cond.methodLinkNest RX11 421 yX3_isInBounds "Shiftgate" ∈ TBg := tbg (i := 356) (by rfl) rfl
theorem ml_X11_421 : ML RX11 421 yX3_isInBounds := Or.inr ⟨_, tb_356⟩
set_option maxRecDepth 20000 in
theorem tb_365 : Cond.code yX1_isInBounds cX1_isInBounds 3 (some (.boolean)) ∈ TBg := tbg (i := 365) (by rfl) rfl
set_option maxRecDepth 20000 in
theorem tb_363 : Cond.instanceMethod yX1_isInBounds ∈ TBg := tbg (i := 363) (by rfl) rfl
theorem tb_3 : Cond.selects RX1 yX1_isInBounds yX1_isInBounds ∈ TBg := tbg (i := 3) (by rfl) rfl
theorem cal_X1_isInBounds : CalV RX1 yX1_isInBounds (.code yX1_isInBounds cX1_isInBounds 3 (some (.boolean))) cX1_isInBounds 3 (some (.boolean)) 0 := ⟨rfl, tb_365, tb_133, tb_363, tb_3, by decide +kernel, by decide +kernel, by decide +kernel⟩
set_option maxRecDepth 20000 in
theorem tb_361 : Cond.methodLinkNest RX11 422 yX1_isInBounds "Shiftgate" ∈ TBg := tbg (i := 361) (by rfl) rfl
theorem ml_X11_422 : ML RX11 422 yX1_isInBounds := Or.inr ⟨_, tb_361⟩
set_option maxRecDepth 20000 in
theorem tb_374 : Cond.constantLong RX8 32 (9) ∈ TBg := tbg (i := 374) (by rfl) rfl
set_option maxRecDepth 20000 in
theorem tb_373 : Cond.code yX8_isInBounds cX8_isInBounds 3 (some (.boolean)) ∈ TBg := tbg (i := 373) (by rfl) rfl
set_option maxRecDepth 20000 in
theorem tb_372 : Cond.instanceMethod yX8_isInBounds ∈ TBg := tbg (i := 372) (by rfl) rfl
theorem tb_5 : Cond.selects RX8 yX8_isInBounds yX8_isInBounds ∈ TBg := tbg (i := 5) (by rfl) rfl
theorem cal_X8_isInBounds : CalV RX8 yX8_isInBounds (.code yX8_isInBounds cX8_isInBounds 3 (some (.boolean))) cX8_isInBounds 3 (some (.boolean)) 0 := ⟨rfl, tb_373, tb_106, tb_372, tb_5, by decide +kernel, by decide +kernel, by decide +kernel⟩
set_option maxRecDepth 20000 in
theorem tb_370 : Cond.methodLinkNest RX11 423 yX8_isInBounds "Shiftgate" ∈ TBg := tbg (i := 370) (by rfl) rfl
theorem ml_X11_423 : ML RX11 423 yX8_isInBounds := Or.inr ⟨_, tb_370⟩
set_option maxRecDepth 20000 in
theorem tb_487 : Cond.code yX11_type cX11_type 2 (some (.int)) ∈ TBg := tbg (i := 487) (by rfl) rfl
set_option maxRecDepth 20000 in
theorem tb_485 : Cond.instanceMethod yX11_type ∈ TBg := tbg (i := 485) (by rfl) rfl
set_option maxRecDepth 20000 in
theorem tb_486 : Cond.selects RX11 yX11_type yX11_type ∈ TBg := tbg (i := 486) (by rfl) rfl
theorem cal_X11_type : CalV RX11 yX11_type (.code yX11_type cX11_type 2 (some (.int))) cX11_type 2 (some (.int)) 1 := ⟨rfl, tb_487, tb_101, tb_485, tb_486, by decide +kernel, by decide +kernel, by decide +kernel⟩
set_option maxRecDepth 20000 in
theorem tb_484 : Cond.methodLink RL 9 yX11_type ∈ TBg := tbg (i := 484) (by rfl) rfl
theorem ml_L_9 : ML RL 9 yX11_type := Or.inl tb_484
set_option maxRecDepth 20000 in
theorem tb_528 : Cond.code yX11_shift cX11_shift 3 (some (.int)) ∈ TBg := tbg (i := 528) (by rfl) rfl
set_option maxRecDepth 20000 in
theorem tb_526 : Cond.instanceMethod yX11_shift ∈ TBg := tbg (i := 526) (by rfl) rfl
set_option maxRecDepth 20000 in
theorem tb_527 : Cond.selects RX11 yX11_shift yX11_shift ∈ TBg := tbg (i := 527) (by rfl) rfl
theorem cal_X11_shift : CalV RX11 yX11_shift (.code yX11_shift cX11_shift 3 (some (.int))) cX11_shift 3 (some (.int)) 2 := ⟨rfl, tb_528, tb_101, tb_526, tb_527, by decide +kernel, by decide +kernel, by decide +kernel⟩
set_option maxRecDepth 20000 in
theorem tb_525 : Cond.methodLink RL 15 yX11_shift ∈ TBg := tbg (i := 525) (by rfl) rfl
theorem ml_L_15 : ML RL 15 yX11_shift := Or.inl tb_525
set_option maxRecDepth 20000 in
theorem tb_614 : Cond.code yX11_forbid cX11_forbid 3 (some (.int)) ∈ TBg := tbg (i := 614) (by rfl) rfl
set_option maxRecDepth 20000 in
theorem tb_612 : Cond.instanceMethod yX11_forbid ∈ TBg := tbg (i := 612) (by rfl) rfl
set_option maxRecDepth 20000 in
theorem tb_613 : Cond.selects RX11 yX11_forbid yX11_forbid ∈ TBg := tbg (i := 613) (by rfl) rfl
theorem cal_X11_forbid : CalV RX11 yX11_forbid (.code yX11_forbid cX11_forbid 3 (some (.int))) cX11_forbid 3 (some (.int)) 1 := ⟨rfl, tb_614, tb_101, tb_612, tb_613, by decide +kernel, by decide +kernel, by decide +kernel⟩
set_option maxRecDepth 20000 in
theorem tb_611 : Cond.methodLink RL 23 yX11_forbid ∈ TBg := tbg (i := 611) (by rfl) rfl
theorem ml_L_23 : ML RL 23 yX11_forbid := Or.inl tb_611
set_option maxRecDepth 20000 in
theorem tb_664 : Cond.code yX11_gaps cX11_gaps 2 (some (.int)) ∈ TBg := tbg (i := 664) (by rfl) rfl
set_option maxRecDepth 20000 in
theorem tb_662 : Cond.instanceMethod yX11_gaps ∈ TBg := tbg (i := 662) (by rfl) rfl
set_option maxRecDepth 20000 in
theorem tb_663 : Cond.selects RX11 yX11_gaps yX11_gaps ∈ TBg := tbg (i := 663) (by rfl) rfl
theorem cal_X11_gaps : CalV RX11 yX11_gaps (.code yX11_gaps cX11_gaps 2 (some (.int))) cX11_gaps 2 (some (.int)) 1 := ⟨rfl, tb_664, tb_101, tb_662, tb_663, by decide +kernel, by decide +kernel, by decide +kernel⟩
set_option maxRecDepth 20000 in
theorem tb_661 : Cond.methodLink RL 27 yX11_gaps ∈ TBg := tbg (i := 661) (by rfl) rfl
theorem ml_L_27 : ML RL 27 yX11_gaps := Or.inl tb_661
set_option maxRecDepth 20000 in
theorem tb_672 : Cond.code yX11_states cX11_states 2 (some (.int)) ∈ TBg := tbg (i := 672) (by rfl) rfl
set_option maxRecDepth 20000 in
theorem tb_670 : Cond.instanceMethod yX11_states ∈ TBg := tbg (i := 670) (by rfl) rfl
set_option maxRecDepth 20000 in
theorem tb_671 : Cond.selects RX11 yX11_states yX11_states ∈ TBg := tbg (i := 671) (by rfl) rfl
theorem cal_X11_states : CalV RX11 yX11_states (.code yX11_states cX11_states 2 (some (.int))) cX11_states 2 (some (.int)) 1 := ⟨rfl, tb_672, tb_101, tb_670, tb_671, by decide +kernel, by decide +kernel, by decide +kernel⟩
set_option maxRecDepth 20000 in
theorem tb_669 : Cond.methodLink RL 30 yX11_states ∈ TBg := tbg (i := 669) (by rfl) rfl
theorem ml_L_30 : ML RL 30 yX11_states := Or.inl tb_669
set_option maxRecDepth 20000 in
theorem tb_700 : Cond.code yX11_words cX11_words 4 (some (.int)) ∈ TBg := tbg (i := 700) (by rfl) rfl
set_option maxRecDepth 20000 in
theorem tb_698 : Cond.instanceMethod yX11_words ∈ TBg := tbg (i := 698) (by rfl) rfl
set_option maxRecDepth 20000 in
theorem tb_699 : Cond.selects RX11 yX11_words yX11_words ∈ TBg := tbg (i := 699) (by rfl) rfl
theorem cal_X11_words : CalV RX11 yX11_words (.code yX11_words cX11_words 4 (some (.int))) cX11_words 4 (some (.int)) 2 := ⟨rfl, tb_700, tb_101, tb_698, tb_699, by decide +kernel, by decide +kernel, by decide +kernel⟩
set_option maxRecDepth 20000 in
theorem tb_697 : Cond.methodLink RL 33 yX11_words ∈ TBg := tbg (i := 697) (by rfl) rfl
theorem ml_L_33 : ML RL 33 yX11_words := Or.inl tb_697
set_option maxRecDepth 20000 in
theorem tb_743 : Cond.code yX11_points cX11_points 4 (some (.int)) ∈ TBg := tbg (i := 743) (by rfl) rfl
set_option maxRecDepth 20000 in
theorem tb_741 : Cond.instanceMethod yX11_points ∈ TBg := tbg (i := 741) (by rfl) rfl
set_option maxRecDepth 20000 in
theorem tb_742 : Cond.selects RX11 yX11_points yX11_points ∈ TBg := tbg (i := 742) (by rfl) rfl
theorem cal_X11_points : CalV RX11 yX11_points (.code yX11_points cX11_points 4 (some (.int))) cX11_points 4 (some (.int)) 2 := ⟨rfl, tb_743, tb_101, tb_741, tb_742, by decide +kernel, by decide +kernel, by decide +kernel⟩
set_option maxRecDepth 20000 in
theorem tb_740 : Cond.methodLink RL 40 yX11_points ∈ TBg := tbg (i := 740) (by rfl) rfl
theorem ml_L_40 : ML RL 40 yX11_points := Or.inl tb_740
set_option maxRecDepth 20000 in
theorem tb_763 : Cond.code yX11_parts cX11_parts 2 (some (.int)) ∈ TBg := tbg (i := 763) (by rfl) rfl
set_option maxRecDepth 20000 in
theorem tb_761 : Cond.instanceMethod yX11_parts ∈ TBg := tbg (i := 761) (by rfl) rfl
set_option maxRecDepth 20000 in
theorem tb_762 : Cond.selects RX11 yX11_parts yX11_parts ∈ TBg := tbg (i := 762) (by rfl) rfl
theorem cal_X11_parts : CalV RX11 yX11_parts (.code yX11_parts cX11_parts 2 (some (.int))) cX11_parts 2 (some (.int)) 1 := ⟨rfl, tb_763, tb_101, tb_761, tb_762, by decide +kernel, by decide +kernel, by decide +kernel⟩
set_option maxRecDepth 20000 in
theorem tb_760 : Cond.methodLink RL 43 yX11_parts ∈ TBg := tbg (i := 760) (by rfl) rfl
theorem ml_L_43 : ML RL 43 yX11_parts := Or.inl tb_760
set_option maxRecDepth 20000 in
theorem tb_822 : Cond.code yX11_isIrreducible cX11_isIrreducible 2 (some (.boolean)) ∈ TBg := tbg (i := 822) (by rfl) rfl
set_option maxRecDepth 20000 in
theorem tb_820 : Cond.instanceMethod yX11_isIrreducible ∈ TBg := tbg (i := 820) (by rfl) rfl
set_option maxRecDepth 20000 in
theorem tb_821 : Cond.selects RX11 yX11_isIrreducible yX11_isIrreducible ∈ TBg := tbg (i := 821) (by rfl) rfl
theorem cal_X11_isIrreducible : CalV RX11 yX11_isIrreducible (.code yX11_isIrreducible cX11_isIrreducible 2 (some (.boolean))) cX11_isIrreducible 2 (some (.boolean)) 1 := ⟨rfl, tb_822, tb_101, tb_820, tb_821, by decide +kernel, by decide +kernel, by decide +kernel⟩
set_option maxRecDepth 20000 in
theorem tb_819 : Cond.methodLink RL 49 yX11_isIrreducible ∈ TBg := tbg (i := 819) (by rfl) rfl
theorem ml_L_49 : ML RL 49 yX11_isIrreducible := Or.inl tb_819
set_option maxRecDepth 20000 in
theorem tb_841 : Cond.code yX11_futures cX11_futures 3 (some (.int)) ∈ TBg := tbg (i := 841) (by rfl) rfl
set_option maxRecDepth 20000 in
theorem tb_839 : Cond.instanceMethod yX11_futures ∈ TBg := tbg (i := 839) (by rfl) rfl
set_option maxRecDepth 20000 in
theorem tb_840 : Cond.selects RX11 yX11_futures yX11_futures ∈ TBg := tbg (i := 840) (by rfl) rfl
theorem cal_X11_futures : CalV RX11 yX11_futures (.code yX11_futures cX11_futures 3 (some (.int))) cX11_futures 3 (some (.int)) 1 := ⟨rfl, tb_841, tb_101, tb_839, tb_840, by decide +kernel, by decide +kernel, by decide +kernel⟩
set_option maxRecDepth 20000 in
theorem tb_838 : Cond.methodLink RL 55 yX11_futures ∈ TBg := tbg (i := 838) (by rfl) rfl
theorem ml_L_55 : ML RL 55 yX11_futures := Or.inl tb_838
set_option maxRecDepth 20000 in
theorem tb_882 : Cond.code yX11_areSame cX11_areSame 6 (some (.boolean)) ∈ TBg := tbg (i := 882) (by rfl) rfl
set_option maxRecDepth 20000 in
theorem tb_880 : Cond.instanceMethod yX11_areSame ∈ TBg := tbg (i := 880) (by rfl) rfl
set_option maxRecDepth 20000 in
theorem tb_881 : Cond.selects RX11 yX11_areSame yX11_areSame ∈ TBg := tbg (i := 881) (by rfl) rfl
theorem cal_X11_areSame : CalV RX11 yX11_areSame (.code yX11_areSame cX11_areSame 6 (some (.boolean))) cX11_areSame 6 (some (.boolean)) 2 := ⟨rfl, tb_882, tb_101, tb_880, tb_881, by decide +kernel, by decide +kernel, by decide +kernel⟩
set_option maxRecDepth 20000 in
theorem tb_879 : Cond.methodLink RL 58 yX11_areSame ∈ TBg := tbg (i := 879) (by rfl) rfl
theorem ml_L_58 : ML RL 58 yX11_areSame := Or.inl tb_879
set_option maxRecDepth 20000 in
theorem tb_903 : Cond.code yX11_series cX11_series 4 (some (.long)) ∈ TBg := tbg (i := 903) (by rfl) rfl
set_option maxRecDepth 20000 in
theorem tb_901 : Cond.instanceMethod yX11_series ∈ TBg := tbg (i := 901) (by rfl) rfl
set_option maxRecDepth 20000 in
theorem tb_902 : Cond.selects RX11 yX11_series yX11_series ∈ TBg := tbg (i := 902) (by rfl) rfl
theorem cal_X11_series : CalV RX11 yX11_series (.code yX11_series cX11_series 4 (some (.long))) cX11_series 4 (some (.long)) 2 := ⟨rfl, tb_903, tb_101, tb_901, tb_902, by decide +kernel, by decide +kernel, by decide +kernel⟩
set_option maxRecDepth 20000 in
theorem tb_900 : Cond.methodLink RL 62 yX11_series ∈ TBg := tbg (i := 900) (by rfl) rfl
theorem ml_L_62 : ML RL 62 yX11_series := Or.inl tb_900
set_option maxRecDepth 20000 in
theorem tb_978 : Cond.code yX11_code cX11_code 2 (some (.int)) ∈ TBg := tbg (i := 978) (by rfl) rfl
set_option maxRecDepth 20000 in
theorem tb_976 : Cond.instanceMethod yX11_code ∈ TBg := tbg (i := 976) (by rfl) rfl
set_option maxRecDepth 20000 in
theorem tb_977 : Cond.selects RX11 yX11_code yX11_code ∈ TBg := tbg (i := 977) (by rfl) rfl
theorem cal_X11_code : CalV RX11 yX11_code (.code yX11_code cX11_code 2 (some (.int))) cX11_code 2 (some (.int)) 1 := ⟨rfl, tb_978, tb_101, tb_976, tb_977, by decide +kernel, by decide +kernel, by decide +kernel⟩
set_option maxRecDepth 20000 in
theorem tb_975 : Cond.methodLink RL 70 yX11_code ∈ TBg := tbg (i := 975) (by rfl) rfl
theorem ml_L_70 : ML RL 70 yX11_code := Or.inl tb_975
set_option maxRecDepth 20000 in
theorem tb_995 : Cond.code yX11_set cX11_set 10 (some (.char)) ∈ TBg := tbg (i := 995) (by rfl) rfl
set_option maxRecDepth 20000 in
theorem tb_993 : Cond.instanceMethod yX11_set ∈ TBg := tbg (i := 993) (by rfl) rfl
set_option maxRecDepth 20000 in
theorem tb_994 : Cond.selects RX11 yX11_set yX11_set ∈ TBg := tbg (i := 994) (by rfl) rfl
theorem cal_X11_set : CalV RX11 yX11_set (.code yX11_set cX11_set 10 (some (.char))) cX11_set 10 (some (.char)) 4 := ⟨rfl, tb_995, tb_101, tb_993, tb_994, by decide +kernel, by decide +kernel, by decide +kernel⟩
set_option maxRecDepth 20000 in
theorem tb_992 : Cond.methodLink RL 73 yX11_set ∈ TBg := tbg (i := 992) (by rfl) rfl
theorem ml_L_73 : ML RL 73 yX11_set := Or.inl tb_992
set_option maxRecDepth 20000 in
theorem tb_1017 : Cond.code yX11_slide cX11_slide 3 (some (.int)) ∈ TBg := tbg (i := 1017) (by rfl) rfl
set_option maxRecDepth 20000 in
theorem tb_1015 : Cond.instanceMethod yX11_slide ∈ TBg := tbg (i := 1015) (by rfl) rfl
set_option maxRecDepth 20000 in
theorem tb_1016 : Cond.selects RX11 yX11_slide yX11_slide ∈ TBg := tbg (i := 1016) (by rfl) rfl
theorem cal_X11_slide : CalV RX11 yX11_slide (.code yX11_slide cX11_slide 3 (some (.int))) cX11_slide 3 (some (.int)) 1 := ⟨rfl, tb_1017, tb_101, tb_1015, tb_1016, by decide +kernel, by decide +kernel, by decide +kernel⟩
set_option maxRecDepth 20000 in
theorem tb_1014 : Cond.methodLink RL 77 yX11_slide ∈ TBg := tbg (i := 1014) (by rfl) rfl
theorem ml_L_77 : ML RL 77 yX11_slide := Or.inl tb_1014
set_option maxRecDepth 20000 in
theorem tb_1028 : Cond.code yX11_signAt cX11_signAt 2 (some (.char)) ∈ TBg := tbg (i := 1028) (by rfl) rfl
set_option maxRecDepth 20000 in
theorem tb_1026 : Cond.instanceMethod yX11_signAt ∈ TBg := tbg (i := 1026) (by rfl) rfl
set_option maxRecDepth 20000 in
theorem tb_1027 : Cond.selects RX11 yX11_signAt yX11_signAt ∈ TBg := tbg (i := 1027) (by rfl) rfl
theorem cal_X11_signAt : CalV RX11 yX11_signAt (.code yX11_signAt cX11_signAt 2 (some (.char))) cX11_signAt 2 (some (.char)) 1 := ⟨rfl, tb_1028, tb_101, tb_1026, tb_1027, by decide +kernel, by decide +kernel, by decide +kernel⟩
set_option maxRecDepth 20000 in
theorem tb_1025 : Cond.methodLink RL 80 yX11_signAt ∈ TBg := tbg (i := 1025) (by rfl) rfl
theorem ml_L_80 : ML RL 80 yX11_signAt := Or.inl tb_1025
set_option maxRecDepth 20000 in
theorem tb_1033 : Cond.code yX11_image cX11_image 6 (some (.int)) ∈ TBg := tbg (i := 1033) (by rfl) rfl
set_option maxRecDepth 20000 in
theorem tb_1031 : Cond.instanceMethod yX11_image ∈ TBg := tbg (i := 1031) (by rfl) rfl
set_option maxRecDepth 20000 in
theorem tb_1032 : Cond.selects RX11 yX11_image yX11_image ∈ TBg := tbg (i := 1032) (by rfl) rfl
theorem cal_X11_image : CalV RX11 yX11_image (.code yX11_image cX11_image 6 (some (.int))) cX11_image 6 (some (.int)) 2 := ⟨rfl, tb_1033, tb_101, tb_1031, tb_1032, by decide +kernel, by decide +kernel, by decide +kernel⟩
set_option maxRecDepth 20000 in
theorem tb_1030 : Cond.methodLink RL 84 yX11_image ∈ TBg := tbg (i := 1030) (by rfl) rfl
theorem ml_L_84 : ML RL 84 yX11_image := Or.inl tb_1030
set_option maxRecDepth 20000 in
theorem tb_1080 : Cond.code yX11_matrix cX11_matrix 4 (some (.int)) ∈ TBg := tbg (i := 1080) (by rfl) rfl
set_option maxRecDepth 20000 in
theorem tb_1078 : Cond.instanceMethod yX11_matrix ∈ TBg := tbg (i := 1078) (by rfl) rfl
set_option maxRecDepth 20000 in
theorem tb_1079 : Cond.selects RX11 yX11_matrix yX11_matrix ∈ TBg := tbg (i := 1079) (by rfl) rfl
theorem cal_X11_matrix : CalV RX11 yX11_matrix (.code yX11_matrix cX11_matrix 4 (some (.int))) cX11_matrix 4 (some (.int)) 2 := ⟨rfl, tb_1080, tb_101, tb_1078, tb_1079, by decide +kernel, by decide +kernel, by decide +kernel⟩
set_option maxRecDepth 20000 in
theorem tb_1077 : Cond.methodLink RL 91 yX11_matrix ∈ TBg := tbg (i := 1077) (by rfl) rfl
theorem ml_L_91 : ML RL 91 yX11_matrix := Or.inl tb_1077
set_option maxRecDepth 20000 in
theorem tb_1087 : Cond.code yX11_put cX11_put 7 (some (.int)) ∈ TBg := tbg (i := 1087) (by rfl) rfl
set_option maxRecDepth 20000 in
theorem tb_1085 : Cond.instanceMethod yX11_put ∈ TBg := tbg (i := 1085) (by rfl) rfl
set_option maxRecDepth 20000 in
theorem tb_1086 : Cond.selects RX11 yX11_put yX11_put ∈ TBg := tbg (i := 1086) (by rfl) rfl
theorem cal_X11_put : CalV RX11 yX11_put (.code yX11_put cX11_put 7 (some (.int))) cX11_put 7 (some (.int)) 4 := ⟨rfl, tb_1087, tb_101, tb_1085, tb_1086, by decide +kernel, by decide +kernel, by decide +kernel⟩
set_option maxRecDepth 20000 in
theorem tb_1084 : Cond.methodLink RL 94 yX11_put ∈ TBg := tbg (i := 1084) (by rfl) rfl
theorem ml_L_94 : ML RL 94 yX11_put := Or.inl tb_1084
set_option maxRecDepth 20000 in
theorem tb_1102 : Cond.code yX11_get cX11_get 5 (some (.int)) ∈ TBg := tbg (i := 1102) (by rfl) rfl
set_option maxRecDepth 20000 in
theorem tb_1100 : Cond.instanceMethod yX11_get ∈ TBg := tbg (i := 1100) (by rfl) rfl
set_option maxRecDepth 20000 in
theorem tb_1101 : Cond.selects RX11 yX11_get yX11_get ∈ TBg := tbg (i := 1101) (by rfl) rfl
theorem cal_X11_get : CalV RX11 yX11_get (.code yX11_get cX11_get 5 (some (.int))) cX11_get 5 (some (.int)) 3 := ⟨rfl, tb_1102, tb_101, tb_1100, tb_1101, by decide +kernel, by decide +kernel, by decide +kernel⟩
set_option maxRecDepth 20000 in
theorem tb_1099 : Cond.methodLink RL 98 yX11_get ∈ TBg := tbg (i := 1099) (by rfl) rfl
theorem ml_L_98 : ML RL 98 yX11_get := Or.inl tb_1099
set_option maxRecDepth 20000 in
theorem tb_1106 : Cond.code yX11_split cX11_split 6 (some (.int)) ∈ TBg := tbg (i := 1106) (by rfl) rfl
set_option maxRecDepth 20000 in
theorem tb_1104 : Cond.instanceMethod yX11_split ∈ TBg := tbg (i := 1104) (by rfl) rfl
set_option maxRecDepth 20000 in
theorem tb_1105 : Cond.selects RX11 yX11_split yX11_split ∈ TBg := tbg (i := 1105) (by rfl) rfl
theorem cal_X11_split : CalV RX11 yX11_split (.code yX11_split cX11_split 6 (some (.int))) cX11_split 6 (some (.int)) 4 := ⟨rfl, tb_1106, tb_101, tb_1104, tb_1105, by decide +kernel, by decide +kernel, by decide +kernel⟩
set_option maxRecDepth 20000 in
theorem tb_1103 : Cond.methodLink RL 102 yX11_split ∈ TBg := tbg (i := 1103) (by rfl) rfl
theorem ml_L_102 : ML RL 102 yX11_split := Or.inl tb_1103
set_option maxRecDepth 20000 in
theorem tb_1186 : Cond.code yX11_trace cX11_trace 4 (some (.long)) ∈ TBg := tbg (i := 1186) (by rfl) rfl
set_option maxRecDepth 20000 in
theorem tb_1184 : Cond.instanceMethod yX11_trace ∈ TBg := tbg (i := 1184) (by rfl) rfl
set_option maxRecDepth 20000 in
theorem tb_1185 : Cond.selects RX11 yX11_trace yX11_trace ∈ TBg := tbg (i := 1185) (by rfl) rfl
theorem cal_X11_trace : CalV RX11 yX11_trace (.code yX11_trace cX11_trace 4 (some (.long))) cX11_trace 4 (some (.long)) 2 := ⟨rfl, tb_1186, tb_101, tb_1184, tb_1185, by decide +kernel, by decide +kernel, by decide +kernel⟩
set_option maxRecDepth 20000 in
theorem tb_1183 : Cond.methodLink RL 115 yX11_trace ∈ TBg := tbg (i := 1183) (by rfl) rfl
theorem ml_L_115 : ML RL 115 yX11_trace := Or.inl tb_1183
set_option maxRecDepth 20000 in
theorem tb_1261 : Cond.code yX11_becomes cX11_becomes 4 (some (.int)) ∈ TBg := tbg (i := 1261) (by rfl) rfl
set_option maxRecDepth 20000 in
theorem tb_1259 : Cond.instanceMethod yX11_becomes ∈ TBg := tbg (i := 1259) (by rfl) rfl
set_option maxRecDepth 20000 in
theorem tb_1260 : Cond.selects RX11 yX11_becomes yX11_becomes ∈ TBg := tbg (i := 1260) (by rfl) rfl
theorem cal_X11_becomes : CalV RX11 yX11_becomes (.code yX11_becomes cX11_becomes 4 (some (.int))) cX11_becomes 4 (some (.int)) 1 := ⟨rfl, tb_1261, tb_101, tb_1259, tb_1260, by decide +kernel, by decide +kernel, by decide +kernel⟩
set_option maxRecDepth 20000 in
theorem tb_1258 : Cond.methodLink RL 141 yX11_becomes ∈ TBg := tbg (i := 1258) (by rfl) rfl
theorem ml_L_141 : ML RL 141 yX11_becomes := Or.inl tb_1258
set_option maxRecDepth 20000 in
theorem tb_1275 : Cond.code yX11_complexity cX11_complexity 2 (some (.int)) ∈ TBg := tbg (i := 1275) (by rfl) rfl
set_option maxRecDepth 20000 in
theorem tb_1273 : Cond.instanceMethod yX11_complexity ∈ TBg := tbg (i := 1273) (by rfl) rfl
set_option maxRecDepth 20000 in
theorem tb_1274 : Cond.selects RX11 yX11_complexity yX11_complexity ∈ TBg := tbg (i := 1274) (by rfl) rfl
theorem cal_X11_complexity : CalV RX11 yX11_complexity (.code yX11_complexity cX11_complexity 2 (some (.int))) cX11_complexity 2 (some (.int)) 1 := ⟨rfl, tb_1275, tb_101, tb_1273, tb_1274, by decide +kernel, by decide +kernel, by decide +kernel⟩
set_option maxRecDepth 20000 in
theorem tb_1272 : Cond.methodLink RL 144 yX11_complexity ∈ TBg := tbg (i := 1272) (by rfl) rfl
theorem ml_L_144 : ML RL 144 yX11_complexity := Or.inl tb_1272
set_option maxRecDepth 20000 in
theorem tb_566 : Cond.code yX11_edge cX11_edge 9 (some (.boolean)) ∈ TBg := tbg (i := 566) (by rfl) rfl
set_option maxRecDepth 20000 in
theorem tb_564 : Cond.instanceMethod yX11_edge ∈ TBg := tbg (i := 564) (by rfl) rfl
set_option maxRecDepth 20000 in
theorem tb_565 : Cond.selects RX11 yX11_edge yX11_edge ∈ TBg := tbg (i := 565) (by rfl) rfl
theorem cal_X11_edge : CalV RX11 yX11_edge (.code yX11_edge cX11_edge 9 (some (.boolean))) cX11_edge 9 (some (.boolean)) 5 := ⟨rfl, tb_566, tb_101, tb_564, tb_565, by decide +kernel, by decide +kernel, by decide +kernel⟩
set_option maxRecDepth 20000 in
theorem tb_563 : Cond.methodLink RL 19 yX11_edge ∈ TBg := tbg (i := 563) (by rfl) rfl
theorem ml_L_19 : ML RL 19 yX11_edge := Or.inl tb_563
set_option maxRecDepth 20000 in
theorem tb_963 : Cond.code yX11_growth cX11_growth 5 (some (.long)) ∈ TBg := tbg (i := 963) (by rfl) rfl
set_option maxRecDepth 20000 in
theorem tb_961 : Cond.instanceMethod yX11_growth ∈ TBg := tbg (i := 961) (by rfl) rfl
set_option maxRecDepth 20000 in
theorem tb_962 : Cond.selects RX11 yX11_growth yX11_growth ∈ TBg := tbg (i := 962) (by rfl) rfl
theorem cal_X11_growth : CalV RX11 yX11_growth (.code yX11_growth cX11_growth 5 (some (.long))) cX11_growth 5 (some (.long)) 3 := ⟨rfl, tb_963, tb_101, tb_961, tb_962, by decide +kernel, by decide +kernel, by decide +kernel⟩
set_option maxRecDepth 20000 in
theorem tb_960 : Cond.methodLink RL 66 yX11_growth ∈ TBg := tbg (i := 960) (by rfl) rfl
theorem ml_L_66 : ML RL 66 yX11_growth := Or.inl tb_960
theorem tb_100 : Cond.initialized yL_call.cls ∈ TBg := tbg (i := 100) (by rfl) rfl
set_option maxRecDepth 20000 in
theorem tb_385 : Cond.codeWith yL_call cL_call 8 (some (.long)) HHL ∈ TBg := tbg (i := 385) (by rfl) rfl
set_option maxRecDepth 20000 in
theorem tb_384 : Cond.static yL_call ∈ TBg := tbg (i := 384) (by rfl) rfl
theorem cal_L_call : CalSX yL_call (.codeWith yL_call cL_call 8 (some (.long)) HHL) cL_call 8 (some (.long)) HHL 7 := ⟨rfl, tb_385, tb_100, tb_384, by decide +kernel, by decide +kernel, by decide +kernel⟩
set_option maxRecDepth 20000 in
theorem tb_383 : Cond.methodLink RL 171 yL_call ∈ TBg := tbg (i := 383) (by rfl) rfl
set_option maxRecDepth 20000 in
theorem tb_1313 : Cond.code yX11_clear cX11_clear 2 (some (.int)) ∈ TBg := tbg (i := 1313) (by rfl) rfl
set_option maxRecDepth 20000 in
theorem tb_1311 : Cond.instanceMethod yX11_clear ∈ TBg := tbg (i := 1311) (by rfl) rfl
set_option maxRecDepth 20000 in
theorem tb_1312 : Cond.selects RX11 yX11_clear yX11_clear ∈ TBg := tbg (i := 1312) (by rfl) rfl
theorem cal_X11_clear : CalV RX11 yX11_clear (.code yX11_clear cX11_clear 2 (some (.int))) cX11_clear 2 (some (.int)) 0 := ⟨rfl, tb_1313, tb_101, tb_1311, tb_1312, by decide +kernel, by decide +kernel, by decide +kernel⟩
set_option maxRecDepth 20000 in
theorem tb_1310 : Cond.methodLink RL 177 yX11_clear ∈ TBg := tbg (i := 1310) (by rfl) rfl
theorem ml_L_177 : ML RL 177 yX11_clear := Or.inl tb_1310
set_option maxRecDepth 20000 in
theorem tb_1314 : Cond.methodLink RL 180 yJ0_length_8abf5 ∈ TBg := tbg (i := 1314) (by rfl) rfl
theorem ml_L_180 : ML RL 180 yJ0_length_8abf5 := Or.inl tb_1314
set_option maxRecDepth 20000 in
theorem tb_1327 : Cond.code yJ0_charAt_5068e cJ0_charAt_5068e 2 (some (.char)) ∈ TBg := tbg (i := 1327) (by rfl) rfl
set_option maxRecDepth 20000 in
theorem tb_1325 : Cond.instanceMethod yJ0_charAt_5068e ∈ TBg := tbg (i := 1325) (by rfl) rfl
set_option maxRecDepth 20000 in
theorem tb_1326 : Cond.selects RJ0 yJ0_charAt_5068e yJ0_charAt_5068e ∈ TBg := tbg (i := 1326) (by rfl) rfl
theorem cal_J0_charAt_5068e : CalV RJ0 yJ0_charAt_5068e (.code yJ0_charAt_5068e cJ0_charAt_5068e 2 (some (.char))) cJ0_charAt_5068e 2 (some (.char)) 1 := ⟨rfl, tb_1327, tb_111, tb_1325, tb_1326, by decide +kernel, by decide +kernel, by decide +kernel⟩
set_option maxRecDepth 20000 in
theorem tb_1324 : Cond.methodLink RL 185 yJ0_charAt_5068e ∈ TBg := tbg (i := 1324) (by rfl) rfl
theorem ml_L_185 : ML RL 185 yJ0_charAt_5068e := Or.inl tb_1324
set_option maxRecDepth 20000 in
theorem tb_1306 : Cond.code yL_call_ cL_call_ 5 (some (.long)) ∈ TBg := tbg (i := 1306) (by rfl) rfl
set_option maxRecDepth 20000 in
theorem tb_1305 : Cond.static yL_call_ ∈ TBg := tbg (i := 1305) (by rfl) rfl
theorem cal_L_call_ : CalS yL_call_ (.code yL_call_ cL_call_ 5 (some (.long))) cL_call_ 5 (some (.long)) 5 := ⟨rfl, tb_1306, tb_100, tb_1305, by decide +kernel, by decide +kernel, by decide +kernel⟩
set_option maxRecDepth 20000 in
theorem tb_1304 : Cond.methodLink RL 188 yL_call_ ∈ TBg := tbg (i := 1304) (by rfl) rfl
theorem ml_L_188 : ML RL 188 yL_call_ := Or.inl tb_1304
set_option maxRecDepth 20000 in
theorem tb_1365 : Cond.constantLong RL 191 (11563) ∈ TBg := tbg (i := 1365) (by rfl) rfl
set_option maxRecDepth 20000 in
theorem tb_1369 : Cond.code yX11_checksum cX11_checksum 5 (some (.long)) ∈ TBg := tbg (i := 1369) (by rfl) rfl
set_option maxRecDepth 20000 in
theorem tb_1367 : Cond.instanceMethod yX11_checksum ∈ TBg := tbg (i := 1367) (by rfl) rfl
set_option maxRecDepth 20000 in
theorem tb_1368 : Cond.selects RX11 yX11_checksum yX11_checksum ∈ TBg := tbg (i := 1368) (by rfl) rfl
theorem cal_X11_checksum : CalV RX11 yX11_checksum (.code yX11_checksum cX11_checksum 5 (some (.long))) cX11_checksum 5 (some (.long)) 0 := ⟨rfl, tb_1369, tb_101, tb_1367, tb_1368, by decide +kernel, by decide +kernel, by decide +kernel⟩
set_option maxRecDepth 20000 in
theorem tb_1366 : Cond.methodLink RL 193 yX11_checksum ∈ TBg := tbg (i := 1366) (by rfl) rfl
theorem ml_L_193 : ML RL 193 yX11_checksum := Or.inl tb_1366
set_option maxRecDepth 20000 in
theorem tb_1375 : Cond.constantLong RL 197 (31) ∈ TBg := tbg (i := 1375) (by rfl) rfl
theorem tb_135 : Cond.classLink RL 10 RX11 ∈ TBg := tbg (i := 135) (by rfl) rfl
theorem tb_136 : Cond.instantiable RX11 12 ∈ TBg := tbg (i := 136) (by rfl) rfl
theorem tb_139 : Cond.code yX11_init cX11_init 1 none ∈ TBg := tbg (i := 139) (by rfl) rfl
theorem tb_138 : Cond.instanceMethod yX11_init ∈ TBg := tbg (i := 138) (by rfl) rfl
theorem cal_X11_init : CalI yX11_init (.code yX11_init cX11_init 1 none) cX11_init 1 0 := ⟨rfl, tb_139, tb_101, tb_138, rfl, by decide +kernel, by decide +kernel, by decide +kernel⟩
theorem tb_137 : Cond.methodLink RL 199 yX11_init ∈ TBg := tbg (i := 137) (by rfl) rfl
theorem ml_L_199 : ML RL 199 yX11_init := Or.inl tb_137
set_option maxRecDepth 20000 in
theorem tb_1298 : Cond.constantLong RL 149 (-1001000) ∈ TBg := tbg (i := 1298) (by rfl) rfl
set_option maxRecDepth 20000 in
theorem tb_377 : Cond.code yL_cell cL_cell 2 (some (.int)) ∈ TBg := tbg (i := 377) (by rfl) rfl
set_option maxRecDepth 20000 in
theorem tb_376 : Cond.static yL_cell ∈ TBg := tbg (i := 376) (by rfl) rfl
theorem cal_L_cell : CalS yL_cell (.code yL_cell cL_cell 2 (some (.int))) cL_cell 2 (some (.int)) 2 := ⟨rfl, tb_377, tb_100, tb_376, by decide +kernel, by decide +kernel, by decide +kernel⟩
set_option maxRecDepth 20000 in
theorem tb_375 : Cond.methodLink RL 200 yL_cell ∈ TBg := tbg (i := 375) (by rfl) rfl
theorem ml_L_200 : ML RL 200 yL_cell := Or.inl tb_375
set_option maxRecDepth 20000 in
theorem tb_381 : Cond.code yL_low cL_low 2 (some (.int)) ∈ TBg := tbg (i := 381) (by rfl) rfl
set_option maxRecDepth 20000 in
theorem tb_380 : Cond.static yL_low ∈ TBg := tbg (i := 380) (by rfl) rfl
theorem cal_L_low : CalS yL_low (.code yL_low cL_low 2 (some (.int))) cL_low 2 (some (.int)) 2 := ⟨rfl, tb_381, tb_100, tb_380, by decide +kernel, by decide +kernel, by decide +kernel⟩
set_option maxRecDepth 20000 in
theorem tb_379 : Cond.methodLink RL 204 yL_low ∈ TBg := tbg (i := 379) (by rfl) rfl
theorem ml_L_204 : ML RL 204 yL_low := Or.inl tb_379
set_option maxRecDepth 20000 in
theorem tb_1309 : Cond.code yL_types cL_types 5 (some (.boolean)) ∈ TBg := tbg (i := 1309) (by rfl) rfl
set_option maxRecDepth 20000 in
theorem tb_1308 : Cond.static yL_types ∈ TBg := tbg (i := 1308) (by rfl) rfl
theorem cal_L_types : CalS yL_types (.code yL_types cL_types 5 (some (.boolean))) cL_types 5 (some (.boolean)) 2 := ⟨rfl, tb_1309, tb_100, tb_1308, by decide +kernel, by decide +kernel, by decide +kernel⟩
set_option maxRecDepth 20000 in
theorem tb_1307 : Cond.methodLink RL 229 yL_types ∈ TBg := tbg (i := 1307) (by rfl) rfl
theorem ml_L_229 : ML RL 229 yL_types := Or.inl tb_1307
set_option maxRecDepth 20000 in
theorem tb_1376 : Cond.classLink RL 209 RJ4 ∈ TBg := tbg (i := 1376) (by rfl) rfl
set_option maxRecDepth 20000 in
theorem tb_1377 : Cond.instantiable RJ4 4 ∈ TBg := tbg (i := 1377) (by rfl) rfl
set_option maxRecDepth 20000 in
theorem tb_1380 : Cond.code yJ4_init_da8c8 cJ4_init_da8c8 1 none ∈ TBg := tbg (i := 1380) (by rfl) rfl
set_option maxRecDepth 20000 in
theorem tb_1379 : Cond.instanceMethod yJ4_init_da8c8 ∈ TBg := tbg (i := 1379) (by rfl) rfl
theorem cal_J4_init_da8c8 : CalI yJ4_init_da8c8 (.code yJ4_init_da8c8 cJ4_init_da8c8 1 none) cJ4_init_da8c8 1 0 := ⟨rfl, tb_1380, tb_110, tb_1379, rfl, by decide +kernel, by decide +kernel, by decide +kernel⟩
set_option maxRecDepth 20000 in
theorem tb_1378 : Cond.methodLink RL 211 yJ4_init_da8c8 ∈ TBg := tbg (i := 1378) (by rfl) rfl
theorem ml_L_211 : ML RL 211 yJ4_init_da8c8 := Or.inl tb_1378
set_option maxRecDepth 20000 in
theorem tb_1409 : Cond.code yJ4_append_15ec4 cJ4_append_15ec4 2 (some (.object "java/lang/StringBuilder")) ∈ TBg := tbg (i := 1409) (by rfl) rfl
set_option maxRecDepth 20000 in
theorem tb_1407 : Cond.instanceMethod yJ4_append_15ec4 ∈ TBg := tbg (i := 1407) (by rfl) rfl
set_option maxRecDepth 20000 in
theorem tb_1408 : Cond.selects RJ4 yJ4_append_15ec4 yJ4_append_15ec4 ∈ TBg := tbg (i := 1408) (by rfl) rfl
theorem cal_J4_append_15ec4 : CalV RJ4 yJ4_append_15ec4 (.code yJ4_append_15ec4 cJ4_append_15ec4 2 (some (.object "java/lang/StringBuilder"))) cJ4_append_15ec4 2 (some (.object "java/lang/StringBuilder")) 1 := ⟨rfl, tb_1409, tb_110, tb_1407, tb_1408, by decide +kernel, by decide +kernel, by decide +kernel⟩
set_option maxRecDepth 20000 in
theorem tb_1406 : Cond.methodLink RL 212 yJ4_append_15ec4 ∈ TBg := tbg (i := 1406) (by rfl) rfl
theorem ml_L_212 : ML RL 212 yJ4_append_15ec4 := Or.inl tb_1406
set_option maxRecDepth 20000 in
theorem tb_1510 : Cond.code yJ4_append_cf468 cJ4_append_cf468 2 (some (.object "java/lang/StringBuilder")) ∈ TBg := tbg (i := 1510) (by rfl) rfl
set_option maxRecDepth 20000 in
theorem tb_1508 : Cond.instanceMethod yJ4_append_cf468 ∈ TBg := tbg (i := 1508) (by rfl) rfl
set_option maxRecDepth 20000 in
theorem tb_1509 : Cond.selects RJ4 yJ4_append_cf468 yJ4_append_cf468 ∈ TBg := tbg (i := 1509) (by rfl) rfl
theorem cal_J4_append_cf468 : CalV RJ4 yJ4_append_cf468 (.code yJ4_append_cf468 cJ4_append_cf468 2 (some (.object "java/lang/StringBuilder"))) cJ4_append_cf468 2 (some (.object "java/lang/StringBuilder")) 1 := ⟨rfl, tb_1510, tb_110, tb_1508, tb_1509, by decide +kernel, by decide +kernel, by decide +kernel⟩
set_option maxRecDepth 20000 in
theorem tb_1507 : Cond.methodLink RL 222 yJ4_append_cf468 ∈ TBg := tbg (i := 1507) (by rfl) rfl
theorem ml_L_222 : ML RL 222 yJ4_append_cf468 := Or.inl tb_1507
set_option maxRecDepth 20000 in
theorem tb_1523 : Cond.code yJ4_toString_0e30d cJ4_toString_0e30d 1 (some (.object "java/lang/String")) ∈ TBg := tbg (i := 1523) (by rfl) rfl
set_option maxRecDepth 20000 in
theorem tb_1521 : Cond.instanceMethod yJ4_toString_0e30d ∈ TBg := tbg (i := 1521) (by rfl) rfl
set_option maxRecDepth 20000 in
theorem tb_1522 : Cond.selects RJ4 yJ4_toString_0e30d yJ4_toString_0e30d ∈ TBg := tbg (i := 1522) (by rfl) rfl
theorem cal_J4_toString_0e30d : CalV RJ4 yJ4_toString_0e30d (.code yJ4_toString_0e30d cJ4_toString_0e30d 1 (some (.object "java/lang/String"))) cJ4_toString_0e30d 1 (some (.object "java/lang/String")) 0 := ⟨rfl, tb_1523, tb_110, tb_1521, tb_1522, by decide +kernel, by decide +kernel, by decide +kernel⟩
set_option maxRecDepth 20000 in
theorem tb_1520 : Cond.methodLink RL 225 yJ4_toString_0e30d ∈ TBg := tbg (i := 1520) (by rfl) rfl
theorem ml_L_225 : ML RL 225 yJ4_toString_0e30d := Or.inl tb_1520
set_option maxRecDepth 20000 in
theorem tb_1364 : Cond.code yL_state cL_state 6 (some (.long)) ∈ TBg := tbg (i := 1364) (by rfl) rfl
set_option maxRecDepth 20000 in
theorem tb_1363 : Cond.static yL_state ∈ TBg := tbg (i := 1363) (by rfl) rfl
theorem cal_L_state : CalS yL_state (.code yL_state cL_state 6 (some (.long))) cL_state 6 (some (.long)) 3 := ⟨rfl, tb_1364, tb_100, tb_1363, by decide +kernel, by decide +kernel, by decide +kernel⟩
set_option maxRecDepth 20000 in
theorem tb_1362 : Cond.methodLink RL 233 yL_state ∈ TBg := tbg (i := 1362) (by rfl) rfl
theorem ml_L_233 : ML RL 233 yL_state := Or.inl tb_1362
set_option maxRecDepth 20000 in
theorem tb_341 : Cond.code yX11_isSound cX11_isSound 4 (some (.boolean)) ∈ TBg := tbg (i := 341) (by rfl) rfl
set_option maxRecDepth 20000 in
theorem tb_339 : Cond.instanceMethod yX11_isSound ∈ TBg := tbg (i := 339) (by rfl) rfl
set_option maxRecDepth 20000 in
theorem tb_340 : Cond.selects RX11 yX11_isSound yX11_isSound ∈ TBg := tbg (i := 340) (by rfl) rfl
theorem cal_X11_isSound : CalV RX11 yX11_isSound (.code yX11_isSound cX11_isSound 4 (some (.boolean))) cX11_isSound 4 (some (.boolean)) 0 := ⟨rfl, tb_341, tb_101, tb_339, tb_340, by decide +kernel, by decide +kernel, by decide +kernel⟩
set_option maxRecDepth 20000 in
theorem tb_338 : Cond.methodLink RL 241 yX11_isSound ∈ TBg := tbg (i := 338) (by rfl) rfl
theorem ml_L_241 : ML RL 241 yX11_isSound := Or.inl tb_338
set_option maxRecDepth 20000 in
theorem tb_1608 : Cond.constantLong RL 237 (3) ∈ TBg := tbg (i := 1608) (by rfl) rfl
set_option maxRecDepth 20000 in
theorem tb_1609 : Cond.constantLong RL 239 (12) ∈ TBg := tbg (i := 1609) (by rfl) rfl
