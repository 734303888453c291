theorem w_1319 : Cond.methodLink RX11 231 yX11_countPeriodic ∈ zgw := List.mem_filter.mpr ⟨List.mem_of_getElem? (i := 1419) (by decide +kernel), rfl⟩
theorem wm_yX11_countPeriodic : Cond.instanceMethod yX11_countPeriodic ∈ zgw := List.mem_filter.mpr ⟨List.mem_of_getElem? (i := 1421) (by decide +kernel), rfl⟩
theorem wc_yX11_countPeriodic : Cond.code yX11_countPeriodic cX11_countPeriodic 6 (some (.int)) ∈ zgw := List.mem_filter.mpr ⟨List.mem_of_getElem? (i := 1422) (by decide +kernel), rfl⟩
theorem w_1323 : Cond.methodLink RX11 225 yX11_isPrimitive ∈ zgw := List.mem_filter.mpr ⟨List.mem_of_getElem? (i := 1423) (by decide +kernel), rfl⟩
theorem wm_yX11_isPrimitive : Cond.instanceMethod yX11_isPrimitive ∈ zgw := List.mem_filter.mpr ⟨List.mem_of_getElem? (i := 1425) (by decide +kernel), rfl⟩
theorem wc_yX11_isPrimitive : Cond.code yX11_isPrimitive cX11_isPrimitive 4 (some (.boolean)) ∈ zgw := List.mem_filter.mpr ⟨List.mem_of_getElem? (i := 1426) (by decide +kernel), rfl⟩
theorem w_1327 : Cond.methodLink RX11 228 yX11_isPeriodic ∈ zgw := List.mem_filter.mpr ⟨List.mem_of_getElem? (i := 1427) (by decide +kernel), rfl⟩
theorem wm_yX11_isPeriodic : Cond.instanceMethod yX11_isPeriodic ∈ zgw := List.mem_filter.mpr ⟨List.mem_of_getElem? (i := 1429) (by decide +kernel), rfl⟩
theorem wc_yX11_isPeriodic : Cond.code yX11_isPeriodic cX11_isPeriodic 3 (some (.boolean)) ∈ zgw := List.mem_filter.mpr ⟨List.mem_of_getElem? (i := 1430) (by decide +kernel), rfl⟩
theorem w_1331 : Cond.methodLink RL 93 yX11_orbits ∈ zgw := List.mem_filter.mpr ⟨List.mem_of_getElem? (i := 1431) (by decide +kernel), rfl⟩
theorem wm_yX11_orbits : Cond.instanceMethod yX11_orbits ∈ zgw := List.mem_filter.mpr ⟨List.mem_of_getElem? (i := 1432) (by decide +kernel), rfl⟩
theorem ws_yX11_orbits : Cond.selects RX11 yX11_orbits yX11_orbits ∈ zgw := List.mem_filter.mpr ⟨List.mem_of_getElem? (i := 1433) (by decide +kernel), rfl⟩
theorem wc_yX11_orbits : Cond.code yX11_orbits cX11_orbits 3 (some (.int)) ∈ zgw := List.mem_filter.mpr ⟨List.mem_of_getElem? (i := 1434) (by decide +kernel), rfl⟩
theorem w_1335 : Cond.methodLink RL 97 yX11_characteristic ∈ zgw := List.mem_filter.mpr ⟨List.mem_of_getElem? (i := 1435) (by decide +kernel), rfl⟩
theorem wm_yX11_characteristic : Cond.instanceMethod yX11_characteristic ∈ zgw := List.mem_filter.mpr ⟨List.mem_of_getElem? (i := 1436) (by decide +kernel), rfl⟩
theorem ws_yX11_characteristic : Cond.selects RX11 yX11_characteristic yX11_characteristic ∈ zgw := List.mem_filter.mpr ⟨List.mem_of_getElem? (i := 1437) (by decide +kernel), rfl⟩
theorem wc_yX11_characteristic : Cond.code yX11_characteristic cX11_characteristic 7 (some (.long)) ∈ zgw := List.mem_filter.mpr ⟨List.mem_of_getElem? (i := 1438) (by decide +kernel), rfl⟩
theorem w_1339 : Cond.constantLong RX11 242 (-9223372036854775808) ∈ zgw := List.mem_filter.mpr ⟨List.mem_of_getElem? (i := 1439) (by decide +kernel), rfl⟩
theorem w_1340 : Cond.methodLink RX11 244 yX11_fillMatrix ∈ zgw := List.mem_filter.mpr ⟨List.mem_of_getElem? (i := 1440) (by decide +kernel), rfl⟩
theorem wm_yX11_fillMatrix : Cond.instanceMethod yX11_fillMatrix ∈ zgw := List.mem_filter.mpr ⟨List.mem_of_getElem? (i := 1442) (by decide +kernel), rfl⟩
theorem wc_yX11_fillMatrix : Cond.code yX11_fillMatrix cX11_fillMatrix 6 none ∈ zgw := List.mem_filter.mpr ⟨List.mem_of_getElem? (i := 1443) (by decide +kernel), rfl⟩
theorem w_1344 : Cond.methodLink RX11 238 yX11_place ∈ zgw := List.mem_filter.mpr ⟨List.mem_of_getElem? (i := 1444) (by decide +kernel), rfl⟩
theorem wm_yX11_place : Cond.instanceMethod yX11_place ∈ zgw := List.mem_filter.mpr ⟨List.mem_of_getElem? (i := 1446) (by decide +kernel), rfl⟩
theorem wc_yX11_place : Cond.code yX11_place cX11_place 4 none ∈ zgw := List.mem_filter.mpr ⟨List.mem_of_getElem? (i := 1447) (by decide +kernel), rfl⟩
theorem w_1348 : Cond.methodLink RX11 247 yX11_multiply ∈ zgw := List.mem_filter.mpr ⟨List.mem_of_getElem? (i := 1448) (by decide +kernel), rfl⟩
theorem wm_yX11_multiply : Cond.instanceMethod yX11_multiply ∈ zgw := List.mem_filter.mpr ⟨List.mem_of_getElem? (i := 1450) (by decide +kernel), rfl⟩
theorem wc_yX11_multiply : Cond.code yX11_multiply cX11_multiply 6 none ∈ zgw := List.mem_filter.mpr ⟨List.mem_of_getElem? (i := 1451) (by decide +kernel), rfl⟩
theorem w_1352 : Cond.methodLink RL 101 yX11_cover ∈ zgw := List.mem_filter.mpr ⟨List.mem_of_getElem? (i := 1452) (by decide +kernel), rfl⟩
theorem wm_yX11_cover : Cond.instanceMethod yX11_cover ∈ zgw := List.mem_filter.mpr ⟨List.mem_of_getElem? (i := 1453) (by decide +kernel), rfl⟩
theorem ws_yX11_cover : Cond.selects RX11 yX11_cover yX11_cover ∈ zgw := List.mem_filter.mpr ⟨List.mem_of_getElem? (i := 1454) (by decide +kernel), rfl⟩
theorem wc_yX11_cover : Cond.code yX11_cover cX11_cover 5 (some (.int)) ∈ zgw := List.mem_filter.mpr ⟨List.mem_of_getElem? (i := 1455) (by decide +kernel), rfl⟩
theorem w_1356 : Cond.methodLink RX11 295 yX11_findCover ∈ zgw := List.mem_filter.mpr ⟨List.mem_of_getElem? (i := 1456) (by decide +kernel), rfl⟩
theorem wm_yX11_findCover : Cond.instanceMethod yX11_findCover ∈ zgw := List.mem_filter.mpr ⟨List.mem_of_getElem? (i := 1458) (by decide +kernel), rfl⟩
theorem wc_yX11_findCover : Cond.code yX11_findCover cX11_findCover 6 (some (.int)) ∈ zgw := List.mem_filter.mpr ⟨List.mem_of_getElem? (i := 1459) (by decide +kernel), rfl⟩
theorem w_1360 : Cond.methodLink RX11 286 yX11_findMembers ∈ zgw := List.mem_filter.mpr ⟨List.mem_of_getElem? (i := 1460) (by decide +kernel), rfl⟩
theorem wm_yX11_findMembers : Cond.instanceMethod yX11_findMembers ∈ zgw := List.mem_filter.mpr ⟨List.mem_of_getElem? (i := 1462) (by decide +kernel), rfl⟩
theorem wc_yX11_findMembers : Cond.code yX11_findMembers cX11_findMembers 6 (some (.int)) ∈ zgw := List.mem_filter.mpr ⟨List.mem_of_getElem? (i := 1463) (by decide +kernel), rfl⟩
theorem w_1364 : Cond.methodLink RX11 265 yX11_findSets ∈ zgw := List.mem_filter.mpr ⟨List.mem_of_getElem? (i := 1464) (by decide +kernel), rfl⟩
theorem wm_yX11_findSets : Cond.instanceMethod yX11_findSets ∈ zgw := List.mem_filter.mpr ⟨List.mem_of_getElem? (i := 1466) (by decide +kernel), rfl⟩
theorem wc_yX11_findSets : Cond.code yX11_findSets cX11_findSets 4 none ∈ zgw := List.mem_filter.mpr ⟨List.mem_of_getElem? (i := 1467) (by decide +kernel), rfl⟩
theorem w_1368 : Cond.methodLink RX11 253 yX11_clearSeen ∈ zgw := List.mem_filter.mpr ⟨List.mem_of_getElem? (i := 1468) (by decide +kernel), rfl⟩
theorem wm_yX11_clearSeen : Cond.instanceMethod yX11_clearSeen ∈ zgw := List.mem_filter.mpr ⟨List.mem_of_getElem? (i := 1470) (by decide +kernel), rfl⟩
theorem wc_yX11_clearSeen : Cond.code yX11_clearSeen cX11_clearSeen 2 none ∈ zgw := List.mem_filter.mpr ⟨List.mem_of_getElem? (i := 1471) (by decide +kernel), rfl⟩
theorem w_1372 : Cond.methodLink RX11 256 yX11_see ∈ zgw := List.mem_filter.mpr ⟨List.mem_of_getElem? (i := 1472) (by decide +kernel), rfl⟩
theorem wm_yX11_see : Cond.instanceMethod yX11_see ∈ zgw := List.mem_filter.mpr ⟨List.mem_of_getElem? (i := 1474) (by decide +kernel), rfl⟩
theorem wc_yX11_see : Cond.code yX11_see cX11_see 2 none ∈ zgw := List.mem_filter.mpr ⟨List.mem_of_getElem? (i := 1475) (by decide +kernel), rfl⟩
theorem w_1376 : Cond.methodLink RX11 268 yX11_classify ∈ zgw := List.mem_filter.mpr ⟨List.mem_of_getElem? (i := 1476) (by decide +kernel), rfl⟩
theorem wm_yX11_classify : Cond.instanceMethod yX11_classify ∈ zgw := List.mem_filter.mpr ⟨List.mem_of_getElem? (i := 1478) (by decide +kernel), rfl⟩
theorem wc_yX11_classify : Cond.code yX11_classify cX11_classify 4 none ∈ zgw := List.mem_filter.mpr ⟨List.mem_of_getElem? (i := 1479) (by decide +kernel), rfl⟩
theorem w_1380 : Cond.methodLink RX11 262 yX11_isAlike ∈ zgw := List.mem_filter.mpr ⟨List.mem_of_getElem? (i := 1480) (by decide +kernel), rfl⟩
theorem wm_yX11_isAlike : Cond.instanceMethod yX11_isAlike ∈ zgw := List.mem_filter.mpr ⟨List.mem_of_getElem? (i := 1482) (by decide +kernel), rfl⟩
theorem wc_yX11_isAlike : Cond.code yX11_isAlike cX11_isAlike 5 (some (.boolean)) ∈ zgw := List.mem_filter.mpr ⟨List.mem_of_getElem? (i := 1483) (by decide +kernel), rfl⟩
theorem w_1384 : Cond.methodLink RX11 271 yX11_seeFrom ∈ zgw := List.mem_filter.mpr ⟨List.mem_of_getElem? (i := 1484) (by decide +kernel), rfl⟩
theorem wm_yX11_seeFrom : Cond.instanceMethod yX11_seeFrom ∈ zgw := List.mem_filter.mpr ⟨List.mem_of_getElem? (i := 1486) (by decide +kernel), rfl⟩
theorem wc_yX11_seeFrom : Cond.code yX11_seeFrom cX11_seeFrom 5 none ∈ zgw := List.mem_filter.mpr ⟨List.mem_of_getElem? (i := 1487) (by decide +kernel), rfl⟩
theorem w_1388 : Cond.methodLink RX11 277 yX11_memberOf ∈ zgw := List.mem_filter.mpr ⟨List.mem_of_getElem? (i := 1488) (by decide +kernel), rfl⟩
theorem wm_yX11_memberOf : Cond.instanceMethod yX11_memberOf ∈ zgw := List.mem_filter.mpr ⟨List.mem_of_getElem? (i := 1490) (by decide +kernel), rfl⟩
theorem wc_yX11_memberOf : Cond.code yX11_memberOf cX11_memberOf 3 (some (.int)) ∈ zgw := List.mem_filter.mpr ⟨List.mem_of_getElem? (i := 1491) (by decide +kernel), rfl⟩
theorem w_1392 : Cond.methodLink RX11 289 yX11_resetEnd ∈ zgw := List.mem_filter.mpr ⟨List.mem_of_getElem? (i := 1492) (by decide +kernel), rfl⟩
theorem wm_yX11_resetEnd : Cond.instanceMethod yX11_resetEnd ∈ zgw := List.mem_filter.mpr ⟨List.mem_of_getElem? (i := 1494) (by decide +kernel), rfl⟩
theorem wc_yX11_resetEnd : Cond.code yX11_resetEnd cX11_resetEnd 2 (some (.int)) ∈ zgw := List.mem_filter.mpr ⟨List.mem_of_getElem? (i := 1495) (by decide +kernel), rfl⟩
theorem w_1396 : Cond.methodLink RX11 292 yX11_findReset ∈ zgw := List.mem_filter.mpr ⟨List.mem_of_getElem? (i := 1496) (by decide +kernel), rfl⟩
theorem wm_yX11_findReset : Cond.instanceMethod yX11_findReset ∈ zgw := List.mem_filter.mpr ⟨List.mem_of_getElem? (i := 1498) (by decide +kernel), rfl⟩
theorem wc_yX11_findReset : Cond.code yX11_findReset cX11_findReset 6 (some (.int)) ∈ zgw := List.mem_filter.mpr ⟨List.mem_of_getElem? (i := 1499) (by decide +kernel), rfl⟩
theorem w_1400 : Cond.methodLink RX11 280 yX11_led ∈ zgw := List.mem_filter.mpr ⟨List.mem_of_getElem? (i := 1500) (by decide +kernel), rfl⟩
theorem wm_yX11_led : Cond.instanceMethod yX11_led ∈ zgw := List.mem_filter.mpr ⟨List.mem_of_getElem? (i := 1502) (by decide +kernel), rfl⟩
theorem wc_yX11_led : Cond.code yX11_led cX11_led 5 (some (.int)) ∈ zgw := List.mem_filter.mpr ⟨List.mem_of_getElem? (i := 1503) (by decide +kernel), rfl⟩
theorem w_1404 : Cond.methodLink RX11 283 yJ6_numberOfTrailingZeros_0f7a4 ∈ zgw := List.mem_filter.mpr ⟨List.mem_of_getElem? (i := 1504) (by decide +kernel), rfl⟩
theorem wt_yJ6_numberOfTrailingZeros_0f7a4 : Cond.static yJ6_numberOfTrailingZeros_0f7a4 ∈ zgw := List.mem_filter.mpr ⟨List.mem_of_getElem? (i := 1505) (by decide +kernel), rfl⟩
theorem wc_yJ6_numberOfTrailingZeros_0f7a4 : Cond.code yJ6_numberOfTrailingZeros_0f7a4 cJ6_numberOfTrailingZeros_0f7a4 2 (some (.int)) ∈ zgw := List.mem_filter.mpr ⟨List.mem_of_getElem? (i := 1506) (by decide +kernel), rfl⟩
theorem w_1407 : Cond.constant RJ6 264 (65536) ∈ zgw := List.mem_filter.mpr ⟨List.mem_of_getElem? (i := 1507) (by decide +kernel), rfl⟩
theorem w_1408 : Cond.methodLink RL 105 yX11_writeReset ∈ zgw := List.mem_filter.mpr ⟨List.mem_of_getElem? (i := 1508) (by decide +kernel), rfl⟩
theorem wm_yX11_writeReset : Cond.instanceMethod yX11_writeReset ∈ zgw := List.mem_filter.mpr ⟨List.mem_of_getElem? (i := 1509) (by decide +kernel), rfl⟩
theorem ws_yX11_writeReset : Cond.selects RX11 yX11_writeReset yX11_writeReset ∈ zgw := List.mem_filter.mpr ⟨List.mem_of_getElem? (i := 1510) (by decide +kernel), rfl⟩
theorem wc_yX11_writeReset : Cond.code yX11_writeReset cX11_writeReset 3 (some (.int)) ∈ zgw := List.mem_filter.mpr ⟨List.mem_of_getElem? (i := 1511) (by decide +kernel), rfl⟩
theorem w_1412 : Cond.methodLink RL 109 yX11_memory ∈ zgw := List.mem_filter.mpr ⟨List.mem_of_getElem? (i := 1512) (by decide +kernel), rfl⟩
theorem wm_yX11_memory : Cond.instanceMethod yX11_memory ∈ zgw := List.mem_filter.mpr ⟨List.mem_of_getElem? (i := 1513) (by decide +kernel), rfl⟩
theorem ws_yX11_memory : Cond.selects RX11 yX11_memory yX11_memory ∈ zgw := List.mem_filter.mpr ⟨List.mem_of_getElem? (i := 1514) (by decide +kernel), rfl⟩
theorem wc_yX11_memory : Cond.code yX11_memory cX11_memory 8 (some (.int)) ∈ zgw := List.mem_filter.mpr ⟨List.mem_of_getElem? (i := 1515) (by decide +kernel), rfl⟩
theorem w_1416 : Cond.methodLink RX11 298 yX11_isSingle ∈ zgw := List.mem_filter.mpr ⟨List.mem_of_getElem? (i := 1516) (by decide +kernel), rfl⟩
theorem wm_yX11_isSingle : Cond.instanceMethod yX11_isSingle ∈ zgw := List.mem_filter.mpr ⟨List.mem_of_getElem? (i := 1518) (by decide +kernel), rfl⟩
theorem wc_yX11_isSingle : Cond.code yX11_isSingle cX11_isSingle 3 (some (.boolean)) ∈ zgw := List.mem_filter.mpr ⟨List.mem_of_getElem? (i := 1519) (by decide +kernel), rfl⟩
theorem w_1420 : Cond.methodLink RL 113 yX11_isMixing ∈ zgw := List.mem_filter.mpr ⟨List.mem_of_getElem? (i := 1520) (by decide +kernel), rfl⟩
theorem wm_yX11_isMixing : Cond.instanceMethod yX11_isMixing ∈ zgw := List.mem_filter.mpr ⟨List.mem_of_getElem? (i := 1521) (by decide +kernel), rfl⟩
theorem ws_yX11_isMixing : Cond.selects RX11 yX11_isMixing yX11_isMixing ∈ zgw := List.mem_filter.mpr ⟨List.mem_of_getElem? (i := 1522) (by decide +kernel), rfl⟩
theorem wc_yX11_isMixing : Cond.code yX11_isMixing cX11_isMixing 8 (some (.int)) ∈ zgw := List.mem_filter.mpr ⟨List.mem_of_getElem? (i := 1523) (by decide +kernel), rfl⟩
theorem w_1424 : Cond.methodLink RL 117 yX11_writeDifference ∈ zgw := List.mem_filter.mpr ⟨List.mem_of_getElem? (i := 1524) (by decide +kernel), rfl⟩
theorem wm_yX11_writeDifference : Cond.instanceMethod yX11_writeDifference ∈ zgw := List.mem_filter.mpr ⟨List.mem_of_getElem? (i := 1525) (by decide +kernel), rfl⟩
theorem ws_yX11_writeDifference : Cond.selects RX11 yX11_writeDifference yX11_writeDifference ∈ zgw := List.mem_filter.mpr ⟨List.mem_of_getElem? (i := 1526) (by decide +kernel), rfl⟩
theorem wc_yX11_writeDifference : Cond.code yX11_writeDifference cX11_writeDifference 11 (some (.int)) ∈ zgw := List.mem_filter.mpr ⟨List.mem_of_getElem? (i := 1527) (by decide +kernel), rfl⟩
theorem w_1428 : Cond.methodLink RX11 301 yX11_spellDifference ∈ zgw := List.mem_filter.mpr ⟨List.mem_of_getElem? (i := 1528) (by decide +kernel), rfl⟩
theorem wm_yX11_spellDifference : Cond.instanceMethod yX11_spellDifference ∈ zgw := List.mem_filter.mpr ⟨List.mem_of_getElem? (i := 1530) (by decide +kernel), rfl⟩
theorem wc_yX11_spellDifference : Cond.code yX11_spellDifference cX11_spellDifference 5 (some (.int)) ∈ zgw := List.mem_filter.mpr ⟨List.mem_of_getElem? (i := 1531) (by decide +kernel), rfl⟩
theorem w_1432 : Cond.methodLink RL 121 yX11_union ∈ zgw := List.mem_filter.mpr ⟨List.mem_of_getElem? (i := 1532) (by decide +kernel), rfl⟩
theorem wm_yX11_union : Cond.instanceMethod yX11_union ∈ zgw := List.mem_filter.mpr ⟨List.mem_of_getElem? (i := 1533) (by decide +kernel), rfl⟩
theorem ws_yX11_union : Cond.selects RX11 yX11_union yX11_union ∈ zgw := List.mem_filter.mpr ⟨List.mem_of_getElem? (i := 1534) (by decide +kernel), rfl⟩
theorem wc_yX11_union : Cond.code yX11_union cX11_union 5 (some (.int)) ∈ zgw := List.mem_filter.mpr ⟨List.mem_of_getElem? (i := 1535) (by decide +kernel), rfl⟩
theorem w_1436 : Cond.methodLink RX11 304 yX11_append ∈ zgw := List.mem_filter.mpr ⟨List.mem_of_getElem? (i := 1536) (by decide +kernel), rfl⟩
theorem wm_yX11_append : Cond.instanceMethod yX11_append ∈ zgw := List.mem_filter.mpr ⟨List.mem_of_getElem? (i := 1538) (by decide +kernel), rfl⟩
theorem wc_yX11_append : Cond.code yX11_append cX11_append 7 (some (.int)) ∈ zgw := List.mem_filter.mpr ⟨List.mem_of_getElem? (i := 1539) (by decide +kernel), rfl⟩
theorem w_1440 : Cond.methodLink RL 125 yX11_intersect ∈ zgw := List.mem_filter.mpr ⟨List.mem_of_getElem? (i := 1540) (by decide +kernel), rfl⟩
theorem wm_yX11_intersect : Cond.instanceMethod yX11_intersect ∈ zgw := List.mem_filter.mpr ⟨List.mem_of_getElem? (i := 1541) (by decide +kernel), rfl⟩
theorem ws_yX11_intersect : Cond.selects RX11 yX11_intersect yX11_intersect ∈ zgw := List.mem_filter.mpr ⟨List.mem_of_getElem? (i := 1542) (by decide +kernel), rfl⟩
theorem wc_yX11_intersect : Cond.code yX11_intersect cX11_intersect 10 (some (.int)) ∈ zgw := List.mem_filter.mpr ⟨List.mem_of_getElem? (i := 1543) (by decide +kernel), rfl⟩
theorem w_1444 : Cond.methodLink RX11 317 yX11_clearWide ∈ zgw := List.mem_filter.mpr ⟨List.mem_of_getElem? (i := 1544) (by decide +kernel), rfl⟩
theorem wm_yX11_clearWide : Cond.instanceMethod yX11_clearWide ∈ zgw := List.mem_filter.mpr ⟨List.mem_of_getElem? (i := 1546) (by decide +kernel), rfl⟩
theorem wc_yX11_clearWide : Cond.code yX11_clearWide cX11_clearWide 2 none ∈ zgw := List.mem_filter.mpr ⟨List.mem_of_getElem? (i := 1547) (by decide +kernel), rfl⟩
theorem w_1448 : Cond.methodLink RX11 320 yX11_storeWide ∈ zgw := List.mem_filter.mpr ⟨List.mem_of_getElem? (i := 1548) (by decide +kernel), rfl⟩
theorem wm_yX11_storeWide : Cond.instanceMethod yX11_storeWide ∈ zgw := List.mem_filter.mpr ⟨List.mem_of_getElem? (i := 1550) (by decide +kernel), rfl⟩
theorem wc_yX11_storeWide : Cond.code yX11_storeWide cX11_storeWide 5 (some (.int)) ∈ zgw := List.mem_filter.mpr ⟨List.mem_of_getElem? (i := 1551) (by decide +kernel), rfl⟩
theorem w_1452 : Cond.methodLink RX11 313 yX11_wideEssential ∈ zgw := List.mem_filter.mpr ⟨List.mem_of_getElem? (i := 1552) (by decide +kernel), rfl⟩
theorem wm_yX11_wideEssential : Cond.instanceMethod yX11_wideEssential ∈ zgw := List.mem_filter.mpr ⟨List.mem_of_getElem? (i := 1554) (by decide +kernel), rfl⟩
theorem wc_yX11_wideEssential : Cond.code yX11_wideEssential cX11_wideEssential 10 (some (.long)) ∈ zgw := List.mem_filter.mpr ⟨List.mem_of_getElem? (i := 1555) (by decide +kernel), rfl⟩
theorem w_1456 : Cond.constantLong RX11 307 (-1) ∈ zgw := List.mem_filter.mpr ⟨List.mem_of_getElem? (i := 1556) (by decide +kernel), rfl⟩
theorem w_1457 : Cond.methodLink RX11 309 yX11_wideUnion ∈ zgw := List.mem_filter.mpr ⟨List.mem_of_getElem? (i := 1557) (by decide +kernel), rfl⟩
theorem wm_yX11_wideUnion : Cond.instanceMethod yX11_wideUnion ∈ zgw := List.mem_filter.mpr ⟨List.mem_of_getElem? (i := 1559) (by decide +kernel), rfl⟩
theorem wc_yX11_wideUnion : Cond.code yX11_wideUnion cX11_wideUnion 2 (some (.long)) ∈ zgw := List.mem_filter.mpr ⟨List.mem_of_getElem? (i := 1560) (by decide +kernel), rfl⟩
theorem w_1461 : Cond.methodLink RL 129 yX11_reverse ∈ zgw := List.mem_filter.mpr ⟨List.mem_of_getElem? (i := 1561) (by decide +kernel), rfl⟩
theorem wm_yX11_reverse : Cond.instanceMethod yX11_reverse ∈ zgw := List.mem_filter.mpr ⟨List.mem_of_getElem? (i := 1562) (by decide +kernel), rfl⟩
theorem ws_yX11_reverse : Cond.selects RX11 yX11_reverse yX11_reverse ∈ zgw := List.mem_filter.mpr ⟨List.mem_of_getElem? (i := 1563) (by decide +kernel), rfl⟩
theorem wc_yX11_reverse : Cond.code yX11_reverse cX11_reverse 6 (some (.int)) ∈ zgw := List.mem_filter.mpr ⟨List.mem_of_getElem? (i := 1564) (by decide +kernel), rfl⟩
theorem w_1465 : Cond.methodLink RL 133 yX11_relabel ∈ zgw := List.mem_filter.mpr ⟨List.mem_of_getElem? (i := 1565) (by decide +kernel), rfl⟩
theorem wm_yX11_relabel : Cond.instanceMethod yX11_relabel ∈ zgw := List.mem_filter.mpr ⟨List.mem_of_getElem? (i := 1566) (by decide +kernel), rfl⟩
theorem ws_yX11_relabel : Cond.selects RX11 yX11_relabel yX11_relabel ∈ zgw := List.mem_filter.mpr ⟨List.mem_of_getElem? (i := 1567) (by decide +kernel), rfl⟩
theorem wc_yX11_relabel : Cond.code yX11_relabel cX11_relabel 7 (some (.int)) ∈ zgw := List.mem_filter.mpr ⟨List.mem_of_getElem? (i := 1568) (by decide +kernel), rfl⟩
theorem w_1469 : Cond.methodLink RL 137 yX11_forbid ∈ zgw := List.mem_filter.mpr ⟨List.mem_of_getElem? (i := 1569) (by decide +kernel), rfl⟩
theorem wm_yX11_forbid : Cond.instanceMethod yX11_forbid ∈ zgw := List.mem_filter.mpr ⟨List.mem_of_getElem? (i := 1570) (by decide +kernel), rfl⟩
theorem ws_yX11_forbid : Cond.selects RX11 yX11_forbid yX11_forbid ∈ zgw := List.mem_filter.mpr ⟨List.mem_of_getElem? (i := 1571) (by decide +kernel), rfl⟩
theorem wc_yX11_forbid : Cond.code yX11_forbid cX11_forbid 10 (some (.int)) ∈ zgw := List.mem_filter.mpr ⟨List.mem_of_getElem? (i := 1572) (by decide +kernel), rfl⟩
theorem w_1473 : Cond.methodLink RX11 328 yX11_border ∈ zgw := List.mem_filter.mpr ⟨List.mem_of_getElem? (i := 1573) (by decide +kernel), rfl⟩
theorem wm_yX11_border : Cond.instanceMethod yX11_border ∈ zgw := List.mem_filter.mpr ⟨List.mem_of_getElem? (i := 1575) (by decide +kernel), rfl⟩
theorem wc_yX11_border : Cond.code yX11_border cX11_border 6 (some (.int)) ∈ zgw := List.mem_filter.mpr ⟨List.mem_of_getElem? (i := 1576) (by decide +kernel), rfl⟩
theorem w_1477 : Cond.methodLink RX11 323 Lib.Math.min.name ∈ zgw := List.mem_filter.mpr ⟨List.mem_of_getElem? (i := 1577) (by decide +kernel), rfl⟩
theorem w_1478 : Cond.methodLink RL 150 yX11_undo ∈ zgw := List.mem_filter.mpr ⟨List.mem_of_getElem? (i := 1578) (by decide +kernel), rfl⟩
theorem wm_yX11_undo : Cond.instanceMethod yX11_undo ∈ zgw := List.mem_filter.mpr ⟨List.mem_of_getElem? (i := 1579) (by decide +kernel), rfl⟩
theorem ws_yX11_undo : Cond.selects RX11 yX11_undo yX11_undo ∈ zgw := List.mem_filter.mpr ⟨List.mem_of_getElem? (i := 1580) (by decide +kernel), rfl⟩
theorem wc_yX11_undo : Cond.code yX11_undo cX11_undo 2 (some (.int)) ∈ zgw := List.mem_filter.mpr ⟨List.mem_of_getElem? (i := 1581) (by decide +kernel), rfl⟩
theorem w_1482 : Cond.methodLink RL 154 yX11_save ∈ zgw := List.mem_filter.mpr ⟨List.mem_of_getElem? (i := 1582) (by decide +kernel), rfl⟩
theorem wm_yX11_save : Cond.instanceMethod yX11_save ∈ zgw := List.mem_filter.mpr ⟨List.mem_of_getElem? (i := 1583) (by decide +kernel), rfl⟩
theorem ws_yX11_save : Cond.selects RX11 yX11_save yX11_save ∈ zgw := List.mem_filter.mpr ⟨List.mem_of_getElem? (i := 1584) (by decide +kernel), rfl⟩
theorem wc_yX11_save : Cond.code yX11_save cX11_save 2 (some (.int)) ∈ zgw := List.mem_filter.mpr ⟨List.mem_of_getElem? (i := 1585) (by decide +kernel), rfl⟩
theorem w_1486 : Cond.methodLink RX11 335 yX11_total ∈ zgw := List.mem_filter.mpr ⟨List.mem_of_getElem? (i := 1586) (by decide +kernel), rfl⟩
theorem wm_yX11_total : Cond.instanceMethod yX11_total ∈ zgw := List.mem_filter.mpr ⟨List.mem_of_getElem? (i := 1588) (by decide +kernel), rfl⟩
theorem wc_yX11_total : Cond.code yX11_total cX11_total 3 (some (.int)) ∈ zgw := List.mem_filter.mpr ⟨List.mem_of_getElem? (i := 1589) (by decide +kernel), rfl⟩
theorem w_1490 : Cond.methodLink RL 158 yX11_restore ∈ zgw := List.mem_filter.mpr ⟨List.mem_of_getElem? (i := 1590) (by decide +kernel), rfl⟩
theorem wm_yX11_restore : Cond.instanceMethod yX11_restore ∈ zgw := List.mem_filter.mpr ⟨List.mem_of_getElem? (i := 1591) (by decide +kernel), rfl⟩
theorem ws_yX11_restore : Cond.selects RX11 yX11_restore yX11_restore ∈ zgw := List.mem_filter.mpr ⟨List.mem_of_getElem? (i := 1592) (by decide +kernel), rfl⟩
theorem wc_yX11_restore : Cond.code yX11_restore cX11_restore 2 (some (.int)) ∈ zgw := List.mem_filter.mpr ⟨List.mem_of_getElem? (i := 1593) (by decide +kernel), rfl⟩
theorem w_1494 : Cond.methodLink RL 162 yX11_createArray ∈ zgw := List.mem_filter.mpr ⟨List.mem_of_getElem? (i := 1594) (by decide +kernel), rfl⟩
theorem wm_yX11_createArray : Cond.instanceMethod yX11_createArray ∈ zgw := List.mem_filter.mpr ⟨List.mem_of_getElem? (i := 1595) (by decide +kernel), rfl⟩
theorem ws_yX11_createArray : Cond.selects RX11 yX11_createArray yX11_createArray ∈ zgw := List.mem_filter.mpr ⟨List.mem_of_getElem? (i := 1596) (by decide +kernel), rfl⟩
theorem wc_yX11_createArray : Cond.code yX11_createArray cX11_createArray 5 (some (.int)) ∈ zgw := List.mem_filter.mpr ⟨List.mem_of_getElem? (i := 1597) (by decide +kernel), rfl⟩
theorem w_1498 : Cond.methodLink RX11 338 yX11_isArray ∈ zgw := List.mem_filter.mpr ⟨List.mem_of_getElem? (i := 1598) (by decide +kernel), rfl⟩
theorem wt_yX11_isArray : Cond.static yX11_isArray ∈ zgw := List.mem_filter.mpr ⟨List.mem_of_getElem? (i := 1599) (by decide +kernel), rfl⟩
theorem wc_yX11_isArray : Cond.code yX11_isArray cX11_isArray 1 (some (.boolean)) ∈ zgw := List.mem_filter.mpr ⟨List.mem_of_getElem? (i := 1600) (by decide +kernel), rfl⟩
theorem w_1501 : Cond.methodLink RL 166 yX11_setElement ∈ zgw := List.mem_filter.mpr ⟨List.mem_of_getElem? (i := 1601) (by decide +kernel), rfl⟩
theorem wm_yX11_setElement : Cond.instanceMethod yX11_setElement ∈ zgw := List.mem_filter.mpr ⟨List.mem_of_getElem? (i := 1602) (by decide +kernel), rfl⟩
theorem ws_yX11_setElement : Cond.selects RX11 yX11_setElement yX11_setElement ∈ zgw := List.mem_filter.mpr ⟨List.mem_of_getElem? (i := 1603) (by decide +kernel), rfl⟩
theorem wc_yX11_setElement : Cond.code yX11_setElement cX11_setElement 4 (some (.int)) ∈ zgw := List.mem_filter.mpr ⟨List.mem_of_getElem? (i := 1604) (by decide +kernel), rfl⟩
theorem w_1505 : Cond.methodLink RX11 341 yX11_isIndex ∈ zgw := List.mem_filter.mpr ⟨List.mem_of_getElem? (i := 1605) (by decide +kernel), rfl⟩
theorem wm_yX11_isIndex : Cond.instanceMethod yX11_isIndex ∈ zgw := List.mem_filter.mpr ⟨List.mem_of_getElem? (i := 1607) (by decide +kernel), rfl⟩
theorem wc_yX11_isIndex : Cond.code yX11_isIndex cX11_isIndex 3 (some (.boolean)) ∈ zgw := List.mem_filter.mpr ⟨List.mem_of_getElem? (i := 1608) (by decide +kernel), rfl⟩
theorem w_1509 : Cond.constantFloat RX11 344 (1090519040) ∈ zgw := List.mem_filter.mpr ⟨List.mem_of_getElem? (i := 1609) (by decide +kernel), rfl⟩
theorem w_1510 : Cond.methodLink RL 170 yX11_setNaN ∈ zgw := List.mem_filter.mpr ⟨List.mem_of_getElem? (i := 1610) (by decide +kernel), rfl⟩
theorem wm_yX11_setNaN : Cond.instanceMethod yX11_setNaN ∈ zgw := List.mem_filter.mpr ⟨List.mem_of_getElem? (i := 1611) (by decide +kernel), rfl⟩
theorem ws_yX11_setNaN : Cond.selects RX11 yX11_setNaN yX11_setNaN ∈ zgw := List.mem_filter.mpr ⟨List.mem_of_getElem? (i := 1612) (by decide +kernel), rfl⟩
theorem wc_yX11_setNaN : Cond.code yX11_setNaN cX11_setNaN 3 (some (.int)) ∈ zgw := List.mem_filter.mpr ⟨List.mem_of_getElem? (i := 1613) (by decide +kernel), rfl⟩
theorem w_1514 : Cond.constantFloat RX11 347 (2143289344) ∈ zgw := List.mem_filter.mpr ⟨List.mem_of_getElem? (i := 1614) (by decide +kernel), rfl⟩
theorem w_1515 : Cond.methodLink RL 174 yX11_compareElements ∈ zgw := List.mem_filter.mpr ⟨List.mem_of_getElem? (i := 1615) (by decide +kernel), rfl⟩
theorem wm_yX11_compareElements : Cond.instanceMethod yX11_compareElements ∈ zgw := List.mem_filter.mpr ⟨List.mem_of_getElem? (i := 1616) (by decide +kernel), rfl⟩
theorem ws_yX11_compareElements : Cond.selects RX11 yX11_compareElements yX11_compareElements ∈ zgw := List.mem_filter.mpr ⟨List.mem_of_getElem? (i := 1617) (by decide +kernel), rfl⟩
theorem wc_yX11_compareElements : Cond.code yX11_compareElements cX11_compareElements 6 (some (.int)) ∈ zgw := List.mem_filter.mpr ⟨List.mem_of_getElem? (i := 1618) (by decide +kernel), rfl⟩
theorem w_1519 : Cond.methodLink RL 178 yX11_checkCounts ∈ zgw := List.mem_filter.mpr ⟨List.mem_of_getElem? (i := 1619) (by decide +kernel), rfl⟩
theorem wm_yX11_checkCounts : Cond.instanceMethod yX11_checkCounts ∈ zgw := List.mem_filter.mpr ⟨List.mem_of_getElem? (i := 1620) (by decide +kernel), rfl⟩
theorem ws_yX11_checkCounts : Cond.selects RX11 yX11_checkCounts yX11_checkCounts ∈ zgw := List.mem_filter.mpr ⟨List.mem_of_getElem? (i := 1621) (by decide +kernel), rfl⟩
theorem wc_yX11_checkCounts : Cond.code yX11_checkCounts cX11_checkCounts 4 (some (.int)) ∈ zgw := List.mem_filter.mpr ⟨List.mem_of_getElem? (i := 1622) (by decide +kernel), rfl⟩
theorem w_1523 : Cond.methodLink RX11 348 yX11_holds ∈ zgw := List.mem_filter.mpr ⟨List.mem_of_getElem? (i := 1623) (by decide +kernel), rfl⟩
theorem wm_yX11_holds : Cond.instanceMethod yX11_holds ∈ zgw := List.mem_filter.mpr ⟨List.mem_of_getElem? (i := 1625) (by decide +kernel), rfl⟩
theorem wc_yX11_holds : Cond.code yX11_holds cX11_holds 5 (some (.boolean)) ∈ zgw := List.mem_filter.mpr ⟨List.mem_of_getElem? (i := 1626) (by decide +kernel), rfl⟩
theorem w_1527 : Cond.constantLong RL 70 (4294967295) ∈ zgw := List.mem_filter.mpr ⟨List.mem_of_getElem? (i := 1627) (by decide +kernel), rfl⟩
theorem ws_yX10_readGraph : Cond.selects RX10 yX10_readGraph yX10_readGraph ∈ zgw := List.mem_filter.mpr ⟨List.mem_of_getElem? (i := 0) (by decide +kernel), rfl⟩
theorem ws_yX10_storeFresh : Cond.selects RX10 yX10_storeFresh yX10_storeFresh ∈ zgw := List.mem_filter.mpr ⟨List.mem_of_getElem? (i := 1) (by decide +kernel), rfl⟩
theorem ws_yX1_followAny : Cond.selects RX1 yX1_followAny yX1_followAny ∈ zgw := List.mem_filter.mpr ⟨List.mem_of_getElem? (i := 2) (by decide +kernel), rfl⟩
theorem ws_yX1_exits : Cond.selects RX1 yX1_exits yX1_exits ∈ zgw := List.mem_filter.mpr ⟨List.mem_of_getElem? (i := 3) (by decide +kernel), rfl⟩
theorem ws_yX1_verticesInto : Cond.selects RX1 yX1_verticesInto yX1_verticesInto ∈ zgw := List.mem_filter.mpr ⟨List.mem_of_getElem? (i := 4) (by decide +kernel), rfl⟩
theorem ws_yX10_countWords : Cond.selects RX10 yX10_countWords yX10_countWords ∈ zgw := List.mem_filter.mpr ⟨List.mem_of_getElem? (i := 5) (by decide +kernel), rfl⟩
theorem ws_yX10_loadSubsets : Cond.selects RX10 yX10_loadSubsets yX10_loadSubsets ∈ zgw := List.mem_filter.mpr ⟨List.mem_of_getElem? (i := 6) (by decide +kernel), rfl⟩
theorem ws_yX6_note : Cond.selects RX6 yX6_note yX6_note ∈ zgw := List.mem_filter.mpr ⟨List.mem_of_getElem? (i := 7) (by decide +kernel), rfl⟩
theorem ws_yX9_count : Cond.selects RX9 yX9_count yX9_count ∈ zgw := List.mem_filter.mpr ⟨List.mem_of_getElem? (i := 8) (by decide +kernel), rfl⟩
theorem ws_yX10_wordFault : Cond.selects RX10 yX10_wordFault yX10_wordFault ∈ zgw := List.mem_filter.mpr ⟨List.mem_of_getElem? (i := 9) (by decide +kernel), rfl⟩
theorem ws_yX10_endsOfInput : Cond.selects RX10 yX10_endsOfInput yX10_endsOfInput ∈ zgw := List.mem_filter.mpr ⟨List.mem_of_getElem? (i := 10) (by decide +kernel), rfl⟩
theorem ws_yX6_countForbiddenFrom : Cond.selects RX6 yX6_countForbiddenFrom yX6_countForbiddenFrom ∈ zgw := List.mem_filter.mpr ⟨List.mem_of_getElem? (i := 11) (by decide +kernel), rfl⟩
theorem ws_yX6_countForbiddenBy : Cond.selects RX6 yX6_countForbiddenBy yX6_countForbiddenBy ∈ zgw := List.mem_filter.mpr ⟨List.mem_of_getElem? (i := 12) (by decide +kernel), rfl⟩
theorem ws_yX6_tailAfter : Cond.selects RX6 yX6_tailAfter yX6_tailAfter ∈ zgw := List.mem_filter.mpr ⟨List.mem_of_getElem? (i := 13) (by decide +kernel), rfl⟩
theorem ws_yX6_countNecklaces : Cond.selects RX6 yX6_countNecklaces yX6_countNecklaces ∈ zgw := List.mem_filter.mpr ⟨List.mem_of_getElem? (i := 14) (by decide +kernel), rfl⟩
theorem ws_yX6_repeatsForever : Cond.selects RX6 yX6_repeatsForever yX6_repeatsForever ∈ zgw := List.mem_filter.mpr ⟨List.mem_of_getElem? (i := 15) (by decide +kernel), rfl⟩
theorem ws_yX5_countEdges : Cond.selects RX5 yX5_countEdges yX5_countEdges ∈ zgw := List.mem_filter.mpr ⟨List.mem_of_getElem? (i := 16) (by decide +kernel), rfl⟩
theorem ws_yX5_multiply : Cond.selects RX5 yX5_multiply yX5_multiply ∈ zgw := List.mem_filter.mpr ⟨List.mem_of_getElem? (i := 17) (by decide +kernel), rfl⟩
theorem ws_yX5_trace : Cond.selects RX5 yX5_trace yX5_trace ∈ zgw := List.mem_filter.mpr ⟨List.mem_of_getElem? (i := 18) (by decide +kernel), rfl⟩
theorem ws_yX10_buildCover : Cond.selects RX10 yX10_buildCover yX10_buildCover ∈ zgw := List.mem_filter.mpr ⟨List.mem_of_getElem? (i := 19) (by decide +kernel), rfl⟩
theorem ws_yX0_findLastComponent : Cond.selects RX0 yX0_findLastComponent yX0_findLastComponent ∈ zgw := List.mem_filter.mpr ⟨List.mem_of_getElem? (i := 20) (by decide +kernel), rfl⟩
theorem ws_yX0_collectFrom : Cond.selects RX0 yX0_collectFrom yX0_collectFrom ∈ zgw := List.mem_filter.mpr ⟨List.mem_of_getElem? (i := 21) (by decide +kernel), rfl⟩
theorem ws_yX0_collect : Cond.selects RX0 yX0_collect yX0_collect ∈ zgw := List.mem_filter.mpr ⟨List.mem_of_getElem? (i := 22) (by decide +kernel), rfl⟩
theorem ws_yX0_memberWithoutWayTo : Cond.selects RX0 yX0_memberWithoutWayTo yX0_memberWithoutWayTo ∈ zgw := List.mem_filter.mpr ⟨List.mem_of_getElem? (i := 23) (by decide +kernel), rfl⟩
theorem ws_yX0_markMembersBeforeMarked : Cond.selects RX0 yX0_markMembersBeforeMarked yX0_markMembersBeforeMarked ∈ zgw := List.mem_filter.mpr ⟨List.mem_of_getElem? (i := 24) (by decide +kernel), rfl⟩
theorem ws_yX0_mergeMembers : Cond.selects RX0 yX0_mergeMembers yX0_mergeMembers ∈ zgw := List.mem_filter.mpr ⟨List.mem_of_getElem? (i := 25) (by decide +kernel), rfl⟩
theorem ws_yX0_splitClasses : Cond.selects RX0 yX0_splitClasses yX0_splitClasses ∈ zgw := List.mem_filter.mpr ⟨List.mem_of_getElem? (i := 26) (by decide +kernel), rfl⟩
theorem ws_yX0_leadAlike : Cond.selects RX0 yX0_leadAlike yX0_leadAlike ∈ zgw := List.mem_filter.mpr ⟨List.mem_of_getElem? (i := 27) (by decide +kernel), rfl⟩
theorem ws_yX0_classOf : Cond.selects RX0 yX0_classOf yX0_classOf ∈ zgw := List.mem_filter.mpr ⟨List.mem_of_getElem? (i := 28) (by decide +kernel), rfl⟩
theorem ws_yX0_linkClasses : Cond.selects RX0 yX0_linkClasses yX0_linkClasses ∈ zgw := List.mem_filter.mpr ⟨List.mem_of_getElem? (i := 29) (by decide +kernel), rfl⟩
theorem ws_yX0_findReset : Cond.selects RX0 yX0_findReset yX0_findReset ∈ zgw := List.mem_filter.mpr ⟨List.mem_of_getElem? (i := 30) (by decide +kernel), rfl⟩
theorem ws_yX0_numberVertices : Cond.selects RX0 yX0_numberVertices yX0_numberVertices ∈ zgw := List.mem_filter.mpr ⟨List.mem_of_getElem? (i := 31) (by decide +kernel), rfl⟩
theorem ws_yX0_numberVertex : Cond.selects RX0 yX0_numberVertex yX0_numberVertex ∈ zgw := List.mem_filter.mpr ⟨List.mem_of_getElem? (i := 32) (by decide +kernel), rfl⟩
theorem ws_yX0_targetInMerged : Cond.selects RX0 yX0_targetInMerged yX0_targetInMerged ∈ zgw := List.mem_filter.mpr ⟨List.mem_of_getElem? (i := 33) (by decide +kernel), rfl⟩
theorem ws_yX0_pairsAfter : Cond.selects RX0 yX0_pairsAfter yX0_pairsAfter ∈ zgw := List.mem_filter.mpr ⟨List.mem_of_getElem? (i := 34) (by decide +kernel), rfl⟩
theorem ws_yX0_pairsAfterPair : Cond.selects RX0 yX0_pairsAfterPair yX0_pairsAfterPair ∈ zgw := List.mem_filter.mpr ⟨List.mem_of_getElem? (i := 35) (by decide +kernel), rfl⟩
theorem ws_yX4_forget : Cond.selects RX4 yX4_forget yX4_forget ∈ zgw := List.mem_filter.mpr ⟨List.mem_of_getElem? (i := 36) (by decide +kernel), rfl⟩
theorem ws_yX4_pairAt : Cond.selects RX4 yX4_pairAt yX4_pairAt ∈ zgw := List.mem_filter.mpr ⟨List.mem_of_getElem? (i := 37) (by decide +kernel), rfl⟩
theorem ws_yX4_note : Cond.selects RX4 yX4_note yX4_note ∈ zgw := List.mem_filter.mpr ⟨List.mem_of_getElem? (i := 38) (by decide +kernel), rfl⟩
theorem ws_yX4_makeRoom : Cond.selects RX4 yX4_makeRoom yX4_makeRoom ∈ zgw := List.mem_filter.mpr ⟨List.mem_of_getElem? (i := 39) (by decide +kernel), rfl⟩
theorem ws_yX4_arrivalAt : Cond.selects RX4 yX4_arrivalAt yX4_arrivalAt ∈ zgw := List.mem_filter.mpr ⟨List.mem_of_getElem? (i := 40) (by decide +kernel), rfl⟩
theorem ws_yX10_storeWide : Cond.selects RX10 yX10_storeWide yX10_storeWide ∈ zgw := List.mem_filter.mpr ⟨List.mem_of_getElem? (i := 41) (by decide +kernel), rfl⟩
theorem ws_yX8_trim : Cond.selects RX8 yX8_trim yX8_trim ∈ zgw := List.mem_filter.mpr ⟨List.mem_of_getElem? (i := 42) (by decide +kernel), rfl⟩
theorem ws_yX8_successors : Cond.selects RX8 yX8_successors yX8_successors ∈ zgw := List.mem_filter.mpr ⟨List.mem_of_getElem? (i := 43) (by decide +kernel), rfl⟩
theorem ws_yX8_row : Cond.selects RX8 yX8_row yX8_row ∈ zgw := List.mem_filter.mpr ⟨List.mem_of_getElem? (i := 44) (by decide +kernel), rfl⟩
theorem ws_yX8_numberVertices : Cond.selects RX8 yX8_numberVertices yX8_numberVertices ∈ zgw := List.mem_filter.mpr ⟨List.mem_of_getElem? (i := 45) (by decide +kernel), rfl⟩
theorem ws_yX8_copyEdges : Cond.selects RX8 yX8_copyEdges yX8_copyEdges ∈ zgw := List.mem_filter.mpr ⟨List.mem_of_getElem? (i := 46) (by decide +kernel), rfl⟩
theorem ws_yX10_trackInput : Cond.selects RX10 yX10_trackInput yX10_trackInput ∈ zgw := List.mem_filter.mpr ⟨List.mem_of_getElem? (i := 47) (by decide +kernel), rfl⟩
theorem ws_yX10_overlap : Cond.selects RX10 yX10_overlap yX10_overlap ∈ zgw := List.mem_filter.mpr ⟨List.mem_of_getElem? (i := 48) (by decide +kernel), rfl⟩
theorem ws_yX10_repeatsPrefix : Cond.selects RX10 yX10_repeatsPrefix yX10_repeatsPrefix ∈ zgw := List.mem_filter.mpr ⟨List.mem_of_getElem? (i := 49) (by decide +kernel), rfl⟩
theorem ws_yX10_writeEdge : Cond.selects RX10 yX10_writeEdge yX10_writeEdge ∈ zgw := List.mem_filter.mpr ⟨List.mem_of_getElem? (i := 50) (by decide +kernel), rfl⟩
theorem ws_yX10_countAllEdges : Cond.selects RX10 yX10_countAllEdges yX10_countAllEdges ∈ zgw := List.mem_filter.mpr ⟨List.mem_of_getElem? (i := 51) (by decide +kernel), rfl⟩
theorem ws_yX3_converted : Cond.selects RX3 yX3_converted yX3_converted ∈ zgw := List.mem_filter.mpr ⟨List.mem_of_getElem? (i := 52) (by decide +kernel), rfl⟩
theorem ws_yX11_make : Cond.selects RX11 yX11_make yX11_make ∈ zgw := List.mem_filter.mpr ⟨List.mem_of_getElem? (i := 53) (by decide +kernel), rfl⟩
theorem ws_yX11_replace : Cond.selects RX11 yX11_replace yX11_replace ∈ zgw := List.mem_filter.mpr ⟨List.mem_of_getElem? (i := 54) (by decide +kernel), rfl⟩
theorem ws_yX11_edgesOf : Cond.selects RX11 yX11_edgesOf yX11_edgesOf ∈ zgw := List.mem_filter.mpr ⟨List.mem_of_getElem? (i := 55) (by decide +kernel), rfl⟩
theorem ws_yX11_to : Cond.selects RX11 yX11_to yX11_to ∈ zgw := List.mem_filter.mpr ⟨List.mem_of_getElem? (i := 56) (by decide +kernel), rfl⟩
theorem ws_yX11_clearMade : Cond.selects RX11 yX11_clearMade yX11_clearMade ∈ zgw := List.mem_filter.mpr ⟨List.mem_of_getElem? (i := 57) (by decide +kernel), rfl⟩
theorem ws_yX11_sign : Cond.selects RX11 yX11_sign yX11_sign ∈ zgw := List.mem_filter.mpr ⟨List.mem_of_getElem? (i := 58) (by decide +kernel), rfl⟩
theorem ws_yX11_essentialOf : Cond.selects RX11 yX11_essentialOf yX11_essentialOf ∈ zgw := List.mem_filter.mpr ⟨List.mem_of_getElem? (i := 59) (by decide +kernel), rfl⟩
theorem ws_yX11_unionOf : Cond.selects RX11 yX11_unionOf yX11_unionOf ∈ zgw := List.mem_filter.mpr ⟨List.mem_of_getElem? (i := 60) (by decide +kernel), rfl⟩
theorem ws_yX11_isWhole : Cond.selects RX11 yX11_isWhole yX11_isWhole ∈ zgw := List.mem_filter.mpr ⟨List.mem_of_getElem? (i := 61) (by decide +kernel), rfl⟩
theorem ws_yX11_step : Cond.selects RX11 yX11_step yX11_step ∈ zgw := List.mem_filter.mpr ⟨List.mem_of_getElem? (i := 62) (by decide +kernel), rfl⟩
theorem ws_yX11_prepare : Cond.selects RX11 yX11_prepare yX11_prepare ∈ zgw := List.mem_filter.mpr ⟨List.mem_of_getElem? (i := 63) (by decide +kernel), rfl⟩
theorem ws_yX11_image : Cond.selects RX11 yX11_image yX11_image ∈ zgw := List.mem_filter.mpr ⟨List.mem_of_getElem? (i := 64) (by decide +kernel), rfl⟩
theorem ws_yX11_countTo : Cond.selects RX11 yX11_countTo yX11_countTo ∈ zgw := List.mem_filter.mpr ⟨List.mem_of_getElem? (i := 65) (by decide +kernel), rfl⟩
theorem ws_yX11_readWord : Cond.selects RX11 yX11_readWord yX11_readWord ∈ zgw := List.mem_filter.mpr ⟨List.mem_of_getElem? (i := 66) (by decide +kernel), rfl⟩
theorem ws_yX11_behind : Cond.selects RX11 yX11_behind yX11_behind ∈ zgw := List.mem_filter.mpr ⟨List.mem_of_getElem? (i := 67) (by decide +kernel), rfl⟩
theorem ws_yX11_writeOut : Cond.selects RX11 yX11_writeOut yX11_writeOut ∈ zgw := List.mem_filter.mpr ⟨List.mem_of_getElem? (i := 68) (by decide +kernel), rfl⟩
theorem ws_yX11_spell : Cond.selects RX11 yX11_spell yX11_spell ∈ zgw := List.mem_filter.mpr ⟨List.mem_of_getElem? (i := 69) (by decide +kernel), rfl⟩
theorem ws_yX11_isForbidden : Cond.selects RX11 yX11_isForbidden yX11_isForbidden ∈ zgw := List.mem_filter.mpr ⟨List.mem_of_getElem? (i := 70) (by decide +kernel), rfl⟩
theorem ws_yX11_countPeriodic : Cond.selects RX11 yX11_countPeriodic yX11_countPeriodic ∈ zgw := List.mem_filter.mpr ⟨List.mem_of_getElem? (i := 71) (by decide +kernel), rfl⟩
theorem ws_yX11_isPrimitive : Cond.selects RX11 yX11_isPrimitive yX11_isPrimitive ∈ zgw := List.mem_filter.mpr ⟨List.mem_of_getElem? (i := 72) (by decide +kernel), rfl⟩
theorem ws_yX11_isPeriodic : Cond.selects RX11 yX11_isPeriodic yX11_isPeriodic ∈ zgw := List.mem_filter.mpr ⟨List.mem_of_getElem? (i := 73) (by decide +kernel), rfl⟩
theorem ws_yX11_fillMatrix : Cond.selects RX11 yX11_fillMatrix yX11_fillMatrix ∈ zgw := List.mem_filter.mpr ⟨List.mem_of_getElem? (i := 74) (by decide +kernel), rfl⟩
theorem ws_yX11_place : Cond.selects RX11 yX11_place yX11_place ∈ zgw := List.mem_filter.mpr ⟨List.mem_of_getElem? (i := 75) (by decide +kernel), rfl⟩
theorem ws_yX11_multiply : Cond.selects RX11 yX11_multiply yX11_multiply ∈ zgw := List.mem_filter.mpr ⟨List.mem_of_getElem? (i := 76) (by decide +kernel), rfl⟩
theorem ws_yX11_findCover : Cond.selects RX11 yX11_findCover yX11_findCover ∈ zgw := List.mem_filter.mpr ⟨List.mem_of_getElem? (i := 77) (by decide +kernel), rfl⟩
theorem ws_yX11_findMembers : Cond.selects RX11 yX11_findMembers yX11_findMembers ∈ zgw := List.mem_filter.mpr ⟨List.mem_of_getElem? (i := 78) (by decide +kernel), rfl⟩
theorem ws_yX11_findSets : Cond.selects RX11 yX11_findSets yX11_findSets ∈ zgw := List.mem_filter.mpr ⟨List.mem_of_getElem? (i := 79) (by decide +kernel), rfl⟩
theorem ws_yX11_clearSeen : Cond.selects RX11 yX11_clearSeen yX11_clearSeen ∈ zgw := List.mem_filter.mpr ⟨List.mem_of_getElem? (i := 80) (by decide +kernel), rfl⟩
theorem ws_yX11_see : Cond.selects RX11 yX11_see yX11_see ∈ zgw := List.mem_filter.mpr ⟨List.mem_of_getElem? (i := 81) (by decide +kernel), rfl⟩
theorem ws_yX11_classify : Cond.selects RX11 yX11_classify yX11_classify ∈ zgw := List.mem_filter.mpr ⟨List.mem_of_getElem? (i := 82) (by decide +kernel), rfl⟩
theorem ws_yX11_isAlike : Cond.selects RX11 yX11_isAlike yX11_isAlike ∈ zgw := List.mem_filter.mpr ⟨List.mem_of_getElem? (i := 83) (by decide +kernel), rfl⟩
theorem ws_yX11_seeFrom : Cond.selects RX11 yX11_seeFrom yX11_seeFrom ∈ zgw := List.mem_filter.mpr ⟨List.mem_of_getElem? (i := 84) (by decide +kernel), rfl⟩
theorem ws_yX11_memberOf : Cond.selects RX11 yX11_memberOf yX11_memberOf ∈ zgw := List.mem_filter.mpr ⟨List.mem_of_getElem? (i := 85) (by decide +kernel), rfl⟩
theorem ws_yX11_resetEnd : Cond.selects RX11 yX11_resetEnd yX11_resetEnd ∈ zgw := List.mem_filter.mpr ⟨List.mem_of_getElem? (i := 86) (by decide +kernel), rfl⟩
theorem ws_yX11_findReset : Cond.selects RX11 yX11_findReset yX11_findReset ∈ zgw := List.mem_filter.mpr ⟨List.mem_of_getElem? (i := 87) (by decide +kernel), rfl⟩
theorem ws_yX11_led : Cond.selects RX11 yX11_led yX11_led ∈ zgw := List.mem_filter.mpr ⟨List.mem_of_getElem? (i := 88) (by decide +kernel), rfl⟩
theorem ws_yX11_isSingle : Cond.selects RX11 yX11_isSingle yX11_isSingle ∈ zgw := List.mem_filter.mpr ⟨List.mem_of_getElem? (i := 89) (by decide +kernel), rfl⟩
theorem ws_yX11_spellDifference : Cond.selects RX11 yX11_spellDifference yX11_spellDifference ∈ zgw := List.mem_filter.mpr ⟨List.mem_of_getElem? (i := 90) (by decide +kernel), rfl⟩
theorem ws_yX11_append : Cond.selects RX11 yX11_append yX11_append ∈ zgw := List.mem_filter.mpr ⟨List.mem_of_getElem? (i := 91) (by decide +kernel), rfl⟩
theorem ws_yX11_clearWide : Cond.selects RX11 yX11_clearWide yX11_clearWide ∈ zgw := List.mem_filter.mpr ⟨List.mem_of_getElem? (i := 92) (by decide +kernel), rfl⟩
theorem ws_yX11_storeWide : Cond.selects RX11 yX11_storeWide yX11_storeWide ∈ zgw := List.mem_filter.mpr ⟨List.mem_of_getElem? (i := 93) (by decide +kernel), rfl⟩
theorem ws_yX11_wideEssential : Cond.selects RX11 yX11_wideEssential yX11_wideEssential ∈ zgw := List.mem_filter.mpr ⟨List.mem_of_getElem? (i := 94) (by decide +kernel), rfl⟩
theorem ws_yX11_wideUnion : Cond.selects RX11 yX11_wideUnion yX11_wideUnion ∈ zgw := List.mem_filter.mpr ⟨List.mem_of_getElem? (i := 95) (by decide +kernel), rfl⟩
theorem ws_yX11_border : Cond.selects RX11 yX11_border yX11_border ∈ zgw := List.mem_filter.mpr ⟨List.mem_of_getElem? (i := 96) (by decide +kernel), rfl⟩
theorem ws_yX11_total : Cond.selects RX11 yX11_total yX11_total ∈ zgw := List.mem_filter.mpr ⟨List.mem_of_getElem? (i := 97) (by decide +kernel), rfl⟩
theorem ws_yX11_isIndex : Cond.selects RX11 yX11_isIndex yX11_isIndex ∈ zgw := List.mem_filter.mpr ⟨List.mem_of_getElem? (i := 98) (by decide +kernel), rfl⟩
theorem ws_yX11_holds : Cond.selects RX11 yX11_holds yX11_holds ∈ zgw := List.mem_filter.mpr ⟨List.mem_of_getElem? (i := 99) (by decide +kernel), rfl⟩
