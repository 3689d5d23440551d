/-! ===== the law, case by case, by program ===== -/
theorem dL_law_1200 : decode cL_law 1200 = .ok (.aload_n 1, 1) := by decide +kernel
theorem dL_law_1201 : decode cL_law 1201 = .ok (.invokevirtual 146, 3) := by decide +kernel
theorem dL_law_1204 : decode cL_law 1204 = .ok (.aload_n 2, 1) := by decide +kernel
theorem dL_law_1205 : decode cL_law 1205 = .ok (.invokevirtual 149, 3) := by decide +kernel
theorem dL_law_1208 : decode cL_law 1208 = .ok (.if_icmp .eq 305, 3) := by decide +kernel
theorem dL_law_1213 : decode cL_law 1213 = .ok (.aload_n 1, 1) := by decide +kernel
theorem dL_law_1214 : decode cL_law 1214 = .ok (.aload_n 0, 1) := by decide +kernel
theorem dL_law_1215 : decode cL_law 1215 = .ok (.iload 4, 2) := by decide +kernel
theorem dL_law_1217 : decode cL_law 1217 = .ok (.iconst 1, 1) := by decide +kernel
theorem dL_law_1218 : decode cL_law 1218 = .ok (.iadd, 1) := by decide +kernel
theorem dL_law_1219 : decode cL_law 1219 = .ok (.iaload, 1) := by decide +kernel
theorem dL_law_1220 : decode cL_law 1220 = .ok (.invokevirtual 150, 3) := by decide +kernel
theorem dL_law_1223 : decode cL_law 1223 = .ok (.aload_n 2, 1) := by decide +kernel
theorem dL_law_1224 : decode cL_law 1224 = .ok (.aload_n 0, 1) := by decide +kernel
theorem dL_law_1225 : decode cL_law 1225 = .ok (.iload 4, 2) := by decide +kernel
theorem dL_law_1227 : decode cL_law 1227 = .ok (.iconst 1, 1) := by decide +kernel
theorem dL_law_1228 : decode cL_law 1228 = .ok (.iadd, 1) := by decide +kernel
theorem dL_law_1229 : decode cL_law 1229 = .ok (.iaload, 1) := by decide +kernel
theorem dL_law_1230 : decode cL_law 1230 = .ok (.invokevirtual 153, 3) := by decide +kernel
theorem dL_law_1233 : decode cL_law 1233 = .ok (.if_icmp .eq 280, 3) := by decide +kernel
theorem dL_law_1238 : decode cL_law 1238 = .ok (.aload_n 1, 1) := by decide +kernel
theorem dL_law_1239 : decode cL_law 1239 = .ok (.aload_n 0, 1) := by decide +kernel
theorem dL_law_1240 : decode cL_law 1240 = .ok (.iload 4, 2) := by decide +kernel
theorem dL_law_1242 : decode cL_law 1242 = .ok (.iconst 1, 1) := by decide +kernel
theorem dL_law_1243 : decode cL_law 1243 = .ok (.iadd, 1) := by decide +kernel
theorem dL_law_1244 : decode cL_law 1244 = .ok (.iaload, 1) := by decide +kernel
theorem dL_law_1245 : decode cL_law 1245 = .ok (.invokevirtual 154, 3) := by decide +kernel
theorem dL_law_1248 : decode cL_law 1248 = .ok (.aload_n 2, 1) := by decide +kernel
theorem dL_law_1249 : decode cL_law 1249 = .ok (.aload_n 0, 1) := by decide +kernel
theorem dL_law_1250 : decode cL_law 1250 = .ok (.iload 4, 2) := by decide +kernel
theorem dL_law_1252 : decode cL_law 1252 = .ok (.iconst 1, 1) := by decide +kernel
theorem dL_law_1253 : decode cL_law 1253 = .ok (.iadd, 1) := by decide +kernel
theorem dL_law_1254 : decode cL_law 1254 = .ok (.iaload, 1) := by decide +kernel
theorem dL_law_1255 : decode cL_law 1255 = .ok (.invokevirtual 157, 3) := by decide +kernel
theorem dL_law_1258 : decode cL_law 1258 = .ok (.if_icmp .eq 255, 3) := by decide +kernel
theorem dL_law_1263 : decode cL_law 1263 = .ok (.aload_n 1, 1) := by decide +kernel
theorem dL_law_1264 : decode cL_law 1264 = .ok (.invokevirtual 158, 3) := by decide +kernel
theorem dL_law_1267 : decode cL_law 1267 = .ok (.aload_n 2, 1) := by decide +kernel
theorem dL_law_1268 : decode cL_law 1268 = .ok (.invokevirtual 161, 3) := by decide +kernel
theorem dL_law_1271 : decode cL_law 1271 = .ok (.if_icmp .eq 242, 3) := by decide +kernel
theorem dL_law_1276 : decode cL_law 1276 = .ok (.aload_n 1, 1) := by decide +kernel
theorem dL_law_1277 : decode cL_law 1277 = .ok (.aload_n 0, 1) := by decide +kernel
theorem dL_law_1278 : decode cL_law 1278 = .ok (.iload 4, 2) := by decide +kernel
theorem dL_law_1280 : decode cL_law 1280 = .ok (.iconst 1, 1) := by decide +kernel
theorem dL_law_1281 : decode cL_law 1281 = .ok (.iadd, 1) := by decide +kernel
theorem dL_law_1282 : decode cL_law 1282 = .ok (.iaload, 1) := by decide +kernel
theorem dL_law_1283 : decode cL_law 1283 = .ok (.aload_n 0, 1) := by decide +kernel
theorem dL_law_1284 : decode cL_law 1284 = .ok (.iload 4, 2) := by decide +kernel
theorem dL_law_1286 : decode cL_law 1286 = .ok (.iconst 2, 1) := by decide +kernel
theorem dL_law_1287 : decode cL_law 1287 = .ok (.iadd, 1) := by decide +kernel
theorem dL_law_1288 : decode cL_law 1288 = .ok (.iaload, 1) := by decide +kernel
theorem dL_law_1289 : decode cL_law 1289 = .ok (.invokevirtual 162, 3) := by decide +kernel
theorem dL_law_1292 : decode cL_law 1292 = .ok (.aload_n 2, 1) := by decide +kernel
theorem dL_law_1293 : decode cL_law 1293 = .ok (.aload_n 0, 1) := by decide +kernel
theorem dL_law_1294 : decode cL_law 1294 = .ok (.iload 4, 2) := by decide +kernel
theorem dL_law_1296 : decode cL_law 1296 = .ok (.iconst 1, 1) := by decide +kernel
theorem dL_law_1297 : decode cL_law 1297 = .ok (.iadd, 1) := by decide +kernel
theorem dL_law_1298 : decode cL_law 1298 = .ok (.iaload, 1) := by decide +kernel
theorem dL_law_1299 : decode cL_law 1299 = .ok (.aload_n 0, 1) := by decide +kernel
theorem dL_law_1300 : decode cL_law 1300 = .ok (.iload 4, 2) := by decide +kernel
theorem dL_law_1302 : decode cL_law 1302 = .ok (.iconst 2, 1) := by decide +kernel
theorem dL_law_1303 : decode cL_law 1303 = .ok (.iadd, 1) := by decide +kernel
theorem dL_law_1304 : decode cL_law 1304 = .ok (.iaload, 1) := by decide +kernel
theorem dL_law_1305 : decode cL_law 1305 = .ok (.invokevirtual 165, 3) := by decide +kernel
theorem dL_law_1308 : decode cL_law 1308 = .ok (.if_icmp .eq 205, 3) := by decide +kernel
theorem dL_law_1313 : decode cL_law 1313 = .ok (.aload_n 1, 1) := by decide +kernel
theorem dL_law_1314 : decode cL_law 1314 = .ok (.aload_n 0, 1) := by decide +kernel
theorem dL_law_1315 : decode cL_law 1315 = .ok (.iload 4, 2) := by decide +kernel
theorem dL_law_1317 : decode cL_law 1317 = .ok (.iconst 1, 1) := by decide +kernel
theorem dL_law_1318 : decode cL_law 1318 = .ok (.iadd, 1) := by decide +kernel
theorem dL_law_1319 : decode cL_law 1319 = .ok (.iaload, 1) := by decide +kernel
theorem dL_law_1320 : decode cL_law 1320 = .ok (.aload_n 0, 1) := by decide +kernel
theorem dL_law_1321 : decode cL_law 1321 = .ok (.iload 4, 2) := by decide +kernel
theorem dL_law_1323 : decode cL_law 1323 = .ok (.iconst 2, 1) := by decide +kernel
theorem dL_law_1324 : decode cL_law 1324 = .ok (.iadd, 1) := by decide +kernel
theorem dL_law_1325 : decode cL_law 1325 = .ok (.iaload, 1) := by decide +kernel
theorem dL_law_1326 : decode cL_law 1326 = .ok (.invokevirtual 166, 3) := by decide +kernel
theorem dL_law_1329 : decode cL_law 1329 = .ok (.aload_n 2, 1) := by decide +kernel
theorem dL_law_1330 : decode cL_law 1330 = .ok (.aload_n 0, 1) := by decide +kernel
theorem dL_law_1331 : decode cL_law 1331 = .ok (.iload 4, 2) := by decide +kernel
theorem dL_law_1333 : decode cL_law 1333 = .ok (.iconst 1, 1) := by decide +kernel
theorem dL_law_1334 : decode cL_law 1334 = .ok (.iadd, 1) := by decide +kernel
theorem dL_law_1335 : decode cL_law 1335 = .ok (.iaload, 1) := by decide +kernel
theorem dL_law_1336 : decode cL_law 1336 = .ok (.aload_n 0, 1) := by decide +kernel
theorem dL_law_1337 : decode cL_law 1337 = .ok (.iload 4, 2) := by decide +kernel
theorem dL_law_1339 : decode cL_law 1339 = .ok (.iconst 2, 1) := by decide +kernel
theorem dL_law_1340 : decode cL_law 1340 = .ok (.iadd, 1) := by decide +kernel
theorem dL_law_1341 : decode cL_law 1341 = .ok (.iaload, 1) := by decide +kernel
theorem dL_law_1342 : decode cL_law 1342 = .ok (.invokevirtual 169, 3) := by decide +kernel
theorem dL_law_1345 : decode cL_law 1345 = .ok (.if_icmp .eq 168, 3) := by decide +kernel
theorem dL_law_1350 : decode cL_law 1350 = .ok (.aload_n 1, 1) := by decide +kernel
theorem dL_law_1351 : decode cL_law 1351 = .ok (.aload_n 0, 1) := by decide +kernel
theorem dL_law_1352 : decode cL_law 1352 = .ok (.iload 4, 2) := by decide +kernel
theorem dL_law_1354 : decode cL_law 1354 = .ok (.iconst 1, 1) := by decide +kernel
theorem dL_law_1355 : decode cL_law 1355 = .ok (.iadd, 1) := by decide +kernel
theorem dL_law_1356 : decode cL_law 1356 = .ok (.iaload, 1) := by decide +kernel
theorem dL_law_1357 : decode cL_law 1357 = .ok (.invokevirtual 170, 3) := by decide +kernel
theorem dL_law_1360 : decode cL_law 1360 = .ok (.aload_n 2, 1) := by decide +kernel
theorem dL_law_1361 : decode cL_law 1361 = .ok (.aload_n 0, 1) := by decide +kernel
theorem dL_law_1362 : decode cL_law 1362 = .ok (.iload 4, 2) := by decide +kernel
theorem dL_law_1364 : decode cL_law 1364 = .ok (.iconst 1, 1) := by decide +kernel
theorem dL_law_1365 : decode cL_law 1365 = .ok (.iadd, 1) := by decide +kernel
theorem dL_law_1366 : decode cL_law 1366 = .ok (.iaload, 1) := by decide +kernel
theorem dL_law_1367 : decode cL_law 1367 = .ok (.invokevirtual 173, 3) := by decide +kernel
theorem dL_law_1370 : decode cL_law 1370 = .ok (.if_icmp .eq 143, 3) := by decide +kernel
theorem dL_law_1375 : decode cL_law 1375 = .ok (.aload_n 1, 1) := by decide +kernel
theorem dL_law_1376 : decode cL_law 1376 = .ok (.aload_n 0, 1) := by decide +kernel
theorem dL_law_1377 : decode cL_law 1377 = .ok (.iload 4, 2) := by decide +kernel
theorem dL_law_1379 : decode cL_law 1379 = .ok (.iconst 1, 1) := by decide +kernel
theorem dL_law_1380 : decode cL_law 1380 = .ok (.iadd, 1) := by decide +kernel
theorem dL_law_1381 : decode cL_law 1381 = .ok (.iaload, 1) := by decide +kernel
theorem dL_law_1382 : decode cL_law 1382 = .ok (.invokevirtual 174, 3) := by decide +kernel
theorem dL_law_1385 : decode cL_law 1385 = .ok (.aload_n 2, 1) := by decide +kernel
theorem dL_law_1386 : decode cL_law 1386 = .ok (.aload_n 0, 1) := by decide +kernel
theorem dL_law_1387 : decode cL_law 1387 = .ok (.iload 4, 2) := by decide +kernel
theorem dL_law_1389 : decode cL_law 1389 = .ok (.iconst 1, 1) := by decide +kernel
theorem dL_law_1390 : decode cL_law 1390 = .ok (.iadd, 1) := by decide +kernel
theorem dL_law_1391 : decode cL_law 1391 = .ok (.iaload, 1) := by decide +kernel
theorem dL_law_1392 : decode cL_law 1392 = .ok (.invokevirtual 177, 3) := by decide +kernel
theorem dL_law_1395 : decode cL_law 1395 = .ok (.if_icmp .eq 118, 3) := by decide +kernel
theorem dL_law_1400 : decode cL_law 1400 = .ok (.aload_n 1, 1) := by decide +kernel
theorem dL_law_1401 : decode cL_law 1401 = .ok (.invokevirtual 178, 3) := by decide +kernel
theorem dL_law_1404 : decode cL_law 1404 = .ok (.aload_n 2, 1) := by decide +kernel
theorem dL_law_1405 : decode cL_law 1405 = .ok (.invokevirtual 181, 3) := by decide +kernel
theorem dL_law_1408 : decode cL_law 1408 = .ok (.if_icmp .eq 105, 3) := by decide +kernel
theorem dL_law_1413 : decode cL_law 1413 = .ok (.aload_n 1, 1) := by decide +kernel
theorem dL_law_1414 : decode cL_law 1414 = .ok (.aload_n 0, 1) := by decide +kernel
theorem dL_law_1415 : decode cL_law 1415 = .ok (.iload 4, 2) := by decide +kernel
theorem dL_law_1417 : decode cL_law 1417 = .ok (.iconst 1, 1) := by decide +kernel
theorem dL_law_1418 : decode cL_law 1418 = .ok (.iadd, 1) := by decide +kernel
theorem dL_law_1419 : decode cL_law 1419 = .ok (.iaload, 1) := by decide +kernel
theorem dL_law_1420 : decode cL_law 1420 = .ok (.invokevirtual 182, 3) := by decide +kernel
theorem dL_law_1423 : decode cL_law 1423 = .ok (.aload_n 2, 1) := by decide +kernel
theorem dL_law_1424 : decode cL_law 1424 = .ok (.aload_n 0, 1) := by decide +kernel
theorem dL_law_1425 : decode cL_law 1425 = .ok (.iload 4, 2) := by decide +kernel
theorem dL_law_1427 : decode cL_law 1427 = .ok (.iconst 1, 1) := by decide +kernel
theorem dL_law_1428 : decode cL_law 1428 = .ok (.iadd, 1) := by decide +kernel
theorem dL_law_1429 : decode cL_law 1429 = .ok (.iaload, 1) := by decide +kernel
theorem dL_law_1430 : decode cL_law 1430 = .ok (.invokevirtual 185, 3) := by decide +kernel
theorem dL_law_1433 : decode cL_law 1433 = .ok (.if_icmp .eq 80, 3) := by decide +kernel
theorem dL_law_1438 : decode cL_law 1438 = .ok (.aload_n 1, 1) := by decide +kernel
theorem dL_law_1439 : decode cL_law 1439 = .ok (.aload_n 0, 1) := by decide +kernel
theorem dL_law_1440 : decode cL_law 1440 = .ok (.iload 4, 2) := by decide +kernel
theorem dL_law_1442 : decode cL_law 1442 = .ok (.iconst 1, 1) := by decide +kernel
theorem dL_law_1443 : decode cL_law 1443 = .ok (.iadd, 1) := by decide +kernel
theorem dL_law_1444 : decode cL_law 1444 = .ok (.iaload, 1) := by decide +kernel
theorem dL_law_1445 : decode cL_law 1445 = .ok (.invokevirtual 186, 3) := by decide +kernel
theorem dL_law_1448 : decode cL_law 1448 = .ok (.aload_n 2, 1) := by decide +kernel
theorem dL_law_1449 : decode cL_law 1449 = .ok (.aload_n 0, 1) := by decide +kernel
theorem dL_law_1450 : decode cL_law 1450 = .ok (.iload 4, 2) := by decide +kernel
theorem dL_law_1452 : decode cL_law 1452 = .ok (.iconst 1, 1) := by decide +kernel
theorem dL_law_1453 : decode cL_law 1453 = .ok (.iadd, 1) := by decide +kernel
theorem dL_law_1454 : decode cL_law 1454 = .ok (.iaload, 1) := by decide +kernel
theorem dL_law_1455 : decode cL_law 1455 = .ok (.invokevirtual 189, 3) := by decide +kernel
theorem dL_law_1458 : decode cL_law 1458 = .ok (.if_icmp .eq 55, 3) := by decide +kernel
theorem dL_law_1463 : decode cL_law 1463 = .ok (.aload_n 1, 1) := by decide +kernel
theorem dL_law_1464 : decode cL_law 1464 = .ok (.aload_n 0, 1) := by decide +kernel
theorem dL_law_1465 : decode cL_law 1465 = .ok (.iload 4, 2) := by decide +kernel
theorem dL_law_1467 : decode cL_law 1467 = .ok (.iconst 1, 1) := by decide +kernel
theorem dL_law_1468 : decode cL_law 1468 = .ok (.iadd, 1) := by decide +kernel
theorem dL_law_1469 : decode cL_law 1469 = .ok (.iaload, 1) := by decide +kernel
theorem dL_law_1470 : decode cL_law 1470 = .ok (.invokevirtual 190, 3) := by decide +kernel
theorem dL_law_1473 : decode cL_law 1473 = .ok (.aload_n 2, 1) := by decide +kernel
theorem dL_law_1474 : decode cL_law 1474 = .ok (.aload_n 0, 1) := by decide +kernel
theorem dL_law_1475 : decode cL_law 1475 = .ok (.iload 4, 2) := by decide +kernel
theorem dL_law_1477 : decode cL_law 1477 = .ok (.iconst 1, 1) := by decide +kernel
theorem dL_law_1478 : decode cL_law 1478 = .ok (.iadd, 1) := by decide +kernel
theorem dL_law_1479 : decode cL_law 1479 = .ok (.iaload, 1) := by decide +kernel
theorem dL_law_1480 : decode cL_law 1480 = .ok (.invokevirtual 193, 3) := by decide +kernel
theorem dL_law_1483 : decode cL_law 1483 = .ok (.if_icmp .eq 30, 3) := by decide +kernel
theorem dL_law_1488 : decode cL_law 1488 = .ok (.aload_n 1, 1) := by decide +kernel
theorem dL_law_1489 : decode cL_law 1489 = .ok (.aload_n 0, 1) := by decide +kernel
theorem dL_law_1490 : decode cL_law 1490 = .ok (.iload 4, 2) := by decide +kernel
theorem dL_law_1492 : decode cL_law 1492 = .ok (.iconst 1, 1) := by decide +kernel
theorem dL_law_1493 : decode cL_law 1493 = .ok (.iadd, 1) := by decide +kernel
theorem dL_law_1494 : decode cL_law 1494 = .ok (.iaload, 1) := by decide +kernel
theorem dL_law_1495 : decode cL_law 1495 = .ok (.invokevirtual 194, 3) := by decide +kernel
theorem dL_law_1498 : decode cL_law 1498 = .ok (.aload_n 2, 1) := by decide +kernel
theorem dL_law_1499 : decode cL_law 1499 = .ok (.aload_n 0, 1) := by decide +kernel
theorem dL_law_1500 : decode cL_law 1500 = .ok (.iload 4, 2) := by decide +kernel
theorem dL_law_1502 : decode cL_law 1502 = .ok (.iconst 1, 1) := by decide +kernel
theorem dL_law_1503 : decode cL_law 1503 = .ok (.iadd, 1) := by decide +kernel
theorem dL_law_1504 : decode cL_law 1504 = .ok (.iaload, 1) := by decide +kernel
theorem dL_law_1505 : decode cL_law 1505 = .ok (.invokevirtual 197, 3) := by decide +kernel
theorem dL_law_1508 : decode cL_law 1508 = .ok (.if_icmp .eq 5, 3) := by decide +kernel
theorem lc_tried {wad ad1 ad2 : Nat → Nat} {b L o i cells slots : Nat} {xs : Nat → Int32} {Γ : CtC} {f : Nat → Int64} {hc hm : HS} {P : Pl} {A : Ab} (hG : LG wad ad1 ad2 b L xs Γ) (hf : cells + 1 ≤ 601024 ∧ slots + 6 ≤ 7293034) (hi : i + 6 ≤ L) (q : Rel P A hc hm) (K : KK Γ ad1 ad2 b o i cells slots) : AL Γ 1200 (lvL ad1 ad2 b o i) [] (WW o f ad1 ad2 (cyOf Γ) hc hm) cells slots := by
  obtain ⟨v, hc2, hm2, P2, A2, e1, e2, q2⟩ := S_tried  P A hc hm q
  refine z_aload_n hG.1 2 rfl dL_law_1200 rfl ?_
  refine l_callC hG hf (As := []) (st := []) ml_X11_tried tl_1179 (by decide) (c_LC_tried hc (v, hc2) e1) rfl (Nat.le_of_ble_eq_true rfl) dL_law_1201 ?_
  refine z_aload_n hG.1 3 rfl dL_law_1204 rfl ?_
  refine l_callM hG ⟨by omega, by omega⟩ (As := []) (st := [.int v]) ml_X12_tried tl_2076 (by decide) (c_M_tried hm (v, hm2) e2) rfl (Nat.le_of_ble_eq_true rfl) dL_law_1205 ?_
  exact z_ic_eq hG.1 (tgt := 1513) dL_law_1208 rfl (fun _ => K _ _ _ _ _ _ _ (Nat.le_succ _) (Nat.le_add_right _ _) q2) (fun z => absurd rfl z)
theorem lc_pay {wad ad1 ad2 : Nat → Nat} {b L o i cells slots : Nat} {xs : Nat → Int32} {Γ : CtC} {f : Nat → Int64} {hc hm : HS} {P : Pl} {A : Ab} (hG : LG wad ad1 ad2 b L xs Γ) (hf : cells + 1 ≤ 601024 ∧ slots + 6 ≤ 7293034) (hi : i + 6 ≤ L) (q : Rel P A hc hm) (K : KK Γ ad1 ad2 b o i cells slots) : AL Γ 1213 (lvL ad1 ad2 b o i) [] (WW o f ad1 ad2 (cyOf Γ) hc hm) cells slots := by
  obtain ⟨v, hc2, hm2, P2, A2, e1, e2, q2⟩ := S_pay (F := 20000) (Nat.le_refl _) (xs (i + 1)) P A hc hm q
  refine z_aload_n hG.1 2 rfl dL_law_1213 rfl ?_
  refine l_arg (i := i) (j := 1) hG (z0 := 1) (z4 := 0) rfl rfl (by omega) (by decide) dL_law_1214 dL_law_1215 dL_law_1217 dL_law_1218 dL_law_1219 ?_
  refine l_callC hG hf (As := [.int (xs (i + 1))]) (st := []) ml_X11_pay tl_1183 (by decide) (c_LC_pay (xs (i + 1)) hc (v, hc2) e1) rfl (Nat.le_of_ble_eq_true rfl) dL_law_1220 ?_
  refine z_aload_n hG.1 3 rfl dL_law_1223 rfl ?_
  refine l_arg (i := i) (j := 1) hG (z0 := 1) (z4 := 0) rfl rfl (by omega) (by decide) dL_law_1224 dL_law_1225 dL_law_1227 dL_law_1228 dL_law_1229 ?_
  refine l_callM hG ⟨by omega, by omega⟩ (As := [.int (xs (i + 1))]) (st := [.int v]) ml_X12_pay tl_2080 (by decide) (c_M_pay 20000 (xs (i + 1)) hm (v, hm2) e2) rfl (Nat.le_of_ble_eq_true rfl) dL_law_1230 ?_
  exact z_ic_eq hG.1 (tgt := 1513) dL_law_1233 rfl (fun _ => K _ _ _ _ _ _ _ (Nat.le_succ _) (Nat.le_add_right _ _) q2) (fun z => absurd rfl z)
theorem lc_dies {wad ad1 ad2 : Nat → Nat} {b L o i cells slots : Nat} {xs : Nat → Int32} {Γ : CtC} {f : Nat → Int64} {hc hm : HS} {P : Pl} {A : Ab} (hG : LG wad ad1 ad2 b L xs Γ) (hf : cells + 1 ≤ 601024 ∧ slots + 6 ≤ 7293034) (hi : i + 6 ≤ L) (q : Rel P A hc hm) (K : KK Γ ad1 ad2 b o i cells slots) : AL Γ 1238 (lvL ad1 ad2 b o i) [] (WW o f ad1 ad2 (cyOf Γ) hc hm) cells slots := by
  obtain ⟨v, hc2, hm2, P2, A2, e1, e2, q2⟩ := S_dies (xs (i + 1)) P A hc hm q
  refine z_aload_n hG.1 2 rfl dL_law_1238 rfl ?_
  refine l_arg (i := i) (j := 1) hG (z0 := 1) (z4 := 0) rfl rfl (by omega) (by decide) dL_law_1239 dL_law_1240 dL_law_1242 dL_law_1243 dL_law_1244 ?_
  refine l_callC hG hf (As := [.int (xs (i + 1))]) (st := []) ml_X11_dies tl_1188 (by decide) (c_LC_dies (xs (i + 1)) hc (v, hc2) e1) rfl (Nat.le_of_ble_eq_true rfl) dL_law_1245 ?_
  refine z_aload_n hG.1 3 rfl dL_law_1248 rfl ?_
  refine l_arg (i := i) (j := 1) hG (z0 := 1) (z4 := 0) rfl rfl (by omega) (by decide) dL_law_1249 dL_law_1250 dL_law_1252 dL_law_1253 dL_law_1254 ?_
  refine l_callM hG ⟨by omega, by omega⟩ (As := [.int (xs (i + 1))]) (st := [.int v]) ml_X12_dies tl_2084 (by decide) (c_M_dies (xs (i + 1)) hm (v, hm2) e2) rfl (Nat.le_of_ble_eq_true rfl) dL_law_1255 ?_
  exact z_ic_eq hG.1 (tgt := 1513) dL_law_1258 rfl (fun _ => K _ _ _ _ _ _ _ (Nat.le_succ _) (Nat.le_add_right _ _) q2) (fun z => absurd rfl z)
theorem lc_saddest {wad ad1 ad2 : Nat → Nat} {b L o i cells slots : Nat} {xs : Nat → Int32} {Γ : CtC} {f : Nat → Int64} {hc hm : HS} {P : Pl} {A : Ab} (hG : LG wad ad1 ad2 b L xs Γ) (hf : cells + 1 ≤ 601024 ∧ slots + 6 ≤ 7293034) (hi : i + 6 ≤ L) (q : Rel P A hc hm) (K : KK Γ ad1 ad2 b o i cells slots) : AL Γ 1263 (lvL ad1 ad2 b o i) [] (WW o f ad1 ad2 (cyOf Γ) hc hm) cells slots := by
  obtain ⟨v, hc2, hm2, P2, A2, e1, e2, q2⟩ := S_saddest (F := 20000) (Nat.le_refl _)  P A hc hm q
  refine z_aload_n hG.1 2 rfl dL_law_1263 rfl ?_
  refine l_callC hG hf (As := []) (st := []) ml_X11_saddest tl_1193 (by decide) (c_LC_saddest 20000 hc (v, hc2) e1) rfl (Nat.le_of_ble_eq_true rfl) dL_law_1264 ?_
  refine z_aload_n hG.1 3 rfl dL_law_1267 rfl ?_
  refine l_callM hG ⟨by omega, by omega⟩ (As := []) (st := [.int v]) ml_X12_saddest tl_2088 (by decide) (c_M_saddest 20000 hm (v, hm2) e2) rfl (Nat.le_of_ble_eq_true rfl) dL_law_1268 ?_
  exact z_ic_eq hG.1 (tgt := 1513) dL_law_1271 rfl (fun _ => K _ _ _ _ _ _ _ (Nat.le_succ _) (Nat.le_add_right _ _) q2) (fun z => absurd rfl z)
theorem lc_drawn {wad ad1 ad2 : Nat → Nat} {b L o i cells slots : Nat} {xs : Nat → Int32} {Γ : CtC} {f : Nat → Int64} {hc hm : HS} {P : Pl} {A : Ab} (hG : LG wad ad1 ad2 b L xs Γ) (hf : cells + 1 ≤ 601024 ∧ slots + 6 ≤ 7293034) (hi : i + 6 ≤ L) (q : Rel P A hc hm) (K : KK Γ ad1 ad2 b o i cells slots) : AL Γ 1276 (lvL ad1 ad2 b o i) [] (WW o f ad1 ad2 (cyOf Γ) hc hm) cells slots := by
  obtain ⟨v, hc2, hm2, P2, A2, e1, e2, q2⟩ := S_drawn (F := 20000) (Nat.le_refl _) (xs (i + 1)) (xs (i + 2)) P A hc hm q
  refine z_aload_n hG.1 2 rfl dL_law_1276 rfl ?_
  refine l_arg (i := i) (j := 1) hG (z0 := 1) (z4 := 0) rfl rfl (by omega) (by decide) dL_law_1277 dL_law_1278 dL_law_1280 dL_law_1281 dL_law_1282 ?_
  refine l_arg (i := i) (j := 2) hG (z0 := 1) (z4 := 0) rfl rfl (by omega) (by decide) dL_law_1283 dL_law_1284 dL_law_1286 dL_law_1287 dL_law_1288 ?_
  refine l_callC hG hf (As := [.int (xs (i + 1)), .int (xs (i + 2))]) (st := []) ml_X11_drawn tl_1200 (by decide) (c_LC_drawn 20000 (xs (i + 1)) (xs (i + 2)) hc (v, hc2) e1) rfl (Nat.le_of_ble_eq_true rfl) dL_law_1289 ?_
  refine z_aload_n hG.1 3 rfl dL_law_1292 rfl ?_
  refine l_arg (i := i) (j := 1) hG (z0 := 1) (z4 := 0) rfl rfl (by omega) (by decide) dL_law_1293 dL_law_1294 dL_law_1296 dL_law_1297 dL_law_1298 ?_
  refine l_arg (i := i) (j := 2) hG (z0 := 1) (z4 := 0) rfl rfl (by omega) (by decide) dL_law_1299 dL_law_1300 dL_law_1302 dL_law_1303 dL_law_1304 ?_
  refine l_callM hG ⟨by omega, by omega⟩ (As := [.int (xs (i + 1)), .int (xs (i + 2))]) (st := [.int v]) ml_X12_drawn tl_2092 (by decide) (c_M_drawn 20000 (xs (i + 1)) (xs (i + 2)) hm (v, hm2) e2) rfl (Nat.le_of_ble_eq_true rfl) dL_law_1305 ?_
  exact z_ic_eq hG.1 (tgt := 1513) dL_law_1308 rfl (fun _ => K _ _ _ _ _ _ _ (Nat.le_succ _) (Nat.le_add_right _ _) q2) (fun z => absurd rfl z)
theorem lc_risk {wad ad1 ad2 : Nat → Nat} {b L o i cells slots : Nat} {xs : Nat → Int32} {Γ : CtC} {f : Nat → Int64} {hc hm : HS} {P : Pl} {A : Ab} (hG : LG wad ad1 ad2 b L xs Γ) (hf : cells + 1 ≤ 601024 ∧ slots + 6 ≤ 7293034) (hi : i + 6 ≤ L) (q : Rel P A hc hm) (K : KK Γ ad1 ad2 b o i cells slots) : AL Γ 1313 (lvL ad1 ad2 b o i) [] (WW o f ad1 ad2 (cyOf Γ) hc hm) cells slots := by
  obtain ⟨v, hc2, hm2, P2, A2, e1, e2, q2⟩ := S_risk (F := 20000) (Nat.le_refl _) (xs (i + 1)) (xs (i + 2)) P A hc hm q
  refine z_aload_n hG.1 2 rfl dL_law_1313 rfl ?_
  refine l_arg (i := i) (j := 1) hG (z0 := 1) (z4 := 0) rfl rfl (by omega) (by decide) dL_law_1314 dL_law_1315 dL_law_1317 dL_law_1318 dL_law_1319 ?_
  refine l_arg (i := i) (j := 2) hG (z0 := 1) (z4 := 0) rfl rfl (by omega) (by decide) dL_law_1320 dL_law_1321 dL_law_1323 dL_law_1324 dL_law_1325 ?_
  refine l_callC hG hf (As := [.int (xs (i + 1)), .int (xs (i + 2))]) (st := []) ml_X11_risk tl_1218 (by decide) (c_LC_risk 20000 (xs (i + 1)) (xs (i + 2)) hc (v, hc2) e1) rfl (Nat.le_of_ble_eq_true rfl) dL_law_1326 ?_
  refine z_aload_n hG.1 3 rfl dL_law_1329 rfl ?_
  refine l_arg (i := i) (j := 1) hG (z0 := 1) (z4 := 0) rfl rfl (by omega) (by decide) dL_law_1330 dL_law_1331 dL_law_1333 dL_law_1334 dL_law_1335 ?_
  refine l_arg (i := i) (j := 2) hG (z0 := 1) (z4 := 0) rfl rfl (by omega) (by decide) dL_law_1336 dL_law_1337 dL_law_1339 dL_law_1340 dL_law_1341 ?_
  refine l_callM hG ⟨by omega, by omega⟩ (As := [.int (xs (i + 1)), .int (xs (i + 2))]) (st := [.int v]) ml_X12_risk tl_2105 (by decide) (c_M_risk 20000 (xs (i + 1)) (xs (i + 2)) hm (v, hm2) e2) rfl (Nat.le_of_ble_eq_true rfl) dL_law_1342 ?_
  exact z_ic_eq hG.1 (tgt := 1513) dL_law_1345 rfl (fun _ => K _ _ _ _ _ _ _ (Nat.le_succ _) (Nat.le_add_right _ _) q2) (fun z => absurd rfl z)
theorem lc_ledger {wad ad1 ad2 : Nat → Nat} {b L o i cells slots : Nat} {xs : Nat → Int32} {Γ : CtC} {f : Nat → Int64} {hc hm : HS} {P : Pl} {A : Ab} (hG : LG wad ad1 ad2 b L xs Γ) (hf : cells + 1 ≤ 601024 ∧ slots + 6 ≤ 7293034) (hi : i + 6 ≤ L) (q : Rel P A hc hm) (K : KK Γ ad1 ad2 b o i cells slots) : AL Γ 1350 (lvL ad1 ad2 b o i) [] (WW o f ad1 ad2 (cyOf Γ) hc hm) cells slots := by
  obtain ⟨v, hc2, hm2, P2, A2, e1, e2, q2⟩ := S_ledger (F := 20000) (Nat.le_refl _) (xs (i + 1)) P A hc hm q
  refine z_aload_n hG.1 2 rfl dL_law_1350 rfl ?_
  refine l_arg (i := i) (j := 1) hG (z0 := 1) (z4 := 0) rfl rfl (by omega) (by decide) dL_law_1351 dL_law_1352 dL_law_1354 dL_law_1355 dL_law_1356 ?_
  refine l_callC hG hf (As := [.int (xs (i + 1))]) (st := []) ml_X11_ledger tl_1224 (by decide) (c_LC_ledger 20000 (xs (i + 1)) hc (v, hc2) e1) rfl (Nat.le_of_ble_eq_true rfl) dL_law_1357 ?_
  refine z_aload_n hG.1 3 rfl dL_law_1360 rfl ?_
  refine l_arg (i := i) (j := 1) hG (z0 := 1) (z4 := 0) rfl rfl (by omega) (by decide) dL_law_1361 dL_law_1362 dL_law_1364 dL_law_1365 dL_law_1366 ?_
  refine l_callM hG ⟨by omega, by omega⟩ (As := [.int (xs (i + 1))]) (st := [.int v]) ml_X12_ledger tl_2109 (by decide) (c_M_ledger 20000 (xs (i + 1)) hm (v, hm2) e2) rfl (Nat.le_of_ble_eq_true rfl) dL_law_1367 ?_
  exact z_ic_eq hG.1 (tgt := 1513) dL_law_1370 rfl (fun _ => K _ _ _ _ _ _ _ (Nat.le_succ _) (Nat.le_add_right _ _) q2) (fun z => absurd rfl z)
theorem lc_booked {wad ad1 ad2 : Nat → Nat} {b L o i cells slots : Nat} {xs : Nat → Int32} {Γ : CtC} {f : Nat → Int64} {hc hm : HS} {P : Pl} {A : Ab} (hG : LG wad ad1 ad2 b L xs Γ) (hf : cells + 1 ≤ 601024 ∧ slots + 6 ≤ 7293034) (hi : i + 6 ≤ L) (q : Rel P A hc hm) (K : KK Γ ad1 ad2 b o i cells slots) : AL Γ 1375 (lvL ad1 ad2 b o i) [] (WW o f ad1 ad2 (cyOf Γ) hc hm) cells slots := by
  obtain ⟨v, hc2, hm2, P2, A2, e1, e2, q2⟩ := S_booked (xs (i + 1)) P A hc hm q
  refine z_aload_n hG.1 2 rfl dL_law_1375 rfl ?_
  refine l_arg (i := i) (j := 1) hG (z0 := 1) (z4 := 0) rfl rfl (by omega) (by decide) dL_law_1376 dL_law_1377 dL_law_1379 dL_law_1380 dL_law_1381 ?_
  refine l_callC hG hf (As := [.int (xs (i + 1))]) (st := []) ml_X11_booked tl_1299 (by decide) (c_LC_booked (xs (i + 1)) hc (v, hc2) e1) rfl (Nat.le_of_ble_eq_true rfl) dL_law_1382 ?_
  refine z_aload_n hG.1 3 rfl dL_law_1385 rfl ?_
  refine l_arg (i := i) (j := 1) hG (z0 := 1) (z4 := 0) rfl rfl (by omega) (by decide) dL_law_1386 dL_law_1387 dL_law_1389 dL_law_1390 dL_law_1391 ?_
  refine l_callM hG ⟨by omega, by omega⟩ (As := [.int (xs (i + 1))]) (st := [.int v]) ml_X12_booked tl_2121 (by decide) (c_M_booked (xs (i + 1)) hm (v, hm2) e2) rfl (Nat.le_of_ble_eq_true rfl) dL_law_1392 ?_
  exact z_ic_eq hG.1 (tgt := 1513) dL_law_1395 rfl (fun _ => K _ _ _ _ _ _ _ (Nat.le_succ _) (Nat.le_add_right _ _) q2) (fun z => absurd rfl z)
theorem lc_sentence {wad ad1 ad2 : Nat → Nat} {b L o i cells slots : Nat} {xs : Nat → Int32} {Γ : CtC} {f : Nat → Int64} {hc hm : HS} {P : Pl} {A : Ab} (hG : LG wad ad1 ad2 b L xs Γ) (hf : cells + 1 ≤ 601024 ∧ slots + 6 ≤ 7293034) (hi : i + 6 ≤ L) (q : Rel P A hc hm) (K : KK Γ ad1 ad2 b o i cells slots) : AL Γ 1400 (lvL ad1 ad2 b o i) [] (WW o f ad1 ad2 (cyOf Γ) hc hm) cells slots := by
  obtain ⟨v, hc2, hm2, P2, A2, e1, e2, q2⟩ := S_sentence (F := 20000) (Nat.le_refl _)  P A hc hm q
  refine z_aload_n hG.1 2 rfl dL_law_1400 rfl ?_
  refine l_callC hG hf (As := []) (st := []) ml_X11_sentence tl_1303 (by decide) (c_LC_sentence 20000 hc (v, hc2) e1) rfl (Nat.le_of_ble_eq_true rfl) dL_law_1401 ?_
  refine z_aload_n hG.1 3 rfl dL_law_1404 rfl ?_
  refine l_callM hG ⟨by omega, by omega⟩ (As := []) (st := [.int v]) ml_X12_sentence tl_2125 (by decide) (c_M_sentence 20000 hm (v, hm2) e2) rfl (Nat.le_of_ble_eq_true rfl) dL_law_1405 ?_
  exact z_ic_eq hG.1 (tgt := 1513) dL_law_1408 rfl (fun _ => K _ _ _ _ _ _ _ (Nat.le_succ _) (Nat.le_add_right _ _) q2) (fun z => absurd rfl z)
theorem lc_said {wad ad1 ad2 : Nat → Nat} {b L o i cells slots : Nat} {xs : Nat → Int32} {Γ : CtC} {f : Nat → Int64} {hc hm : HS} {P : Pl} {A : Ab} (hG : LG wad ad1 ad2 b L xs Γ) (hf : cells + 1 ≤ 601024 ∧ slots + 6 ≤ 7293034) (hi : i + 6 ≤ L) (q : Rel P A hc hm) (K : KK Γ ad1 ad2 b o i cells slots) : AL Γ 1413 (lvL ad1 ad2 b o i) [] (WW o f ad1 ad2 (cyOf Γ) hc hm) cells slots := by
  obtain ⟨v, hc2, hm2, P2, A2, e1, e2, q2⟩ := S_said (F := 20000) (Nat.le_refl _) (xs (i + 1)) P A hc hm q
  refine z_aload_n hG.1 2 rfl dL_law_1413 rfl ?_
  refine l_arg (i := i) (j := 1) hG (z0 := 1) (z4 := 0) rfl rfl (by omega) (by decide) dL_law_1414 dL_law_1415 dL_law_1417 dL_law_1418 dL_law_1419 ?_
  refine l_callC hG hf (As := [.int (xs (i + 1))]) (st := []) ml_X11_said tl_1384 (by decide) (c_LC_said 20000 (xs (i + 1)) hc (v, hc2) e1) rfl (Nat.le_of_ble_eq_true rfl) dL_law_1420 ?_
  refine z_aload_n hG.1 3 rfl dL_law_1423 rfl ?_
  refine l_arg (i := i) (j := 1) hG (z0 := 1) (z4 := 0) rfl rfl (by omega) (by decide) dL_law_1424 dL_law_1425 dL_law_1427 dL_law_1428 dL_law_1429 ?_
  refine l_callM hG ⟨by omega, by omega⟩ (As := [.int (xs (i + 1))]) (st := [.int v]) ml_X12_said tl_2153 (by decide) (c_M_said 20000 (xs (i + 1)) hm (v, hm2) e2) rfl (Nat.le_of_ble_eq_true rfl) dL_law_1430 ?_
  exact z_ic_eq hG.1 (tgt := 1513) dL_law_1433 rfl (fun _ => K _ _ _ _ _ _ _ (Nat.le_succ _) (Nat.le_add_right _ _) q2) (fun z => absurd rfl z)
theorem lc_image {wad ad1 ad2 : Nat → Nat} {b L o i cells slots : Nat} {xs : Nat → Int32} {Γ : CtC} {f : Nat → Int64} {hc hm : HS} {P : Pl} {A : Ab} (hG : LG wad ad1 ad2 b L xs Γ) (hf : cells + 1 ≤ 601024 ∧ slots + 6 ≤ 7293034) (hi : i + 6 ≤ L) (q : Rel P A hc hm) (K : KK Γ ad1 ad2 b o i cells slots) : AL Γ 1438 (lvL ad1 ad2 b o i) [] (WW o f ad1 ad2 (cyOf Γ) hc hm) cells slots := by
  obtain ⟨v, hc2, hm2, P2, A2, e1, e2, q2⟩ := S_image (F := 20000) (Nat.le_refl _) (xs (i + 1)) P A hc hm q
  refine z_aload_n hG.1 2 rfl dL_law_1438 rfl ?_
  refine l_arg (i := i) (j := 1) hG (z0 := 1) (z4 := 0) rfl rfl (by omega) (by decide) dL_law_1439 dL_law_1440 dL_law_1442 dL_law_1443 dL_law_1444 ?_
  refine l_callC hG hf (As := [.int (xs (i + 1))]) (st := []) ml_X11_image tl_1406 (by decide) (c_LC_image (xs (i + 1)) hc (v, hc2) e1) rfl (Nat.le_of_ble_eq_true rfl) dL_law_1445 ?_
  refine z_aload_n hG.1 3 rfl dL_law_1448 rfl ?_
  refine l_arg (i := i) (j := 1) hG (z0 := 1) (z4 := 0) rfl rfl (by omega) (by decide) dL_law_1449 dL_law_1450 dL_law_1452 dL_law_1453 dL_law_1454 ?_
  refine l_callM hG ⟨by omega, by omega⟩ (As := [.int (xs (i + 1))]) (st := [.int v]) ml_X12_image tl_2165 (by decide) (c_M_image 20000 (xs (i + 1)) hm (v, hm2) e2) rfl (Nat.le_of_ble_eq_true rfl) dL_law_1455 ?_
  exact z_ic_eq hG.1 (tgt := 1513) dL_law_1458 rfl (fun _ => K _ _ _ _ _ _ _ (Nat.le_succ _) (Nat.le_add_right _ _) q2) (fun z => absurd rfl z)
theorem lc_restore {wad ad1 ad2 : Nat → Nat} {b L o i cells slots : Nat} {xs : Nat → Int32} {Γ : CtC} {f : Nat → Int64} {hc hm : HS} {P : Pl} {A : Ab} (hG : LG wad ad1 ad2 b L xs Γ) (hf : cells + 1 ≤ 601024 ∧ slots + 6 ≤ 7293034) (hi : i + 6 ≤ L) (q : Rel P A hc hm) (K : KK Γ ad1 ad2 b o i cells slots) : AL Γ 1463 (lvL ad1 ad2 b o i) [] (WW o f ad1 ad2 (cyOf Γ) hc hm) cells slots := by
  obtain ⟨v, hc2, hm2, P2, A2, e1, e2, q2⟩ := S_restore (F := 20000) (Nat.le_refl _) (xs (i + 1)) P A hc hm q
  refine z_aload_n hG.1 2 rfl dL_law_1463 rfl ?_
  refine l_arg (i := i) (j := 1) hG (z0 := 1) (z4 := 0) rfl rfl (by omega) (by decide) dL_law_1464 dL_law_1465 dL_law_1467 dL_law_1468 dL_law_1469 ?_
  refine l_callC hG hf (As := [.int (xs (i + 1))]) (st := []) ml_X11_restore tl_1421 (by decide) (c_LC_restore 20000 (xs (i + 1)) hc (v, hc2) e1) rfl (Nat.le_of_ble_eq_true rfl) dL_law_1470 ?_
  refine z_aload_n hG.1 3 rfl dL_law_1473 rfl ?_
  refine l_arg (i := i) (j := 1) hG (z0 := 1) (z4 := 0) rfl rfl (by omega) (by decide) dL_law_1474 dL_law_1475 dL_law_1477 dL_law_1478 dL_law_1479 ?_
  refine l_callM hG ⟨by omega, by omega⟩ (As := [.int (xs (i + 1))]) (st := [.int v]) ml_X12_restore tl_2169 (by decide) (c_M_restore 20000 (xs (i + 1)) hm (v, hm2) e2) rfl (Nat.le_of_ble_eq_true rfl) dL_law_1480 ?_
  exact z_ic_eq hG.1 (tgt := 1513) dL_law_1483 rfl (fun _ => K _ _ _ _ _ _ _ (Nat.le_succ _) (Nat.le_add_right _ _) q2) (fun z => absurd rfl z)
theorem lc_count {wad ad1 ad2 : Nat → Nat} {b L o i cells slots : Nat} {xs : Nat → Int32} {Γ : CtC} {f : Nat → Int64} {hc hm : HS} {P : Pl} {A : Ab} (hG : LG wad ad1 ad2 b L xs Γ) (hf : cells + 1 ≤ 601024 ∧ slots + 6 ≤ 7293034) (hi : i + 6 ≤ L) (q : Rel P A hc hm) (K : KK Γ ad1 ad2 b o i cells slots) : AL Γ 1488 (lvL ad1 ad2 b o i) [] (WW o f ad1 ad2 (cyOf Γ) hc hm) cells slots := by
  obtain ⟨v, hc2, hm2, P2, A2, e1, e2, q2⟩ := S_count (F := 20000) (Nat.le_refl _) (xs (i + 1)) P A hc hm q
  refine z_aload_n hG.1 2 rfl dL_law_1488 rfl ?_
  refine l_arg (i := i) (j := 1) hG (z0 := 1) (z4 := 0) rfl rfl (by omega) (by decide) dL_law_1489 dL_law_1490 dL_law_1492 dL_law_1493 dL_law_1494 ?_
  refine l_callC hG hf (As := [.int (xs (i + 1))]) (st := []) ml_X11_count tl_1434 (by decide) (c_LC_count 20000 (xs (i + 1)) hc (v, hc2) e1) rfl (Nat.le_of_ble_eq_true rfl) dL_law_1495 ?_
  refine z_aload_n hG.1 3 rfl dL_law_1498 rfl ?_
  refine l_arg (i := i) (j := 1) hG (z0 := 1) (z4 := 0) rfl rfl (by omega) (by decide) dL_law_1499 dL_law_1500 dL_law_1502 dL_law_1503 dL_law_1504 ?_
  refine l_callM hG ⟨by omega, by omega⟩ (As := [.int (xs (i + 1))]) (st := [.int v]) ml_X12_count tl_2173 (by decide) (c_M_count (xs (i + 1)) hm (v, hm2) e2) rfl (Nat.le_of_ble_eq_true rfl) dL_law_1505 ?_
  exact z_ic_eq hG.1 (tgt := 1513) dL_law_1508 rfl (fun _ => K _ _ _ _ _ _ _ (Nat.le_succ _) (Nat.le_add_right _ _) q2) (fun z => absurd rfl z)
