theorem tj_X10_init_J1520 {X : mX} {r0 : Nat} {W W' : mW} {v : Int} (h : F_X10_init_J1520 r0 W = some (W', v)) : T (X) (0) 158 1520 [some (.ref r0)] [] W.1 W.2.1 W.2.2.1 W.2.2.2 (qwv W' v) := by
  unfold F_X10_init_J1520 at h
  obtain ⟨f558, h⟩ := gd_some h
  refine t_l fX10_init_1520 rfl rfl rfl rfl ?_
  refine t_s fX10_init_1521 rfl rfl rfl ?_
  refine k9_na (q := 123) fX10_init_1523 rfl (by decide) ?_
  replace h := lt_some h
  replace h := lt_some h
  obtain ⟨⟨f561, f562⟩, h⟩ := gd_some h
  refine k9_pr fX10_init_1525 (f561) kp_10_107 ?_
  replace h := lt_some h
  refine t_ret fX10_init_1528 rX10_init ?_
  exact qfw_v h

theorem tj_X10_init_J1347 {X : mX} {r0 : Nat} {W W' : mW} {v : Int} (h : F_X10_init_J1347 r0 W = some (W', v)) : T (X) (0) 158 1347 [some (.ref r0)] [] W.1 W.2.1 W.2.2.1 W.2.2.2 (qwv W' v) := by
  unfold F_X10_init_J1347 at h
  obtain ⟨f495, h⟩ := gd_some h
  refine t_l fX10_init_1347 rfl rfl rfl rfl ?_
  refine t_s fX10_init_1348 rfl rfl rfl ?_
  refine k9_nc (q := 3) fX10_init_1349 rfl (by decide) ?_
  replace h := lt_some h
  replace h := lt_some h
  obtain ⟨⟨f498, f499⟩, h⟩ := gd_some h
  refine t_s fX10_init_1351 rfl rfl rfl ?_
  refine t_s fX10_init_1352 rfl rfl rfl ?_
  refine t_s fX10_init_1353 rfl rfl rfl ?_
  refine k9_cs fX10_init_1355 (f499) (by decide) (by decide) (by decide) (by decide) (by decide) ?_
  replace h := lt_some h
  refine t_s fX10_init_1356 rfl rfl rfl ?_
  refine t_s fX10_init_1357 rfl rfl rfl ?_
  refine t_s fX10_init_1358 rfl rfl rfl ?_
  refine k9_cs fX10_init_1360 (f499) (by decide) (by decide) (by decide) (by decide) (by decide) ?_
  replace h := lt_some h
  refine t_s fX10_init_1361 rfl rfl rfl ?_
  refine t_s fX10_init_1362 rfl rfl rfl ?_
  refine t_s fX10_init_1363 rfl rfl rfl ?_
  refine k9_cs fX10_init_1365 (f499) (by decide) (by decide) (by decide) (by decide) (by decide) ?_
  replace h := lt_some h
  refine k9_pr fX10_init_1366 (f498) kp_10_92 ?_
  replace h := lt_some h
  refine t_l fX10_init_1369 rfl rfl rfl rfl ?_
  refine t_s fX10_init_1370 rfl rfl rfl ?_
  refine k9_nc (q := 6) fX10_init_1372 rfl (by decide) ?_
  replace h := lt_some h
  replace h := lt_some h
  obtain ⟨⟨f506, f507⟩, h⟩ := gd_some h
  refine t_s fX10_init_1374 rfl rfl rfl ?_
  refine t_s fX10_init_1375 rfl rfl rfl ?_
  refine t_s fX10_init_1376 rfl rfl rfl ?_
  refine k9_cs fX10_init_1378 (f507) (by decide) (by decide) (by decide) (by decide) (by decide) ?_
  replace h := lt_some h
  refine t_s fX10_init_1379 rfl rfl rfl ?_
  refine t_s fX10_init_1380 rfl rfl rfl ?_
  refine t_s fX10_init_1381 rfl rfl rfl ?_
  refine k9_cs fX10_init_1383 (f507) (by decide) (by decide) (by decide) (by decide) (by decide) ?_
  replace h := lt_some h
  refine t_s fX10_init_1384 rfl rfl rfl ?_
  refine t_s fX10_init_1385 rfl rfl rfl ?_
  refine t_s fX10_init_1386 rfl rfl rfl ?_
  refine k9_cs fX10_init_1388 (f507) (by decide) (by decide) (by decide) (by decide) (by decide) ?_
  replace h := lt_some h
  refine t_s fX10_init_1389 rfl rfl rfl ?_
  refine t_s fX10_init_1390 rfl rfl rfl ?_
  refine t_s fX10_init_1391 rfl rfl rfl ?_
  refine k9_cs fX10_init_1393 (f507) (by decide) (by decide) (by decide) (by decide) (by decide) ?_
  replace h := lt_some h
  refine t_s fX10_init_1394 rfl rfl rfl ?_
  refine t_s fX10_init_1395 rfl rfl rfl ?_
  refine t_s fX10_init_1396 rfl rfl rfl ?_
  refine k9_cs fX10_init_1398 (f507) (by decide) (by decide) (by decide) (by decide) (by decide) ?_
  replace h := lt_some h
  refine t_s fX10_init_1399 rfl rfl rfl ?_
  refine t_s fX10_init_1400 rfl rfl rfl ?_
  refine t_s fX10_init_1401 rfl rfl rfl ?_
  refine k9_cs fX10_init_1403 (f507) (by decide) (by decide) (by decide) (by decide) (by decide) ?_
  replace h := lt_some h
  refine k9_pr fX10_init_1404 (f506) kp_10_93 ?_
  replace h := lt_some h
  refine t_l fX10_init_1407 rfl rfl rfl rfl ?_
  refine t_s fX10_init_1408 rfl rfl rfl ?_
  refine k9_nc (q := 4) fX10_init_1409 rfl (by decide) ?_
  replace h := lt_some h
  replace h := lt_some h
  obtain ⟨⟨f517, f518⟩, h⟩ := gd_some h
  refine t_s fX10_init_1411 rfl rfl rfl ?_
  refine t_s fX10_init_1412 rfl rfl rfl ?_
  refine t_s fX10_init_1413 rfl rfl rfl ?_
  refine k9_cs fX10_init_1415 (f518) (by decide) (by decide) (by decide) (by decide) (by decide) ?_
  replace h := lt_some h
  refine t_s fX10_init_1416 rfl rfl rfl ?_
  refine t_s fX10_init_1417 rfl rfl rfl ?_
  refine t_s fX10_init_1418 rfl rfl rfl ?_
  refine k9_cs fX10_init_1420 (f518) (by decide) (by decide) (by decide) (by decide) (by decide) ?_
  replace h := lt_some h
  refine t_s fX10_init_1421 rfl rfl rfl ?_
  refine t_s fX10_init_1422 rfl rfl rfl ?_
  refine t_s fX10_init_1423 rfl rfl rfl ?_
  refine k9_cs fX10_init_1425 (f518) (by decide) (by decide) (by decide) (by decide) (by decide) ?_
  replace h := lt_some h
  refine t_s fX10_init_1426 rfl rfl rfl ?_
  refine t_s fX10_init_1427 rfl rfl rfl ?_
  refine t_s fX10_init_1428 rfl rfl rfl ?_
  refine k9_cs fX10_init_1430 (f518) (by decide) (by decide) (by decide) (by decide) (by decide) ?_
  replace h := lt_some h
  refine k9_pr fX10_init_1431 (f517) kp_10_94 ?_
  replace h := lt_some h
  refine t_l fX10_init_1434 rfl rfl rfl rfl ?_
  refine t_s fX10_init_1435 rfl rfl rfl ?_
  refine k9_nc (q := 4) fX10_init_1436 rfl (by decide) ?_
  replace h := lt_some h
  replace h := lt_some h
  obtain ⟨⟨f526, f527⟩, h⟩ := gd_some h
  refine t_s fX10_init_1438 rfl rfl rfl ?_
  refine t_s fX10_init_1439 rfl rfl rfl ?_
  refine t_s fX10_init_1440 rfl rfl rfl ?_
  refine k9_cs fX10_init_1442 (f527) (by decide) (by decide) (by decide) (by decide) (by decide) ?_
  replace h := lt_some h
  refine t_s fX10_init_1443 rfl rfl rfl ?_
  refine t_s fX10_init_1444 rfl rfl rfl ?_
  refine t_s fX10_init_1445 rfl rfl rfl ?_
  refine k9_cs fX10_init_1447 (f527) (by decide) (by decide) (by decide) (by decide) (by decide) ?_
  replace h := lt_some h
  refine t_s fX10_init_1448 rfl rfl rfl ?_
  refine t_s fX10_init_1449 rfl rfl rfl ?_
  refine t_s fX10_init_1450 rfl rfl rfl ?_
  refine k9_cs fX10_init_1452 (f527) (by decide) (by decide) (by decide) (by decide) (by decide) ?_
  replace h := lt_some h
  refine t_s fX10_init_1453 rfl rfl rfl ?_
  refine t_s fX10_init_1454 rfl rfl rfl ?_
  refine t_s fX10_init_1455 rfl rfl rfl ?_
  refine k9_cs fX10_init_1457 (f527) (by decide) (by decide) (by decide) (by decide) (by decide) ?_
  replace h := lt_some h
  refine k9_pr fX10_init_1458 (f526) kp_10_95 ?_
  replace h := lt_some h
  refine t_l fX10_init_1461 rfl rfl rfl rfl ?_
  refine t_s fX10_init_1462 rfl rfl rfl ?_
  refine k9_nc (q := 5) fX10_init_1463 rfl (by decide) ?_
  replace h := lt_some h
  replace h := lt_some h
  obtain ⟨⟨f535, f536⟩, h⟩ := gd_some h
  refine t_s fX10_init_1465 rfl rfl rfl ?_
  refine t_s fX10_init_1466 rfl rfl rfl ?_
  refine t_s fX10_init_1467 rfl rfl rfl ?_
  refine k9_cs fX10_init_1469 (f536) (by decide) (by decide) (by decide) (by decide) (by decide) ?_
  replace h := lt_some h
  refine t_s fX10_init_1470 rfl rfl rfl ?_
  refine t_s fX10_init_1471 rfl rfl rfl ?_
  refine t_s fX10_init_1472 rfl rfl rfl ?_
  refine k9_cs fX10_init_1474 (f536) (by decide) (by decide) (by decide) (by decide) (by decide) ?_
  replace h := lt_some h
  refine t_s fX10_init_1475 rfl rfl rfl ?_
  refine t_s fX10_init_1476 rfl rfl rfl ?_
  refine t_s fX10_init_1477 rfl rfl rfl ?_
  refine k9_cs fX10_init_1479 (f536) (by decide) (by decide) (by decide) (by decide) (by decide) ?_
  replace h := lt_some h
  refine t_s fX10_init_1480 rfl rfl rfl ?_
  refine t_s fX10_init_1481 rfl rfl rfl ?_
  refine t_s fX10_init_1482 rfl rfl rfl ?_
  refine k9_cs fX10_init_1484 (f536) (by decide) (by decide) (by decide) (by decide) (by decide) ?_
  replace h := lt_some h
  refine t_s fX10_init_1485 rfl rfl rfl ?_
  refine t_s fX10_init_1486 rfl rfl rfl ?_
  refine t_s fX10_init_1487 rfl rfl rfl ?_
  refine k9_cs fX10_init_1489 (f536) (by decide) (by decide) (by decide) (by decide) (by decide) ?_
  replace h := lt_some h
  refine k9_pr fX10_init_1490 (f535) kp_10_96 ?_
  replace h := lt_some h
  refine t_l fX10_init_1493 rfl rfl rfl rfl ?_
  refine t_s fX10_init_1494 rfl rfl rfl ?_
  refine k9_na (q := 1700) fX10_init_1497 rfl (by decide) ?_
  replace h := lt_some h
  replace h := lt_some h
  obtain ⟨⟨f545, f546⟩, h⟩ := gd_some h
  refine k9_pr fX10_init_1499 (f545) kp_10_97 ?_
  replace h := lt_some h
  refine t_l fX10_init_1502 rfl rfl rfl rfl ?_
  refine t_s fX10_init_1503 rfl rfl rfl ?_
  refine k9_na (q := 1700) fX10_init_1506 rfl (by decide) ?_
  replace h := lt_some h
  replace h := lt_some h
  obtain ⟨⟨f550, f551⟩, h⟩ := gd_some h
  refine k9_pr fX10_init_1508 (f550) kp_10_99 ?_
  replace h := lt_some h
  refine t_l fX10_init_1511 rfl rfl rfl rfl ?_
  refine t_s fX10_init_1512 rfl rfl rfl ?_
  refine k9_nl (q := 1700) fX10_init_1515 rfl (by decide) ?_
  replace h := lt_some h
  replace h := lt_some h
  obtain ⟨⟨f555, f556⟩, h⟩ := gd_some h
  refine k9_pr fX10_init_1517 (f555) kp_10_103 ?_
  replace h := lt_some h
  exact tj_X10_init_J1520  h

theorem tj_X10_init_J1157 {X : mX} {r0 : Nat} {W W' : mW} {v : Int} (h : F_X10_init_J1157 r0 W = some (W', v)) : T (X) (0) 158 1157 [some (.ref r0)] [] W.1 W.2.1 W.2.2.1 W.2.2.2 (qwv W' v) := by
  unfold F_X10_init_J1157 at h
  obtain ⟨f431, h⟩ := gd_some h
  refine t_l fX10_init_1157 rfl rfl rfl rfl ?_
  refine t_s fX10_init_1158 rfl rfl rfl ?_
  refine k9_nc (q := 3) fX10_init_1159 rfl (by decide) ?_
  replace h := lt_some h
  replace h := lt_some h
  obtain ⟨⟨f434, f435⟩, h⟩ := gd_some h
  refine t_s fX10_init_1161 rfl rfl rfl ?_
  refine t_s fX10_init_1162 rfl rfl rfl ?_
  refine t_s fX10_init_1163 rfl rfl rfl ?_
  refine k9_cs fX10_init_1165 (f435) (by decide) (by decide) (by decide) (by decide) (by decide) ?_
  replace h := lt_some h
  refine t_s fX10_init_1166 rfl rfl rfl ?_
  refine t_s fX10_init_1167 rfl rfl rfl ?_
  refine t_s fX10_init_1168 rfl rfl rfl ?_
  refine k9_cs fX10_init_1170 (f435) (by decide) (by decide) (by decide) (by decide) (by decide) ?_
  replace h := lt_some h
  refine t_s fX10_init_1171 rfl rfl rfl ?_
  refine t_s fX10_init_1172 rfl rfl rfl ?_
  refine t_s fX10_init_1173 rfl rfl rfl ?_
  refine k9_cs fX10_init_1175 (f435) (by decide) (by decide) (by decide) (by decide) (by decide) ?_
  replace h := lt_some h
  refine k9_pr fX10_init_1176 (f434) kp_10_85 ?_
  replace h := lt_some h
  refine t_l fX10_init_1179 rfl rfl rfl rfl ?_
  refine t_s fX10_init_1180 rfl rfl rfl ?_
  refine k9_nc (q := 3) fX10_init_1181 rfl (by decide) ?_
  replace h := lt_some h
  replace h := lt_some h
  obtain ⟨⟨f442, f443⟩, h⟩ := gd_some h
  refine t_s fX10_init_1183 rfl rfl rfl ?_
  refine t_s fX10_init_1184 rfl rfl rfl ?_
  refine t_s fX10_init_1185 rfl rfl rfl ?_
  refine k9_cs fX10_init_1187 (f443) (by decide) (by decide) (by decide) (by decide) (by decide) ?_
  replace h := lt_some h
  refine t_s fX10_init_1188 rfl rfl rfl ?_
  refine t_s fX10_init_1189 rfl rfl rfl ?_
  refine t_s fX10_init_1190 rfl rfl rfl ?_
  refine k9_cs fX10_init_1192 (f443) (by decide) (by decide) (by decide) (by decide) (by decide) ?_
  replace h := lt_some h
  refine t_s fX10_init_1193 rfl rfl rfl ?_
  refine t_s fX10_init_1194 rfl rfl rfl ?_
  refine t_s fX10_init_1195 rfl rfl rfl ?_
  refine k9_cs fX10_init_1197 (f443) (by decide) (by decide) (by decide) (by decide) (by decide) ?_
  replace h := lt_some h
  refine k9_pr fX10_init_1198 (f442) kp_10_86 ?_
  replace h := lt_some h
  refine t_l fX10_init_1201 rfl rfl rfl rfl ?_
  refine t_s fX10_init_1202 rfl rfl rfl ?_
  refine k9_nc (q := 5) fX10_init_1203 rfl (by decide) ?_
  replace h := lt_some h
  replace h := lt_some h
  obtain ⟨⟨f450, f451⟩, h⟩ := gd_some h
  refine t_s fX10_init_1205 rfl rfl rfl ?_
  refine t_s fX10_init_1206 rfl rfl rfl ?_
  refine t_s fX10_init_1207 rfl rfl rfl ?_
  refine k9_cs fX10_init_1209 (f451) (by decide) (by decide) (by decide) (by decide) (by decide) ?_
  replace h := lt_some h
  refine t_s fX10_init_1210 rfl rfl rfl ?_
  refine t_s fX10_init_1211 rfl rfl rfl ?_
  refine t_s fX10_init_1212 rfl rfl rfl ?_
  refine k9_cs fX10_init_1214 (f451) (by decide) (by decide) (by decide) (by decide) (by decide) ?_
  replace h := lt_some h
  refine t_s fX10_init_1215 rfl rfl rfl ?_
  refine t_s fX10_init_1216 rfl rfl rfl ?_
  refine t_s fX10_init_1217 rfl rfl rfl ?_
  refine k9_cs fX10_init_1219 (f451) (by decide) (by decide) (by decide) (by decide) (by decide) ?_
  replace h := lt_some h
  refine t_s fX10_init_1220 rfl rfl rfl ?_
  refine t_s fX10_init_1221 rfl rfl rfl ?_
  refine t_s fX10_init_1222 rfl rfl rfl ?_
  refine k9_cs fX10_init_1224 (f451) (by decide) (by decide) (by decide) (by decide) (by decide) ?_
  replace h := lt_some h
  refine t_s fX10_init_1225 rfl rfl rfl ?_
  refine t_s fX10_init_1226 rfl rfl rfl ?_
  refine t_s fX10_init_1227 rfl rfl rfl ?_
  refine k9_cs fX10_init_1229 (f451) (by decide) (by decide) (by decide) (by decide) (by decide) ?_
  replace h := lt_some h
  refine k9_pr fX10_init_1230 (f450) kp_10_87 ?_
  replace h := lt_some h
  refine t_l fX10_init_1233 rfl rfl rfl rfl ?_
  refine t_s fX10_init_1234 rfl rfl rfl ?_
  refine k9_nc (q := 3) fX10_init_1235 rfl (by decide) ?_
  replace h := lt_some h
  replace h := lt_some h
  obtain ⟨⟨f460, f461⟩, h⟩ := gd_some h
  refine t_s fX10_init_1237 rfl rfl rfl ?_
  refine t_s fX10_init_1238 rfl rfl rfl ?_
  refine t_s fX10_init_1239 rfl rfl rfl ?_
  refine k9_cs fX10_init_1241 (f461) (by decide) (by decide) (by decide) (by decide) (by decide) ?_
  replace h := lt_some h
  refine t_s fX10_init_1242 rfl rfl rfl ?_
  refine t_s fX10_init_1243 rfl rfl rfl ?_
  refine t_s fX10_init_1244 rfl rfl rfl ?_
  refine k9_cs fX10_init_1246 (f461) (by decide) (by decide) (by decide) (by decide) (by decide) ?_
  replace h := lt_some h
  refine t_s fX10_init_1247 rfl rfl rfl ?_
  refine t_s fX10_init_1248 rfl rfl rfl ?_
  refine t_s fX10_init_1249 rfl rfl rfl ?_
  refine k9_cs fX10_init_1251 (f461) (by decide) (by decide) (by decide) (by decide) (by decide) ?_
  replace h := lt_some h
  refine k9_pr fX10_init_1252 (f460) kp_10_88 ?_
  replace h := lt_some h
  refine t_l fX10_init_1255 rfl rfl rfl rfl ?_
  refine t_s fX10_init_1256 rfl rfl rfl ?_
  refine k9_nc (q := 6) fX10_init_1258 rfl (by decide) ?_
  replace h := lt_some h
  replace h := lt_some h
  obtain ⟨⟨f468, f469⟩, h⟩ := gd_some h
  refine t_s fX10_init_1260 rfl rfl rfl ?_
  refine t_s fX10_init_1261 rfl rfl rfl ?_
  refine t_s fX10_init_1262 rfl rfl rfl ?_
  refine k9_cs fX10_init_1264 (f469) (by decide) (by decide) (by decide) (by decide) (by decide) ?_
  replace h := lt_some h
  refine t_s fX10_init_1265 rfl rfl rfl ?_
  refine t_s fX10_init_1266 rfl rfl rfl ?_
  refine t_s fX10_init_1267 rfl rfl rfl ?_
  refine k9_cs fX10_init_1269 (f469) (by decide) (by decide) (by decide) (by decide) (by decide) ?_
  replace h := lt_some h
  refine t_s fX10_init_1270 rfl rfl rfl ?_
  refine t_s fX10_init_1271 rfl rfl rfl ?_
  refine t_s fX10_init_1272 rfl rfl rfl ?_
  refine k9_cs fX10_init_1274 (f469) (by decide) (by decide) (by decide) (by decide) (by decide) ?_
  replace h := lt_some h
  refine t_s fX10_init_1275 rfl rfl rfl ?_
  refine t_s fX10_init_1276 rfl rfl rfl ?_
  refine t_s fX10_init_1277 rfl rfl rfl ?_
  refine k9_cs fX10_init_1279 (f469) (by decide) (by decide) (by decide) (by decide) (by decide) ?_
  replace h := lt_some h
  refine t_s fX10_init_1280 rfl rfl rfl ?_
  refine t_s fX10_init_1281 rfl rfl rfl ?_
  refine t_s fX10_init_1282 rfl rfl rfl ?_
  refine k9_cs fX10_init_1284 (f469) (by decide) (by decide) (by decide) (by decide) (by decide) ?_
  replace h := lt_some h
  refine t_s fX10_init_1285 rfl rfl rfl ?_
  refine t_s fX10_init_1286 rfl rfl rfl ?_
  refine t_s fX10_init_1287 rfl rfl rfl ?_
  refine k9_cs fX10_init_1289 (f469) (by decide) (by decide) (by decide) (by decide) (by decide) ?_
  replace h := lt_some h
  refine k9_pr fX10_init_1290 (f468) kp_10_89 ?_
  replace h := lt_some h
  refine t_l fX10_init_1293 rfl rfl rfl rfl ?_
  refine t_s fX10_init_1294 rfl rfl rfl ?_
  refine k9_nc (q := 4) fX10_init_1295 rfl (by decide) ?_
  replace h := lt_some h
  replace h := lt_some h
  obtain ⟨⟨f479, f480⟩, h⟩ := gd_some h
  refine t_s fX10_init_1297 rfl rfl rfl ?_
  refine t_s fX10_init_1298 rfl rfl rfl ?_
  refine t_s fX10_init_1299 rfl rfl rfl ?_
  refine k9_cs fX10_init_1301 (f480) (by decide) (by decide) (by decide) (by decide) (by decide) ?_
  replace h := lt_some h
  refine t_s fX10_init_1302 rfl rfl rfl ?_
  refine t_s fX10_init_1303 rfl rfl rfl ?_
  refine t_s fX10_init_1304 rfl rfl rfl ?_
  refine k9_cs fX10_init_1306 (f480) (by decide) (by decide) (by decide) (by decide) (by decide) ?_
  replace h := lt_some h
  refine t_s fX10_init_1307 rfl rfl rfl ?_
  refine t_s fX10_init_1308 rfl rfl rfl ?_
  refine t_s fX10_init_1309 rfl rfl rfl ?_
  refine k9_cs fX10_init_1311 (f480) (by decide) (by decide) (by decide) (by decide) (by decide) ?_
  replace h := lt_some h
  refine t_s fX10_init_1312 rfl rfl rfl ?_
  refine t_s fX10_init_1313 rfl rfl rfl ?_
  refine t_s fX10_init_1314 rfl rfl rfl ?_
  refine k9_cs fX10_init_1316 (f480) (by decide) (by decide) (by decide) (by decide) (by decide) ?_
  replace h := lt_some h
  refine k9_pr fX10_init_1317 (f479) kp_10_90 ?_
  replace h := lt_some h
  refine t_l fX10_init_1320 rfl rfl rfl rfl ?_
  refine t_s fX10_init_1321 rfl rfl rfl ?_
  refine k9_nc (q := 4) fX10_init_1322 rfl (by decide) ?_
  replace h := lt_some h
  replace h := lt_some h
  obtain ⟨⟨f488, f489⟩, h⟩ := gd_some h
  refine t_s fX10_init_1324 rfl rfl rfl ?_
  refine t_s fX10_init_1325 rfl rfl rfl ?_
  refine t_s fX10_init_1326 rfl rfl rfl ?_
  refine k9_cs fX10_init_1328 (f489) (by decide) (by decide) (by decide) (by decide) (by decide) ?_
  replace h := lt_some h
  refine t_s fX10_init_1329 rfl rfl rfl ?_
  refine t_s fX10_init_1330 rfl rfl rfl ?_
  refine t_s fX10_init_1331 rfl rfl rfl ?_
  refine k9_cs fX10_init_1333 (f489) (by decide) (by decide) (by decide) (by decide) (by decide) ?_
  replace h := lt_some h
  refine t_s fX10_init_1334 rfl rfl rfl ?_
  refine t_s fX10_init_1335 rfl rfl rfl ?_
  refine t_s fX10_init_1336 rfl rfl rfl ?_
  refine k9_cs fX10_init_1338 (f489) (by decide) (by decide) (by decide) (by decide) (by decide) ?_
  replace h := lt_some h
  refine t_s fX10_init_1339 rfl rfl rfl ?_
  refine t_s fX10_init_1340 rfl rfl rfl ?_
  refine t_s fX10_init_1341 rfl rfl rfl ?_
  refine k9_cs fX10_init_1343 (f489) (by decide) (by decide) (by decide) (by decide) (by decide) ?_
  replace h := lt_some h
  refine k9_pr fX10_init_1344 (f488) kp_10_91 ?_
  replace h := lt_some h
  exact tj_X10_init_J1347  h

theorem tj_X10_init_J983 {X : mX} {r0 : Nat} {W W' : mW} {v : Int} (h : F_X10_init_J983 r0 W = some (W', v)) : T (X) (0) 158 983 [some (.ref r0)] [] W.1 W.2.1 W.2.2.1 W.2.2.2 (qwv W' v) := by
  unfold F_X10_init_J983 at h
  obtain ⟨f370, h⟩ := gd_some h
  refine t_l fX10_init_983 rfl rfl rfl rfl ?_
  refine t_s fX10_init_984 rfl rfl rfl ?_
  refine k9_nc (q := 5) fX10_init_985 rfl (by decide) ?_
  replace h := lt_some h
  replace h := lt_some h
  obtain ⟨⟨f373, f374⟩, h⟩ := gd_some h
  refine t_s fX10_init_987 rfl rfl rfl ?_
  refine t_s fX10_init_988 rfl rfl rfl ?_
  refine t_s fX10_init_989 rfl rfl rfl ?_
  refine k9_cs fX10_init_991 (f374) (by decide) (by decide) (by decide) (by decide) (by decide) ?_
  replace h := lt_some h
  refine t_s fX10_init_992 rfl rfl rfl ?_
  refine t_s fX10_init_993 rfl rfl rfl ?_
  refine t_s fX10_init_994 rfl rfl rfl ?_
  refine k9_cs fX10_init_996 (f374) (by decide) (by decide) (by decide) (by decide) (by decide) ?_
  replace h := lt_some h
  refine t_s fX10_init_997 rfl rfl rfl ?_
  refine t_s fX10_init_998 rfl rfl rfl ?_
  refine t_s fX10_init_999 rfl rfl rfl ?_
  refine k9_cs fX10_init_1001 (f374) (by decide) (by decide) (by decide) (by decide) (by decide) ?_
  replace h := lt_some h
  refine t_s fX10_init_1002 rfl rfl rfl ?_
  refine t_s fX10_init_1003 rfl rfl rfl ?_
  refine t_s fX10_init_1004 rfl rfl rfl ?_
  refine k9_cs fX10_init_1006 (f374) (by decide) (by decide) (by decide) (by decide) (by decide) ?_
  replace h := lt_some h
  refine t_s fX10_init_1007 rfl rfl rfl ?_
  refine t_s fX10_init_1008 rfl rfl rfl ?_
  refine t_s fX10_init_1009 rfl rfl rfl ?_
  refine k9_cs fX10_init_1011 (f374) (by decide) (by decide) (by decide) (by decide) (by decide) ?_
  replace h := lt_some h
  refine k9_pr fX10_init_1012 (f373) kp_10_78 ?_
  replace h := lt_some h
  refine t_l fX10_init_1015 rfl rfl rfl rfl ?_
  refine t_s fX10_init_1016 rfl rfl rfl ?_
  refine k9_nc (q := 4) fX10_init_1017 rfl (by decide) ?_
  replace h := lt_some h
  replace h := lt_some h
  obtain ⟨⟨f383, f384⟩, h⟩ := gd_some h
  refine t_s fX10_init_1019 rfl rfl rfl ?_
  refine t_s fX10_init_1020 rfl rfl rfl ?_
  refine t_s fX10_init_1021 rfl rfl rfl ?_
  refine k9_cs fX10_init_1023 (f384) (by decide) (by decide) (by decide) (by decide) (by decide) ?_
  replace h := lt_some h
  refine t_s fX10_init_1024 rfl rfl rfl ?_
  refine t_s fX10_init_1025 rfl rfl rfl ?_
  refine t_s fX10_init_1026 rfl rfl rfl ?_
  refine k9_cs fX10_init_1028 (f384) (by decide) (by decide) (by decide) (by decide) (by decide) ?_
  replace h := lt_some h
  refine t_s fX10_init_1029 rfl rfl rfl ?_
  refine t_s fX10_init_1030 rfl rfl rfl ?_
  refine t_s fX10_init_1031 rfl rfl rfl ?_
  refine k9_cs fX10_init_1033 (f384) (by decide) (by decide) (by decide) (by decide) (by decide) ?_
  replace h := lt_some h
  refine t_s fX10_init_1034 rfl rfl rfl ?_
  refine t_s fX10_init_1035 rfl rfl rfl ?_
  refine t_s fX10_init_1036 rfl rfl rfl ?_
  refine k9_cs fX10_init_1038 (f384) (by decide) (by decide) (by decide) (by decide) (by decide) ?_
  replace h := lt_some h
  refine k9_pr fX10_init_1039 (f383) kp_10_79 ?_
  replace h := lt_some h
  refine t_l fX10_init_1042 rfl rfl rfl rfl ?_
  refine t_s fX10_init_1043 rfl rfl rfl ?_
  refine k9_nc (q := 5) fX10_init_1044 rfl (by decide) ?_
  replace h := lt_some h
  replace h := lt_some h
  obtain ⟨⟨f392, f393⟩, h⟩ := gd_some h
  refine t_s fX10_init_1046 rfl rfl rfl ?_
  refine t_s fX10_init_1047 rfl rfl rfl ?_
  refine t_s fX10_init_1048 rfl rfl rfl ?_
  refine k9_cs fX10_init_1050 (f393) (by decide) (by decide) (by decide) (by decide) (by decide) ?_
  replace h := lt_some h
  refine t_s fX10_init_1051 rfl rfl rfl ?_
  refine t_s fX10_init_1052 rfl rfl rfl ?_
  refine t_s fX10_init_1053 rfl rfl rfl ?_
  refine k9_cs fX10_init_1055 (f393) (by decide) (by decide) (by decide) (by decide) (by decide) ?_
  replace h := lt_some h
  refine t_s fX10_init_1056 rfl rfl rfl ?_
  refine t_s fX10_init_1057 rfl rfl rfl ?_
  refine t_s fX10_init_1058 rfl rfl rfl ?_
  refine k9_cs fX10_init_1060 (f393) (by decide) (by decide) (by decide) (by decide) (by decide) ?_
  replace h := lt_some h
  refine t_s fX10_init_1061 rfl rfl rfl ?_
  refine t_s fX10_init_1062 rfl rfl rfl ?_
  refine t_s fX10_init_1063 rfl rfl rfl ?_
  refine k9_cs fX10_init_1065 (f393) (by decide) (by decide) (by decide) (by decide) (by decide) ?_
  replace h := lt_some h
  refine t_s fX10_init_1066 rfl rfl rfl ?_
  refine t_s fX10_init_1067 rfl rfl rfl ?_
  refine t_s fX10_init_1068 rfl rfl rfl ?_
  refine k9_cs fX10_init_1070 (f393) (by decide) (by decide) (by decide) (by decide) (by decide) ?_
  replace h := lt_some h
  refine k9_pr fX10_init_1071 (f392) kp_10_80 ?_
  replace h := lt_some h
  refine t_l fX10_init_1074 rfl rfl rfl rfl ?_
  refine t_s fX10_init_1075 rfl rfl rfl ?_
  refine k9_nc (q := 3) fX10_init_1076 rfl (by decide) ?_
  replace h := lt_some h
  replace h := lt_some h
  obtain ⟨⟨f402, f403⟩, h⟩ := gd_some h
  refine t_s fX10_init_1078 rfl rfl rfl ?_
  refine t_s fX10_init_1079 rfl rfl rfl ?_
  refine t_s fX10_init_1080 rfl rfl rfl ?_
  refine k9_cs fX10_init_1082 (f403) (by decide) (by decide) (by decide) (by decide) (by decide) ?_
  replace h := lt_some h
  refine t_s fX10_init_1083 rfl rfl rfl ?_
  refine t_s fX10_init_1084 rfl rfl rfl ?_
  refine t_s fX10_init_1085 rfl rfl rfl ?_
  refine k9_cs fX10_init_1087 (f403) (by decide) (by decide) (by decide) (by decide) (by decide) ?_
  replace h := lt_some h
  refine t_s fX10_init_1088 rfl rfl rfl ?_
  refine t_s fX10_init_1089 rfl rfl rfl ?_
  refine t_s fX10_init_1090 rfl rfl rfl ?_
  refine k9_cs fX10_init_1092 (f403) (by decide) (by decide) (by decide) (by decide) (by decide) ?_
  replace h := lt_some h
  refine k9_pr fX10_init_1093 (f402) kp_10_81 ?_
  replace h := lt_some h
  refine t_l fX10_init_1096 rfl rfl rfl rfl ?_
  refine t_s fX10_init_1097 rfl rfl rfl ?_
  refine k9_nc (q := 3) fX10_init_1098 rfl (by decide) ?_
  replace h := lt_some h
  replace h := lt_some h
  obtain ⟨⟨f410, f411⟩, h⟩ := gd_some h
  refine t_s fX10_init_1100 rfl rfl rfl ?_
  refine t_s fX10_init_1101 rfl rfl rfl ?_
  refine t_s fX10_init_1102 rfl rfl rfl ?_
  refine k9_cs fX10_init_1104 (f411) (by decide) (by decide) (by decide) (by decide) (by decide) ?_
  replace h := lt_some h
  refine t_s fX10_init_1105 rfl rfl rfl ?_
  refine t_s fX10_init_1106 rfl rfl rfl ?_
  refine t_s fX10_init_1107 rfl rfl rfl ?_
  refine k9_cs fX10_init_1109 (f411) (by decide) (by decide) (by decide) (by decide) (by decide) ?_
  replace h := lt_some h
  refine t_s fX10_init_1110 rfl rfl rfl ?_
  refine t_s fX10_init_1111 rfl rfl rfl ?_
  refine t_s fX10_init_1112 rfl rfl rfl ?_
  refine k9_cs fX10_init_1114 (f411) (by decide) (by decide) (by decide) (by decide) (by decide) ?_
  replace h := lt_some h
  refine k9_pr fX10_init_1115 (f410) kp_10_82 ?_
  replace h := lt_some h
  refine t_l fX10_init_1118 rfl rfl rfl rfl ?_
  refine t_s fX10_init_1119 rfl rfl rfl ?_
  refine k9_nc (q := 2) fX10_init_1120 rfl (by decide) ?_
  replace h := lt_some h
  replace h := lt_some h
  obtain ⟨⟨f418, f419⟩, h⟩ := gd_some h
  refine t_s fX10_init_1122 rfl rfl rfl ?_
  refine t_s fX10_init_1123 rfl rfl rfl ?_
  refine t_s fX10_init_1124 rfl rfl rfl ?_
  refine k9_cs fX10_init_1126 (f419) (by decide) (by decide) (by decide) (by decide) (by decide) ?_
  replace h := lt_some h
  refine t_s fX10_init_1127 rfl rfl rfl ?_
  refine t_s fX10_init_1128 rfl rfl rfl ?_
  refine t_s fX10_init_1129 rfl rfl rfl ?_
  refine k9_cs fX10_init_1131 (f419) (by decide) (by decide) (by decide) (by decide) (by decide) ?_
  replace h := lt_some h
  refine k9_pr fX10_init_1132 (f418) kp_10_83 ?_
  replace h := lt_some h
  refine t_l fX10_init_1135 rfl rfl rfl rfl ?_
  refine t_s fX10_init_1136 rfl rfl rfl ?_
  refine k9_nc (q := 3) fX10_init_1137 rfl (by decide) ?_
  replace h := lt_some h
  replace h := lt_some h
  obtain ⟨⟨f425, f426⟩, h⟩ := gd_some h
  refine t_s fX10_init_1139 rfl rfl rfl ?_
  refine t_s fX10_init_1140 rfl rfl rfl ?_
  refine t_s fX10_init_1141 rfl rfl rfl ?_
  refine k9_cs fX10_init_1143 (f426) (by decide) (by decide) (by decide) (by decide) (by decide) ?_
  replace h := lt_some h
  refine t_s fX10_init_1144 rfl rfl rfl ?_
  refine t_s fX10_init_1145 rfl rfl rfl ?_
  refine t_s fX10_init_1146 rfl rfl rfl ?_
  refine k9_cs fX10_init_1148 (f426) (by decide) (by decide) (by decide) (by decide) (by decide) ?_
  replace h := lt_some h
  refine t_s fX10_init_1149 rfl rfl rfl ?_
  refine t_s fX10_init_1150 rfl rfl rfl ?_
  refine t_s fX10_init_1151 rfl rfl rfl ?_
  refine k9_cs fX10_init_1153 (f426) (by decide) (by decide) (by decide) (by decide) (by decide) ?_
  replace h := lt_some h
  refine k9_pr fX10_init_1154 (f425) kp_10_84 ?_
  replace h := lt_some h
  exact tj_X10_init_J1157  h

theorem tj_X10_init_J821 {X : mX} {r0 : Nat} {W W' : mW} {v : Int} (h : F_X10_init_J821 r0 W = some (W', v)) : T (X) (0) 158 821 [some (.ref r0)] [] W.1 W.2.1 W.2.2.1 W.2.2.2 (qwv W' v) := by
  unfold F_X10_init_J821 at h
  obtain ⟨f299, h⟩ := gd_some h
  refine t_l fX10_init_821 rfl rfl rfl rfl ?_
  refine t_s fX10_init_822 rfl rfl rfl ?_
  refine k9_na (q := 282) fX10_init_825 rfl (by decide) ?_
  replace h := lt_some h
  replace h := lt_some h
  obtain ⟨⟨f302, f303⟩, h⟩ := gd_some h
  refine k9_pr fX10_init_827 (f302) kp_10_50 ?_
  replace h := lt_some h
  refine t_l fX10_init_830 rfl rfl rfl rfl ?_
  refine t_s fX10_init_831 rfl rfl rfl ?_
  refine k9_na (q := 3) fX10_init_832 rfl (by decide) ?_
  replace h := lt_some h
  replace h := lt_some h
  obtain ⟨⟨f307, f308⟩, h⟩ := gd_some h
  refine k9_pr fX10_init_834 (f307) kp_10_59 ?_
  replace h := lt_some h
  refine t_l fX10_init_837 rfl rfl rfl rfl ?_
  refine t_s fX10_init_838 rfl rfl rfl ?_
  refine k9_na (q := 10) fX10_init_840 rfl (by decide) ?_
  replace h := lt_some h
  replace h := lt_some h
  obtain ⟨⟨f312, f313⟩, h⟩ := gd_some h
  refine k9_pr fX10_init_842 (f312) kp_10_60 ?_
  replace h := lt_some h
  refine t_l fX10_init_845 rfl rfl rfl rfl ?_
  refine t_s fX10_init_846 rfl rfl rfl ?_
  refine k9_na (q := 10) fX10_init_848 rfl (by decide) ?_
  replace h := lt_some h
  replace h := lt_some h
  obtain ⟨⟨f317, f318⟩, h⟩ := gd_some h
  refine k9_pr fX10_init_850 (f317) kp_10_63 ?_
  replace h := lt_some h
  refine t_l fX10_init_853 rfl rfl rfl rfl ?_
  refine t_s fX10_init_854 rfl rfl rfl ?_
  refine k9_na (q := 11264) fX10_init_857 rfl (by decide) ?_
  replace h := lt_some h
  replace h := lt_some h
  obtain ⟨⟨f322, f323⟩, h⟩ := gd_some h
  refine k9_pr fX10_init_859 (f322) kp_10_66 ?_
  replace h := lt_some h
  refine t_l fX10_init_862 rfl rfl rfl rfl ?_
  refine t_s fX10_init_863 rfl rfl rfl ?_
  refine k9_na (q := 100) fX10_init_865 rfl (by decide) ?_
  replace h := lt_some h
  replace h := lt_some h
  obtain ⟨⟨f327, f328⟩, h⟩ := gd_some h
  refine k9_pr fX10_init_867 (f327) kp_10_67 ?_
  replace h := lt_some h
  refine t_l fX10_init_870 rfl rfl rfl rfl ?_
  refine t_s fX10_init_871 rfl rfl rfl ?_
  refine k9_na (q := 5640) fX10_init_874 rfl (by decide) ?_
  replace h := lt_some h
  replace h := lt_some h
  obtain ⟨⟨f332, f333⟩, h⟩ := gd_some h
  refine k9_pr fX10_init_876 (f332) kp_10_68 ?_
  replace h := lt_some h
  refine t_l fX10_init_879 rfl rfl rfl rfl ?_
  refine t_s fX10_init_880 rfl rfl rfl ?_
  refine k9_pj fX10_init_881 (f332) kp_10_71 ?_
  replace h := lt_some h
  refine t_l fX10_init_884 rfl rfl rfl rfl ?_
  refine t_s fX10_init_885 rfl rfl rfl ?_
  refine k9_na (q := 60) fX10_init_887 rfl (by decide) ?_
  replace h := lt_some h
  replace h := lt_some h
  obtain ⟨⟨f338, f339⟩, h⟩ := gd_some h
  refine k9_pr fX10_init_889 (f338) kp_10_74 ?_
  replace h := lt_some h
  refine t_l fX10_init_892 rfl rfl rfl rfl ?_
  refine t_s fX10_init_893 rfl rfl rfl ?_
  refine k9_nc (q := 5) fX10_init_894 rfl (by decide) ?_
  replace h := lt_some h
  replace h := lt_some h
  obtain ⟨⟨f343, f344⟩, h⟩ := gd_some h
  refine t_s fX10_init_896 rfl rfl rfl ?_
  refine t_s fX10_init_897 rfl rfl rfl ?_
  refine t_s fX10_init_898 rfl rfl rfl ?_
  refine k9_cs fX10_init_900 (f344) (by decide) (by decide) (by decide) (by decide) (by decide) ?_
  replace h := lt_some h
  refine t_s fX10_init_901 rfl rfl rfl ?_
  refine t_s fX10_init_902 rfl rfl rfl ?_
  refine t_s fX10_init_903 rfl rfl rfl ?_
  refine k9_cs fX10_init_905 (f344) (by decide) (by decide) (by decide) (by decide) (by decide) ?_
  replace h := lt_some h
  refine t_s fX10_init_906 rfl rfl rfl ?_
  refine t_s fX10_init_907 rfl rfl rfl ?_
  refine t_s fX10_init_908 rfl rfl rfl ?_
  refine k9_cs fX10_init_910 (f344) (by decide) (by decide) (by decide) (by decide) (by decide) ?_
  replace h := lt_some h
  refine t_s fX10_init_911 rfl rfl rfl ?_
  refine t_s fX10_init_912 rfl rfl rfl ?_
  refine t_s fX10_init_913 rfl rfl rfl ?_
  refine k9_cs fX10_init_915 (f344) (by decide) (by decide) (by decide) (by decide) (by decide) ?_
  replace h := lt_some h
  refine t_s fX10_init_916 rfl rfl rfl ?_
  refine t_s fX10_init_917 rfl rfl rfl ?_
  refine t_s fX10_init_918 rfl rfl rfl ?_
  refine k9_cs fX10_init_920 (f344) (by decide) (by decide) (by decide) (by decide) (by decide) ?_
  replace h := lt_some h
  refine k9_pr fX10_init_921 (f343) kp_10_75 ?_
  replace h := lt_some h
  refine t_l fX10_init_924 rfl rfl rfl rfl ?_
  refine t_s fX10_init_925 rfl rfl rfl ?_
  refine k9_nc (q := 4) fX10_init_926 rfl (by decide) ?_
  replace h := lt_some h
  replace h := lt_some h
  obtain ⟨⟨f353, f354⟩, h⟩ := gd_some h
  refine t_s fX10_init_928 rfl rfl rfl ?_
  refine t_s fX10_init_929 rfl rfl rfl ?_
  refine t_s fX10_init_930 rfl rfl rfl ?_
  refine k9_cs fX10_init_932 (f354) (by decide) (by decide) (by decide) (by decide) (by decide) ?_
  replace h := lt_some h
  refine t_s fX10_init_933 rfl rfl rfl ?_
  refine t_s fX10_init_934 rfl rfl rfl ?_
  refine t_s fX10_init_935 rfl rfl rfl ?_
  refine k9_cs fX10_init_937 (f354) (by decide) (by decide) (by decide) (by decide) (by decide) ?_
  replace h := lt_some h
  refine t_s fX10_init_938 rfl rfl rfl ?_
  refine t_s fX10_init_939 rfl rfl rfl ?_
  refine t_s fX10_init_940 rfl rfl rfl ?_
  refine k9_cs fX10_init_942 (f354) (by decide) (by decide) (by decide) (by decide) (by decide) ?_
  replace h := lt_some h
  refine t_s fX10_init_943 rfl rfl rfl ?_
  refine t_s fX10_init_944 rfl rfl rfl ?_
  refine t_s fX10_init_945 rfl rfl rfl ?_
  refine k9_cs fX10_init_947 (f354) (by decide) (by decide) (by decide) (by decide) (by decide) ?_
  replace h := lt_some h
  refine k9_pr fX10_init_948 (f353) kp_10_76 ?_
  replace h := lt_some h
  refine t_l fX10_init_951 rfl rfl rfl rfl ?_
  refine t_s fX10_init_952 rfl rfl rfl ?_
  refine k9_nc (q := 5) fX10_init_953 rfl (by decide) ?_
  replace h := lt_some h
  replace h := lt_some h
  obtain ⟨⟨f362, f363⟩, h⟩ := gd_some h
  refine t_s fX10_init_955 rfl rfl rfl ?_
  refine t_s fX10_init_956 rfl rfl rfl ?_
  refine t_s fX10_init_957 rfl rfl rfl ?_
  refine k9_cs fX10_init_959 (f363) (by decide) (by decide) (by decide) (by decide) (by decide) ?_
  replace h := lt_some h
  refine t_s fX10_init_960 rfl rfl rfl ?_
  refine t_s fX10_init_961 rfl rfl rfl ?_
  refine t_s fX10_init_962 rfl rfl rfl ?_
  refine k9_cs fX10_init_964 (f363) (by decide) (by decide) (by decide) (by decide) (by decide) ?_
  replace h := lt_some h
  refine t_s fX10_init_965 rfl rfl rfl ?_
  refine t_s fX10_init_966 rfl rfl rfl ?_
  refine t_s fX10_init_967 rfl rfl rfl ?_
  refine k9_cs fX10_init_969 (f363) (by decide) (by decide) (by decide) (by decide) (by decide) ?_
  replace h := lt_some h
  refine t_s fX10_init_970 rfl rfl rfl ?_
  refine t_s fX10_init_971 rfl rfl rfl ?_
  refine t_s fX10_init_972 rfl rfl rfl ?_
  refine k9_cs fX10_init_974 (f363) (by decide) (by decide) (by decide) (by decide) (by decide) ?_
  replace h := lt_some h
  refine t_s fX10_init_975 rfl rfl rfl ?_
  refine t_s fX10_init_976 rfl rfl rfl ?_
  refine t_s fX10_init_977 rfl rfl rfl ?_
  refine k9_cs fX10_init_979 (f363) (by decide) (by decide) (by decide) (by decide) (by decide) ?_
  replace h := lt_some h
  refine k9_pr fX10_init_980 (f362) kp_10_77 ?_
  replace h := lt_some h
  exact tj_X10_init_J983  h

theorem tj_X10_init_J695 {X : mX} {r0 : Nat} {W W' : mW} {v : Int} (h : F_X10_init_J695 r0 W = some (W', v)) : T (X) (0) 158 695 [some (.ref r0)] [] W.1 W.2.1 W.2.2.1 W.2.2.2 (qwv W' v) := by
  unfold F_X10_init_J695 at h
  obtain ⟨f235, h⟩ := gd_some h
  refine t_l fX10_init_695 rfl rfl rfl rfl ?_
  refine t_s fX10_init_696 rfl rfl rfl ?_
  refine k9_na (q := 6) fX10_init_698 rfl (by decide) ?_
  replace h := lt_some h
  replace h := lt_some h
  obtain ⟨⟨f238, f239⟩, h⟩ := gd_some h
  refine k9_pr fX10_init_700 (f238) kp_10_36 ?_
  replace h := lt_some h
  refine t_l fX10_init_703 rfl rfl rfl rfl ?_
  refine t_s fX10_init_704 rfl rfl rfl ?_
  refine k9_nl (q := 40) fX10_init_706 rfl (by decide) ?_
  replace h := lt_some h
  replace h := lt_some h
  obtain ⟨⟨f243, f244⟩, h⟩ := gd_some h
  refine k9_pr fX10_init_708 (f243) kp_10_37 ?_
  replace h := lt_some h
  refine t_l fX10_init_711 rfl rfl rfl rfl ?_
  refine t_s fX10_init_712 rfl rfl rfl ?_
  refine k9_na (q := 40) fX10_init_714 rfl (by decide) ?_
  replace h := lt_some h
  replace h := lt_some h
  obtain ⟨⟨f248, f249⟩, h⟩ := gd_some h
  refine k9_pr fX10_init_716 (f248) kp_10_38 ?_
  replace h := lt_some h
  refine t_l fX10_init_719 rfl rfl rfl rfl ?_
  refine t_s fX10_init_720 rfl rfl rfl ?_
  refine k9_na (q := 144) fX10_init_723 rfl (by decide) ?_
  replace h := lt_some h
  replace h := lt_some h
  obtain ⟨⟨f253, f254⟩, h⟩ := gd_some h
  refine k9_pr fX10_init_725 (f253) kp_10_39 ?_
  replace h := lt_some h
  refine t_l fX10_init_728 rfl rfl rfl rfl ?_
  refine t_s fX10_init_729 rfl rfl rfl ?_
  refine k9_na (q := 20) fX10_init_731 rfl (by decide) ?_
  replace h := lt_some h
  replace h := lt_some h
  obtain ⟨⟨f258, f259⟩, h⟩ := gd_some h
  refine k9_pr fX10_init_733 (f258) kp_10_40 ?_
  replace h := lt_some h
  refine t_l fX10_init_736 rfl rfl rfl rfl ?_
  refine t_s fX10_init_737 rfl rfl rfl ?_
  refine k9_na (q := 20) fX10_init_739 rfl (by decide) ?_
  replace h := lt_some h
  replace h := lt_some h
  obtain ⟨⟨f263, f264⟩, h⟩ := gd_some h
  refine k9_pr fX10_init_741 (f263) kp_10_41 ?_
  replace h := lt_some h
  refine t_l fX10_init_744 rfl rfl rfl rfl ?_
  refine t_s fX10_init_745 rfl rfl rfl ?_
  refine k9_na (q := 200) fX10_init_748 rfl (by decide) ?_
  replace h := lt_some h
  replace h := lt_some h
  obtain ⟨⟨f268, f269⟩, h⟩ := gd_some h
  refine k9_pr fX10_init_750 (f268) kp_10_42 ?_
  replace h := lt_some h
  refine t_l fX10_init_753 rfl rfl rfl rfl ?_
  refine t_s fX10_init_754 rfl rfl rfl ?_
  refine k9_na (q := 8) fX10_init_756 rfl (by decide) ?_
  replace h := lt_some h
  replace h := lt_some h
  obtain ⟨⟨f273, f274⟩, h⟩ := gd_some h
  refine t_s fX10_init_758 rfl rfl rfl ?_
  refine t_s fX10_init_759 rfl rfl rfl ?_
  refine t_s fX10_init_760 rfl rfl rfl ?_
  refine k9_is fX10_init_761 (f274) (by decide) (by decide) (by decide) ?_
  replace h := lt_some h
  refine t_s fX10_init_762 rfl rfl rfl ?_
  refine t_s fX10_init_763 rfl rfl rfl ?_
  refine t_s fX10_init_764 rfl rfl rfl ?_
  refine k9_is fX10_init_765 (f274) (by decide) (by decide) (by decide) ?_
  replace h := lt_some h
  refine t_s fX10_init_766 rfl rfl rfl ?_
  refine t_s fX10_init_767 rfl rfl rfl ?_
  refine t_s fX10_init_768 rfl rfl rfl ?_
  refine k9_is fX10_init_769 (f274) (by decide) (by decide) (by decide) ?_
  replace h := lt_some h
  refine t_s fX10_init_770 rfl rfl rfl ?_
  refine t_s fX10_init_771 rfl rfl rfl ?_
  refine t_s fX10_init_772 rfl rfl rfl ?_
  refine k9_is fX10_init_773 (f274) (by decide) (by decide) (by decide) ?_
  replace h := lt_some h
  refine t_s fX10_init_774 rfl rfl rfl ?_
  refine t_s fX10_init_775 rfl rfl rfl ?_
  refine t_s fX10_init_776 rfl rfl rfl ?_
  refine k9_is fX10_init_777 (f274) (by decide) (by decide) (by decide) ?_
  replace h := lt_some h
  refine t_s fX10_init_778 rfl rfl rfl ?_
  refine t_s fX10_init_779 rfl rfl rfl ?_
  refine t_s fX10_init_780 rfl rfl rfl ?_
  refine k9_is fX10_init_781 (f274) (by decide) (by decide) (by decide) ?_
  replace h := lt_some h
  refine t_s fX10_init_782 rfl rfl rfl ?_
  refine t_s fX10_init_783 rfl rfl rfl ?_
  refine t_s fX10_init_785 rfl rfl rfl ?_
  refine k9_is fX10_init_786 (f274) (by decide) (by decide) (by decide) ?_
  replace h := lt_some h
  refine t_s fX10_init_787 rfl rfl rfl ?_
  refine t_s fX10_init_788 rfl rfl rfl ?_
  refine t_s fX10_init_790 rfl rfl rfl ?_
  refine k9_is fX10_init_791 (f274) (by decide) (by decide) (by decide) ?_
  replace h := lt_some h
  refine k9_pr fX10_init_792 (f273) kp_10_43 ?_
  replace h := lt_some h
  refine t_l fX10_init_795 rfl rfl rfl rfl ?_
  refine t_s fX10_init_796 rfl rfl rfl ?_
  refine k9_na (q := 8) fX10_init_798 rfl (by decide) ?_
  replace h := lt_some h
  replace h := lt_some h
  obtain ⟨⟨f286, f287⟩, h⟩ := gd_some h
  refine k9_pr fX10_init_800 (f286) kp_10_44 ?_
  replace h := lt_some h
  refine t_l fX10_init_803 rfl rfl rfl rfl ?_
  refine t_s fX10_init_804 rfl rfl rfl ?_
  refine k9_na (q := 3200) fX10_init_807 rfl (by decide) ?_
  replace h := lt_some h
  replace h := lt_some h
  obtain ⟨⟨f291, f292⟩, h⟩ := gd_some h
  refine k9_pr fX10_init_809 (f291) kp_10_45 ?_
  replace h := lt_some h
  refine t_l fX10_init_812 rfl rfl rfl rfl ?_
  refine t_s fX10_init_813 rfl rfl rfl ?_
  refine k9_na (q := 282) fX10_init_816 rfl (by decide) ?_
  replace h := lt_some h
  replace h := lt_some h
  obtain ⟨⟨f296, f297⟩, h⟩ := gd_some h
  refine k9_pr fX10_init_818 (f296) kp_10_49 ?_
  replace h := lt_some h
  exact tj_X10_init_J821  h

theorem tj_X10_init_J530 {X : mX} {r0 : Nat} {W W' : mW} {v : Int} (h : F_X10_init_J530 r0 W = some (W', v)) : T (X) (0) 158 530 [some (.ref r0)] [] W.1 W.2.1 W.2.2.1 W.2.2.2 (qwv W' v) := by
  unfold F_X10_init_J530 at h
  obtain ⟨f176, h⟩ := gd_some h
  refine t_l fX10_init_530 rfl rfl rfl rfl ?_
  refine t_s fX10_init_531 rfl rfl rfl ?_
  refine k9_nc (q := 6) fX10_init_533 rfl (by decide) ?_
  replace h := lt_some h
  replace h := lt_some h
  obtain ⟨⟨f179, f180⟩, h⟩ := gd_some h
  refine t_s fX10_init_535 rfl rfl rfl ?_
  refine t_s fX10_init_536 rfl rfl rfl ?_
  refine t_s fX10_init_537 rfl rfl rfl ?_
  refine k9_cs fX10_init_539 (f180) (by decide) (by decide) (by decide) (by decide) (by decide) ?_
  replace h := lt_some h
  refine t_s fX10_init_540 rfl rfl rfl ?_
  refine t_s fX10_init_541 rfl rfl rfl ?_
  refine t_s fX10_init_542 rfl rfl rfl ?_
  refine k9_cs fX10_init_544 (f180) (by decide) (by decide) (by decide) (by decide) (by decide) ?_
  replace h := lt_some h
  refine t_s fX10_init_545 rfl rfl rfl ?_
  refine t_s fX10_init_546 rfl rfl rfl ?_
  refine t_s fX10_init_547 rfl rfl rfl ?_
  refine k9_cs fX10_init_549 (f180) (by decide) (by decide) (by decide) (by decide) (by decide) ?_
  replace h := lt_some h
  refine t_s fX10_init_550 rfl rfl rfl ?_
  refine t_s fX10_init_551 rfl rfl rfl ?_
  refine t_s fX10_init_552 rfl rfl rfl ?_
  refine k9_cs fX10_init_554 (f180) (by decide) (by decide) (by decide) (by decide) (by decide) ?_
  replace h := lt_some h
  refine t_s fX10_init_555 rfl rfl rfl ?_
  refine t_s fX10_init_556 rfl rfl rfl ?_
  refine t_s fX10_init_557 rfl rfl rfl ?_
  refine k9_cs fX10_init_559 (f180) (by decide) (by decide) (by decide) (by decide) (by decide) ?_
  replace h := lt_some h
  refine t_s fX10_init_560 rfl rfl rfl ?_
  refine t_s fX10_init_561 rfl rfl rfl ?_
  refine t_s fX10_init_562 rfl rfl rfl ?_
  refine k9_cs fX10_init_564 (f180) (by decide) (by decide) (by decide) (by decide) (by decide) ?_
  replace h := lt_some h
  refine k9_pr fX10_init_565 (f179) kp_10_28 ?_
  replace h := lt_some h
  refine t_l fX10_init_568 rfl rfl rfl rfl ?_
  refine t_s fX10_init_569 rfl rfl rfl ?_
  refine k9_nc (q := 2) fX10_init_570 rfl (by decide) ?_
  replace h := lt_some h
  replace h := lt_some h
  obtain ⟨⟨f190, f191⟩, h⟩ := gd_some h
  refine t_s fX10_init_572 rfl rfl rfl ?_
  refine t_s fX10_init_573 rfl rfl rfl ?_
  refine t_s fX10_init_574 rfl rfl rfl ?_
  refine k9_cs fX10_init_576 (f191) (by decide) (by decide) (by decide) (by decide) (by decide) ?_
  replace h := lt_some h
  refine t_s fX10_init_577 rfl rfl rfl ?_
  refine t_s fX10_init_578 rfl rfl rfl ?_
  refine t_s fX10_init_579 rfl rfl rfl ?_
  refine k9_cs fX10_init_581 (f191) (by decide) (by decide) (by decide) (by decide) (by decide) ?_
  replace h := lt_some h
  refine k9_pr fX10_init_582 (f190) kp_10_29 ?_
  replace h := lt_some h
  refine t_l fX10_init_585 rfl rfl rfl rfl ?_
  refine t_s fX10_init_586 rfl rfl rfl ?_
  refine k9_nc (q := 3) fX10_init_587 rfl (by decide) ?_
  replace h := lt_some h
  replace h := lt_some h
  obtain ⟨⟨f197, f198⟩, h⟩ := gd_some h
  refine t_s fX10_init_589 rfl rfl rfl ?_
  refine t_s fX10_init_590 rfl rfl rfl ?_
  refine t_s fX10_init_591 rfl rfl rfl ?_
  refine k9_cs fX10_init_593 (f198) (by decide) (by decide) (by decide) (by decide) (by decide) ?_
  replace h := lt_some h
  refine t_s fX10_init_594 rfl rfl rfl ?_
  refine t_s fX10_init_595 rfl rfl rfl ?_
  refine t_s fX10_init_596 rfl rfl rfl ?_
  refine k9_cs fX10_init_598 (f198) (by decide) (by decide) (by decide) (by decide) (by decide) ?_
  replace h := lt_some h
  refine t_s fX10_init_599 rfl rfl rfl ?_
  refine t_s fX10_init_600 rfl rfl rfl ?_
  refine t_s fX10_init_601 rfl rfl rfl ?_
  refine k9_cs fX10_init_603 (f198) (by decide) (by decide) (by decide) (by decide) (by decide) ?_
  replace h := lt_some h
  refine k9_pr fX10_init_604 (f197) kp_10_30 ?_
  replace h := lt_some h
  refine t_l fX10_init_607 rfl rfl rfl rfl ?_
  refine t_s fX10_init_608 rfl rfl rfl ?_
  refine k9_nc (q := 3) fX10_init_609 rfl (by decide) ?_
  replace h := lt_some h
  replace h := lt_some h
  obtain ⟨⟨f205, f206⟩, h⟩ := gd_some h
  refine t_s fX10_init_611 rfl rfl rfl ?_
  refine t_s fX10_init_612 rfl rfl rfl ?_
  refine t_s fX10_init_613 rfl rfl rfl ?_
  refine k9_cs fX10_init_615 (f206) (by decide) (by decide) (by decide) (by decide) (by decide) ?_
  replace h := lt_some h
  refine t_s fX10_init_616 rfl rfl rfl ?_
  refine t_s fX10_init_617 rfl rfl rfl ?_
  refine t_s fX10_init_618 rfl rfl rfl ?_
  refine k9_cs fX10_init_620 (f206) (by decide) (by decide) (by decide) (by decide) (by decide) ?_
  replace h := lt_some h
  refine t_s fX10_init_621 rfl rfl rfl ?_
  refine t_s fX10_init_622 rfl rfl rfl ?_
  refine t_s fX10_init_623 rfl rfl rfl ?_
  refine k9_cs fX10_init_625 (f206) (by decide) (by decide) (by decide) (by decide) (by decide) ?_
  replace h := lt_some h
  refine k9_pr fX10_init_626 (f205) kp_10_31 ?_
  replace h := lt_some h
  refine t_l fX10_init_629 rfl rfl rfl rfl ?_
  refine t_s fX10_init_630 rfl rfl rfl ?_
  refine k9_nc (q := 3) fX10_init_631 rfl (by decide) ?_
  replace h := lt_some h
  replace h := lt_some h
  obtain ⟨⟨f213, f214⟩, h⟩ := gd_some h
  refine t_s fX10_init_633 rfl rfl rfl ?_
  refine t_s fX10_init_634 rfl rfl rfl ?_
  refine t_s fX10_init_635 rfl rfl rfl ?_
  refine k9_cs fX10_init_637 (f214) (by decide) (by decide) (by decide) (by decide) (by decide) ?_
  replace h := lt_some h
  refine t_s fX10_init_638 rfl rfl rfl ?_
  refine t_s fX10_init_639 rfl rfl rfl ?_
  refine t_s fX10_init_640 rfl rfl rfl ?_
  refine k9_cs fX10_init_642 (f214) (by decide) (by decide) (by decide) (by decide) (by decide) ?_
  replace h := lt_some h
  refine t_s fX10_init_643 rfl rfl rfl ?_
  refine t_s fX10_init_644 rfl rfl rfl ?_
  refine t_s fX10_init_645 rfl rfl rfl ?_
  refine k9_cs fX10_init_647 (f214) (by decide) (by decide) (by decide) (by decide) (by decide) ?_
  replace h := lt_some h
  refine k9_pr fX10_init_648 (f213) kp_10_32 ?_
  replace h := lt_some h
  refine t_l fX10_init_651 rfl rfl rfl rfl ?_
  refine t_s fX10_init_652 rfl rfl rfl ?_
  refine k9_nc (q := 3) fX10_init_653 rfl (by decide) ?_
  replace h := lt_some h
  replace h := lt_some h
  obtain ⟨⟨f221, f222⟩, h⟩ := gd_some h
  refine t_s fX10_init_655 rfl rfl rfl ?_
  refine t_s fX10_init_656 rfl rfl rfl ?_
  refine t_s fX10_init_657 rfl rfl rfl ?_
  refine k9_cs fX10_init_659 (f222) (by decide) (by decide) (by decide) (by decide) (by decide) ?_
  replace h := lt_some h
  refine t_s fX10_init_660 rfl rfl rfl ?_
  refine t_s fX10_init_661 rfl rfl rfl ?_
  refine t_s fX10_init_662 rfl rfl rfl ?_
  refine k9_cs fX10_init_664 (f222) (by decide) (by decide) (by decide) (by decide) (by decide) ?_
  replace h := lt_some h
  refine t_s fX10_init_665 rfl rfl rfl ?_
  refine t_s fX10_init_666 rfl rfl rfl ?_
  refine t_s fX10_init_667 rfl rfl rfl ?_
  refine k9_cs fX10_init_669 (f222) (by decide) (by decide) (by decide) (by decide) (by decide) ?_
  replace h := lt_some h
  refine k9_pr fX10_init_670 (f221) kp_10_33 ?_
  replace h := lt_some h
  refine t_l fX10_init_673 rfl rfl rfl rfl ?_
  refine t_s fX10_init_674 rfl rfl rfl ?_
  refine k9_nc (q := 3) fX10_init_675 rfl (by decide) ?_
  replace h := lt_some h
  replace h := lt_some h
  obtain ⟨⟨f229, f230⟩, h⟩ := gd_some h
  refine t_s fX10_init_677 rfl rfl rfl ?_
  refine t_s fX10_init_678 rfl rfl rfl ?_
  refine t_s fX10_init_679 rfl rfl rfl ?_
  refine k9_cs fX10_init_681 (f230) (by decide) (by decide) (by decide) (by decide) (by decide) ?_
  replace h := lt_some h
  refine t_s fX10_init_682 rfl rfl rfl ?_
  refine t_s fX10_init_683 rfl rfl rfl ?_
  refine t_s fX10_init_684 rfl rfl rfl ?_
  refine k9_cs fX10_init_686 (f230) (by decide) (by decide) (by decide) (by decide) (by decide) ?_
  replace h := lt_some h
  refine t_s fX10_init_687 rfl rfl rfl ?_
  refine t_s fX10_init_688 rfl rfl rfl ?_
  refine t_s fX10_init_689 rfl rfl rfl ?_
  refine k9_cs fX10_init_691 (f230) (by decide) (by decide) (by decide) (by decide) (by decide) ?_
  replace h := lt_some h
  refine k9_pr fX10_init_692 (f229) kp_10_34 ?_
  replace h := lt_some h
  exact tj_X10_init_J695  h

theorem tj_X10_init_J351 {X : mX} {r0 : Nat} {W W' : mW} {v : Int} (h : F_X10_init_J351 r0 W = some (W', v)) : T (X) (0) 158 351 [some (.ref r0)] [] W.1 W.2.1 W.2.2.1 W.2.2.2 (qwv W' v) := by
  unfold F_X10_init_J351 at h
  obtain ⟨f118, h⟩ := gd_some h
  refine t_l fX10_init_351 rfl rfl rfl rfl ?_
  refine t_s fX10_init_352 rfl rfl rfl ?_
  refine k9_nc (q := 6) fX10_init_354 rfl (by decide) ?_
  replace h := lt_some h
  replace h := lt_some h
  obtain ⟨⟨f121, f122⟩, h⟩ := gd_some h
  refine t_s fX10_init_356 rfl rfl rfl ?_
  refine t_s fX10_init_357 rfl rfl rfl ?_
  refine t_s fX10_init_358 rfl rfl rfl ?_
  refine k9_cs fX10_init_360 (f122) (by decide) (by decide) (by decide) (by decide) (by decide) ?_
  replace h := lt_some h
  refine t_s fX10_init_361 rfl rfl rfl ?_
  refine t_s fX10_init_362 rfl rfl rfl ?_
  refine t_s fX10_init_363 rfl rfl rfl ?_
  refine k9_cs fX10_init_365 (f122) (by decide) (by decide) (by decide) (by decide) (by decide) ?_
  replace h := lt_some h
  refine t_s fX10_init_366 rfl rfl rfl ?_
  refine t_s fX10_init_367 rfl rfl rfl ?_
  refine t_s fX10_init_368 rfl rfl rfl ?_
  refine k9_cs fX10_init_370 (f122) (by decide) (by decide) (by decide) (by decide) (by decide) ?_
  replace h := lt_some h
  refine t_s fX10_init_371 rfl rfl rfl ?_
  refine t_s fX10_init_372 rfl rfl rfl ?_
  refine t_s fX10_init_373 rfl rfl rfl ?_
  refine k9_cs fX10_init_375 (f122) (by decide) (by decide) (by decide) (by decide) (by decide) ?_
  replace h := lt_some h
  refine t_s fX10_init_376 rfl rfl rfl ?_
  refine t_s fX10_init_377 rfl rfl rfl ?_
  refine t_s fX10_init_378 rfl rfl rfl ?_
  refine k9_cs fX10_init_380 (f122) (by decide) (by decide) (by decide) (by decide) (by decide) ?_
  replace h := lt_some h
  refine t_s fX10_init_381 rfl rfl rfl ?_
  refine t_s fX10_init_382 rfl rfl rfl ?_
  refine t_s fX10_init_383 rfl rfl rfl ?_
  refine k9_cs fX10_init_385 (f122) (by decide) (by decide) (by decide) (by decide) (by decide) ?_
  replace h := lt_some h
  refine k9_pr fX10_init_386 (f121) kp_10_22 ?_
  replace h := lt_some h
  refine t_l fX10_init_389 rfl rfl rfl rfl ?_
  refine t_s fX10_init_390 rfl rfl rfl ?_
  refine k9_nc (q := 5) fX10_init_391 rfl (by decide) ?_
  replace h := lt_some h
  replace h := lt_some h
  obtain ⟨⟨f132, f133⟩, h⟩ := gd_some h
  refine t_s fX10_init_393 rfl rfl rfl ?_
  refine t_s fX10_init_394 rfl rfl rfl ?_
  refine t_s fX10_init_395 rfl rfl rfl ?_
  refine k9_cs fX10_init_397 (f133) (by decide) (by decide) (by decide) (by decide) (by decide) ?_
  replace h := lt_some h
  refine t_s fX10_init_398 rfl rfl rfl ?_
  refine t_s fX10_init_399 rfl rfl rfl ?_
  refine t_s fX10_init_400 rfl rfl rfl ?_
  refine k9_cs fX10_init_402 (f133) (by decide) (by decide) (by decide) (by decide) (by decide) ?_
  replace h := lt_some h
  refine t_s fX10_init_403 rfl rfl rfl ?_
  refine t_s fX10_init_404 rfl rfl rfl ?_
  refine t_s fX10_init_405 rfl rfl rfl ?_
  refine k9_cs fX10_init_407 (f133) (by decide) (by decide) (by decide) (by decide) (by decide) ?_
  replace h := lt_some h
  refine t_s fX10_init_408 rfl rfl rfl ?_
  refine t_s fX10_init_409 rfl rfl rfl ?_
  refine t_s fX10_init_410 rfl rfl rfl ?_
  refine k9_cs fX10_init_412 (f133) (by decide) (by decide) (by decide) (by decide) (by decide) ?_
  replace h := lt_some h
  refine t_s fX10_init_413 rfl rfl rfl ?_
  refine t_s fX10_init_414 rfl rfl rfl ?_
  refine t_s fX10_init_415 rfl rfl rfl ?_
  refine k9_cs fX10_init_417 (f133) (by decide) (by decide) (by decide) (by decide) (by decide) ?_
  replace h := lt_some h
  refine k9_pr fX10_init_418 (f132) kp_10_23 ?_
  replace h := lt_some h
  refine t_l fX10_init_421 rfl rfl rfl rfl ?_
  refine t_s fX10_init_422 rfl rfl rfl ?_
  refine k9_nc (q := 3) fX10_init_423 rfl (by decide) ?_
  replace h := lt_some h
  replace h := lt_some h
  obtain ⟨⟨f142, f143⟩, h⟩ := gd_some h
  refine t_s fX10_init_425 rfl rfl rfl ?_
  refine t_s fX10_init_426 rfl rfl rfl ?_
  refine t_s fX10_init_427 rfl rfl rfl ?_
  refine k9_cs fX10_init_429 (f143) (by decide) (by decide) (by decide) (by decide) (by decide) ?_
  replace h := lt_some h
  refine t_s fX10_init_430 rfl rfl rfl ?_
  refine t_s fX10_init_431 rfl rfl rfl ?_
  refine t_s fX10_init_432 rfl rfl rfl ?_
  refine k9_cs fX10_init_434 (f143) (by decide) (by decide) (by decide) (by decide) (by decide) ?_
  replace h := lt_some h
  refine t_s fX10_init_435 rfl rfl rfl ?_
  refine t_s fX10_init_436 rfl rfl rfl ?_
  refine t_s fX10_init_437 rfl rfl rfl ?_
  refine k9_cs fX10_init_439 (f143) (by decide) (by decide) (by decide) (by decide) (by decide) ?_
  replace h := lt_some h
  refine k9_pr fX10_init_440 (f142) kp_10_24 ?_
  replace h := lt_some h
  refine t_l fX10_init_443 rfl rfl rfl rfl ?_
  refine t_s fX10_init_444 rfl rfl rfl ?_
  refine k9_nc (q := 6) fX10_init_446 rfl (by decide) ?_
  replace h := lt_some h
  replace h := lt_some h
  obtain ⟨⟨f150, f151⟩, h⟩ := gd_some h
  refine t_s fX10_init_448 rfl rfl rfl ?_
  refine t_s fX10_init_449 rfl rfl rfl ?_
  refine t_s fX10_init_450 rfl rfl rfl ?_
  refine k9_cs fX10_init_452 (f151) (by decide) (by decide) (by decide) (by decide) (by decide) ?_
  replace h := lt_some h
  refine t_s fX10_init_453 rfl rfl rfl ?_
  refine t_s fX10_init_454 rfl rfl rfl ?_
  refine t_s fX10_init_455 rfl rfl rfl ?_
  refine k9_cs fX10_init_457 (f151) (by decide) (by decide) (by decide) (by decide) (by decide) ?_
  replace h := lt_some h
  refine t_s fX10_init_458 rfl rfl rfl ?_
  refine t_s fX10_init_459 rfl rfl rfl ?_
  refine t_s fX10_init_460 rfl rfl rfl ?_
  refine k9_cs fX10_init_462 (f151) (by decide) (by decide) (by decide) (by decide) (by decide) ?_
  replace h := lt_some h
  refine t_s fX10_init_463 rfl rfl rfl ?_
  refine t_s fX10_init_464 rfl rfl rfl ?_
  refine t_s fX10_init_465 rfl rfl rfl ?_
  refine k9_cs fX10_init_467 (f151) (by decide) (by decide) (by decide) (by decide) (by decide) ?_
  replace h := lt_some h
  refine t_s fX10_init_468 rfl rfl rfl ?_
  refine t_s fX10_init_469 rfl rfl rfl ?_
  refine t_s fX10_init_470 rfl rfl rfl ?_
  refine k9_cs fX10_init_472 (f151) (by decide) (by decide) (by decide) (by decide) (by decide) ?_
  replace h := lt_some h
  refine t_s fX10_init_473 rfl rfl rfl ?_
  refine t_s fX10_init_474 rfl rfl rfl ?_
  refine t_s fX10_init_475 rfl rfl rfl ?_
  refine k9_cs fX10_init_477 (f151) (by decide) (by decide) (by decide) (by decide) (by decide) ?_
  replace h := lt_some h
  refine k9_pr fX10_init_478 (f150) kp_10_25 ?_
  replace h := lt_some h
  refine t_l fX10_init_481 rfl rfl rfl rfl ?_
  refine t_s fX10_init_482 rfl rfl rfl ?_
  refine k9_nc (q := 4) fX10_init_483 rfl (by decide) ?_
  replace h := lt_some h
  replace h := lt_some h
  obtain ⟨⟨f161, f162⟩, h⟩ := gd_some h
  refine t_s fX10_init_485 rfl rfl rfl ?_
  refine t_s fX10_init_486 rfl rfl rfl ?_
  refine t_s fX10_init_487 rfl rfl rfl ?_
  refine k9_cs fX10_init_489 (f162) (by decide) (by decide) (by decide) (by decide) (by decide) ?_
  replace h := lt_some h
  refine t_s fX10_init_490 rfl rfl rfl ?_
  refine t_s fX10_init_491 rfl rfl rfl ?_
  refine t_s fX10_init_492 rfl rfl rfl ?_
  refine k9_cs fX10_init_494 (f162) (by decide) (by decide) (by decide) (by decide) (by decide) ?_
  replace h := lt_some h
  refine t_s fX10_init_495 rfl rfl rfl ?_
  refine t_s fX10_init_496 rfl rfl rfl ?_
  refine t_s fX10_init_497 rfl rfl rfl ?_
  refine k9_cs fX10_init_499 (f162) (by decide) (by decide) (by decide) (by decide) (by decide) ?_
  replace h := lt_some h
  refine t_s fX10_init_500 rfl rfl rfl ?_
  refine t_s fX10_init_501 rfl rfl rfl ?_
  refine t_s fX10_init_502 rfl rfl rfl ?_
  refine k9_cs fX10_init_504 (f162) (by decide) (by decide) (by decide) (by decide) (by decide) ?_
  replace h := lt_some h
  refine k9_pr fX10_init_505 (f161) kp_10_26 ?_
  replace h := lt_some h
  refine t_l fX10_init_508 rfl rfl rfl rfl ?_
  refine t_s fX10_init_509 rfl rfl rfl ?_
  refine k9_nc (q := 3) fX10_init_510 rfl (by decide) ?_
  replace h := lt_some h
  replace h := lt_some h
  obtain ⟨⟨f170, f171⟩, h⟩ := gd_some h
  refine t_s fX10_init_512 rfl rfl rfl ?_
  refine t_s fX10_init_513 rfl rfl rfl ?_
  refine t_s fX10_init_514 rfl rfl rfl ?_
  refine k9_cs fX10_init_516 (f171) (by decide) (by decide) (by decide) (by decide) (by decide) ?_
  replace h := lt_some h
  refine t_s fX10_init_517 rfl rfl rfl ?_
  refine t_s fX10_init_518 rfl rfl rfl ?_
  refine t_s fX10_init_519 rfl rfl rfl ?_
  refine k9_cs fX10_init_521 (f171) (by decide) (by decide) (by decide) (by decide) (by decide) ?_
  replace h := lt_some h
  refine t_s fX10_init_522 rfl rfl rfl ?_
  refine t_s fX10_init_523 rfl rfl rfl ?_
  refine t_s fX10_init_524 rfl rfl rfl ?_
  refine k9_cs fX10_init_526 (f171) (by decide) (by decide) (by decide) (by decide) (by decide) ?_
  replace h := lt_some h
  refine k9_pr fX10_init_527 (f170) kp_10_27 ?_
  replace h := lt_some h
  exact tj_X10_init_J530  h

theorem tj_X10_init_J172 {X : mX} {r0 : Nat} {W W' : mW} {v : Int} (h : F_X10_init_J172 r0 W = some (W', v)) : T (X) (0) 158 172 [some (.ref r0)] [] W.1 W.2.1 W.2.2.1 W.2.2.2 (qwv W' v) := by
  unfold F_X10_init_J172 at h
  obtain ⟨f60, h⟩ := gd_some h
  refine t_l fX10_init_172 rfl rfl rfl rfl ?_
  refine t_s fX10_init_173 rfl rfl rfl ?_
  refine k9_nc (q := 2) fX10_init_174 rfl (by decide) ?_
  replace h := lt_some h
  replace h := lt_some h
  obtain ⟨⟨f63, f64⟩, h⟩ := gd_some h
  refine t_s fX10_init_176 rfl rfl rfl ?_
  refine t_s fX10_init_177 rfl rfl rfl ?_
  refine t_s fX10_init_178 rfl rfl rfl ?_
  refine k9_cs fX10_init_180 (f64) (by decide) (by decide) (by decide) (by decide) (by decide) ?_
  replace h := lt_some h
  refine t_s fX10_init_181 rfl rfl rfl ?_
  refine t_s fX10_init_182 rfl rfl rfl ?_
  refine t_s fX10_init_183 rfl rfl rfl ?_
  refine k9_cs fX10_init_185 (f64) (by decide) (by decide) (by decide) (by decide) (by decide) ?_
  replace h := lt_some h
  refine k9_pr fX10_init_186 (f63) kp_10_16 ?_
  replace h := lt_some h
  refine t_l fX10_init_189 rfl rfl rfl rfl ?_
  refine t_s fX10_init_190 rfl rfl rfl ?_
  refine k9_nc (q := 6) fX10_init_192 rfl (by decide) ?_
  replace h := lt_some h
  replace h := lt_some h
  obtain ⟨⟨f70, f71⟩, h⟩ := gd_some h
  refine t_s fX10_init_194 rfl rfl rfl ?_
  refine t_s fX10_init_195 rfl rfl rfl ?_
  refine t_s fX10_init_196 rfl rfl rfl ?_
  refine k9_cs fX10_init_198 (f71) (by decide) (by decide) (by decide) (by decide) (by decide) ?_
  replace h := lt_some h
  refine t_s fX10_init_199 rfl rfl rfl ?_
  refine t_s fX10_init_200 rfl rfl rfl ?_
  refine t_s fX10_init_201 rfl rfl rfl ?_
  refine k9_cs fX10_init_203 (f71) (by decide) (by decide) (by decide) (by decide) (by decide) ?_
  replace h := lt_some h
  refine t_s fX10_init_204 rfl rfl rfl ?_
  refine t_s fX10_init_205 rfl rfl rfl ?_
  refine t_s fX10_init_206 rfl rfl rfl ?_
  refine k9_cs fX10_init_208 (f71) (by decide) (by decide) (by decide) (by decide) (by decide) ?_
  replace h := lt_some h
  refine t_s fX10_init_209 rfl rfl rfl ?_
  refine t_s fX10_init_210 rfl rfl rfl ?_
  refine t_s fX10_init_211 rfl rfl rfl ?_
  refine k9_cs fX10_init_213 (f71) (by decide) (by decide) (by decide) (by decide) (by decide) ?_
  replace h := lt_some h
  refine t_s fX10_init_214 rfl rfl rfl ?_
  refine t_s fX10_init_215 rfl rfl rfl ?_
  refine t_s fX10_init_216 rfl rfl rfl ?_
  refine k9_cs fX10_init_218 (f71) (by decide) (by decide) (by decide) (by decide) (by decide) ?_
  replace h := lt_some h
  refine t_s fX10_init_219 rfl rfl rfl ?_
  refine t_s fX10_init_220 rfl rfl rfl ?_
  refine t_s fX10_init_221 rfl rfl rfl ?_
  refine k9_cs fX10_init_223 (f71) (by decide) (by decide) (by decide) (by decide) (by decide) ?_
  replace h := lt_some h
  refine k9_pr fX10_init_224 (f70) kp_10_17 ?_
  replace h := lt_some h
  refine t_l fX10_init_227 rfl rfl rfl rfl ?_
  refine t_s fX10_init_228 rfl rfl rfl ?_
  refine k9_nc (q := 5) fX10_init_229 rfl (by decide) ?_
  replace h := lt_some h
  replace h := lt_some h
  obtain ⟨⟨f81, f82⟩, h⟩ := gd_some h
  refine t_s fX10_init_231 rfl rfl rfl ?_
  refine t_s fX10_init_232 rfl rfl rfl ?_
  refine t_s fX10_init_233 rfl rfl rfl ?_
  refine k9_cs fX10_init_235 (f82) (by decide) (by decide) (by decide) (by decide) (by decide) ?_
  replace h := lt_some h
  refine t_s fX10_init_236 rfl rfl rfl ?_
  refine t_s fX10_init_237 rfl rfl rfl ?_
  refine t_s fX10_init_238 rfl rfl rfl ?_
  refine k9_cs fX10_init_240 (f82) (by decide) (by decide) (by decide) (by decide) (by decide) ?_
  replace h := lt_some h
  refine t_s fX10_init_241 rfl rfl rfl ?_
  refine t_s fX10_init_242 rfl rfl rfl ?_
  refine t_s fX10_init_243 rfl rfl rfl ?_
  refine k9_cs fX10_init_245 (f82) (by decide) (by decide) (by decide) (by decide) (by decide) ?_
  replace h := lt_some h
  refine t_s fX10_init_246 rfl rfl rfl ?_
  refine t_s fX10_init_247 rfl rfl rfl ?_
  refine t_s fX10_init_248 rfl rfl rfl ?_
  refine k9_cs fX10_init_250 (f82) (by decide) (by decide) (by decide) (by decide) (by decide) ?_
  replace h := lt_some h
  refine t_s fX10_init_251 rfl rfl rfl ?_
  refine t_s fX10_init_252 rfl rfl rfl ?_
  refine t_s fX10_init_253 rfl rfl rfl ?_
  refine k9_cs fX10_init_255 (f82) (by decide) (by decide) (by decide) (by decide) (by decide) ?_
  replace h := lt_some h
  refine k9_pr fX10_init_256 (f81) kp_10_18 ?_
  replace h := lt_some h
  refine t_l fX10_init_259 rfl rfl rfl rfl ?_
  refine t_s fX10_init_260 rfl rfl rfl ?_
  refine k9_nc (q := 5) fX10_init_261 rfl (by decide) ?_
  replace h := lt_some h
  replace h := lt_some h
  obtain ⟨⟨f91, f92⟩, h⟩ := gd_some h
  refine t_s fX10_init_263 rfl rfl rfl ?_
  refine t_s fX10_init_264 rfl rfl rfl ?_
  refine t_s fX10_init_265 rfl rfl rfl ?_
  refine k9_cs fX10_init_267 (f92) (by decide) (by decide) (by decide) (by decide) (by decide) ?_
  replace h := lt_some h
  refine t_s fX10_init_268 rfl rfl rfl ?_
  refine t_s fX10_init_269 rfl rfl rfl ?_
  refine t_s fX10_init_270 rfl rfl rfl ?_
  refine k9_cs fX10_init_272 (f92) (by decide) (by decide) (by decide) (by decide) (by decide) ?_
  replace h := lt_some h
  refine t_s fX10_init_273 rfl rfl rfl ?_
  refine t_s fX10_init_274 rfl rfl rfl ?_
  refine t_s fX10_init_275 rfl rfl rfl ?_
  refine k9_cs fX10_init_277 (f92) (by decide) (by decide) (by decide) (by decide) (by decide) ?_
  replace h := lt_some h
  refine t_s fX10_init_278 rfl rfl rfl ?_
  refine t_s fX10_init_279 rfl rfl rfl ?_
  refine t_s fX10_init_280 rfl rfl rfl ?_
  refine k9_cs fX10_init_282 (f92) (by decide) (by decide) (by decide) (by decide) (by decide) ?_
  replace h := lt_some h
  refine t_s fX10_init_283 rfl rfl rfl ?_
  refine t_s fX10_init_284 rfl rfl rfl ?_
  refine t_s fX10_init_285 rfl rfl rfl ?_
  refine k9_cs fX10_init_287 (f92) (by decide) (by decide) (by decide) (by decide) (by decide) ?_
  replace h := lt_some h
  refine k9_pr fX10_init_288 (f91) kp_10_19 ?_
  replace h := lt_some h
  refine t_l fX10_init_291 rfl rfl rfl rfl ?_
  refine t_s fX10_init_292 rfl rfl rfl ?_
  refine k9_nc (q := 6) fX10_init_294 rfl (by decide) ?_
  replace h := lt_some h
  replace h := lt_some h
  obtain ⟨⟨f101, f102⟩, h⟩ := gd_some h
  refine t_s fX10_init_296 rfl rfl rfl ?_
  refine t_s fX10_init_297 rfl rfl rfl ?_
  refine t_s fX10_init_298 rfl rfl rfl ?_
  refine k9_cs fX10_init_300 (f102) (by decide) (by decide) (by decide) (by decide) (by decide) ?_
  replace h := lt_some h
  refine t_s fX10_init_301 rfl rfl rfl ?_
  refine t_s fX10_init_302 rfl rfl rfl ?_
  refine t_s fX10_init_303 rfl rfl rfl ?_
  refine k9_cs fX10_init_305 (f102) (by decide) (by decide) (by decide) (by decide) (by decide) ?_
  replace h := lt_some h
  refine t_s fX10_init_306 rfl rfl rfl ?_
  refine t_s fX10_init_307 rfl rfl rfl ?_
  refine t_s fX10_init_308 rfl rfl rfl ?_
  refine k9_cs fX10_init_310 (f102) (by decide) (by decide) (by decide) (by decide) (by decide) ?_
  replace h := lt_some h
  refine t_s fX10_init_311 rfl rfl rfl ?_
  refine t_s fX10_init_312 rfl rfl rfl ?_
  refine t_s fX10_init_313 rfl rfl rfl ?_
  refine k9_cs fX10_init_315 (f102) (by decide) (by decide) (by decide) (by decide) (by decide) ?_
  replace h := lt_some h
  refine t_s fX10_init_316 rfl rfl rfl ?_
  refine t_s fX10_init_317 rfl rfl rfl ?_
  refine t_s fX10_init_318 rfl rfl rfl ?_
  refine k9_cs fX10_init_320 (f102) (by decide) (by decide) (by decide) (by decide) (by decide) ?_
  replace h := lt_some h
  refine t_s fX10_init_321 rfl rfl rfl ?_
  refine t_s fX10_init_322 rfl rfl rfl ?_
  refine t_s fX10_init_323 rfl rfl rfl ?_
  refine k9_cs fX10_init_325 (f102) (by decide) (by decide) (by decide) (by decide) (by decide) ?_
  replace h := lt_some h
  refine k9_pr fX10_init_326 (f101) kp_10_20 ?_
  replace h := lt_some h
  refine t_l fX10_init_329 rfl rfl rfl rfl ?_
  refine t_s fX10_init_330 rfl rfl rfl ?_
  refine k9_nc (q := 3) fX10_init_331 rfl (by decide) ?_
  replace h := lt_some h
  replace h := lt_some h
  obtain ⟨⟨f112, f113⟩, h⟩ := gd_some h
  refine t_s fX10_init_333 rfl rfl rfl ?_
  refine t_s fX10_init_334 rfl rfl rfl ?_
  refine t_s fX10_init_335 rfl rfl rfl ?_
  refine k9_cs fX10_init_337 (f113) (by decide) (by decide) (by decide) (by decide) (by decide) ?_
  replace h := lt_some h
  refine t_s fX10_init_338 rfl rfl rfl ?_
  refine t_s fX10_init_339 rfl rfl rfl ?_
  refine t_s fX10_init_340 rfl rfl rfl ?_
  refine k9_cs fX10_init_342 (f113) (by decide) (by decide) (by decide) (by decide) (by decide) ?_
  replace h := lt_some h
  refine t_s fX10_init_343 rfl rfl rfl ?_
  refine t_s fX10_init_344 rfl rfl rfl ?_
  refine t_s fX10_init_345 rfl rfl rfl ?_
  refine k9_cs fX10_init_347 (f113) (by decide) (by decide) (by decide) (by decide) (by decide) ?_
  replace h := lt_some h
  refine k9_pr fX10_init_348 (f112) kp_10_21 ?_
  replace h := lt_some h
  exact tj_X10_init_J351  h

theorem q_X10_init {X : mX} {r0 : Nat} {W W' : mW} {v : Int} (h : F_X10_init r0 W = some (W', v)) : Rn (X) (0) 158 [.ref r0] W.1 W.2.1 W.2.2.1 W.2.2.2 W'.1 W'.2.1 W'.2.2.1 W'.2.2.2 none := by
  refine qwv_toR (v := v) (L := [some (.ref r0)]) rfl ?_
  unfold F_X10_init at h
  obtain ⟨f1, h⟩ := gd_some h
  refine t_l fX10_init_0 rfl rfl rfl rfl ?_
  refine t_s fX10_init_1 rfl rfl rfl ?_
  refine t_l fX10_init_4 rfl rfl rfl rfl ?_
  refine t_s fX10_init_5 rfl rfl rfl ?_
  refine k9_na (q := 1600) fX10_init_8 rfl (by decide) ?_
  replace h := lt_some h
  replace h := lt_some h
  obtain ⟨⟨f4, f5⟩, h⟩ := gd_some h
  refine k9_pr fX10_init_10 (f4) kp_10_0 ?_
  replace h := lt_some h
  refine t_l fX10_init_13 rfl rfl rfl rfl ?_
  refine t_s fX10_init_14 rfl rfl rfl ?_
  refine k9_pi fX10_init_15 (f4) kp_10_8 ?_
  replace h := lt_some h
  refine t_l fX10_init_18 rfl rfl rfl rfl ?_
  refine t_s fX10_init_19 rfl rfl rfl ?_
  refine k9_na (q := 6) fX10_init_21 rfl (by decide) ?_
  replace h := lt_some h
  replace h := lt_some h
  obtain ⟨⟨f10, f11⟩, h⟩ := gd_some h
  refine k9_pr fX10_init_23 (f10) kp_10_9 ?_
  replace h := lt_some h
  refine t_l fX10_init_26 rfl rfl rfl rfl ?_
  refine t_s fX10_init_27 rfl rfl rfl ?_
  refine k9_nc (q := 6) fX10_init_29 rfl (by decide) ?_
  replace h := lt_some h
  replace h := lt_some h
  obtain ⟨⟨f15, f16⟩, h⟩ := gd_some h
  refine t_s fX10_init_31 rfl rfl rfl ?_
  refine t_s fX10_init_32 rfl rfl rfl ?_
  refine t_s fX10_init_33 rfl rfl rfl ?_
  refine k9_cs fX10_init_35 (f16) (by decide) (by decide) (by decide) (by decide) (by decide) ?_
  replace h := lt_some h
  refine t_s fX10_init_36 rfl rfl rfl ?_
  refine t_s fX10_init_37 rfl rfl rfl ?_
  refine t_s fX10_init_38 rfl rfl rfl ?_
  refine k9_cs fX10_init_40 (f16) (by decide) (by decide) (by decide) (by decide) (by decide) ?_
  replace h := lt_some h
  refine t_s fX10_init_41 rfl rfl rfl ?_
  refine t_s fX10_init_42 rfl rfl rfl ?_
  refine t_s fX10_init_43 rfl rfl rfl ?_
  refine k9_cs fX10_init_45 (f16) (by decide) (by decide) (by decide) (by decide) (by decide) ?_
  replace h := lt_some h
  refine t_s fX10_init_46 rfl rfl rfl ?_
  refine t_s fX10_init_47 rfl rfl rfl ?_
  refine t_s fX10_init_48 rfl rfl rfl ?_
  refine k9_cs fX10_init_50 (f16) (by decide) (by decide) (by decide) (by decide) (by decide) ?_
  replace h := lt_some h
  refine t_s fX10_init_51 rfl rfl rfl ?_
  refine t_s fX10_init_52 rfl rfl rfl ?_
  refine t_s fX10_init_53 rfl rfl rfl ?_
  refine k9_cs fX10_init_55 (f16) (by decide) (by decide) (by decide) (by decide) (by decide) ?_
  replace h := lt_some h
  refine t_s fX10_init_56 rfl rfl rfl ?_
  refine t_s fX10_init_57 rfl rfl rfl ?_
  refine t_s fX10_init_58 rfl rfl rfl ?_
  refine k9_cs fX10_init_60 (f16) (by decide) (by decide) (by decide) (by decide) (by decide) ?_
  replace h := lt_some h
  refine k9_pr fX10_init_61 (f15) kp_10_11 ?_
  replace h := lt_some h
  refine t_l fX10_init_64 rfl rfl rfl rfl ?_
  refine t_s fX10_init_65 rfl rfl rfl ?_
  refine k9_nc (q := 4) fX10_init_66 rfl (by decide) ?_
  replace h := lt_some h
  replace h := lt_some h
  obtain ⟨⟨f26, f27⟩, h⟩ := gd_some h
  refine t_s fX10_init_68 rfl rfl rfl ?_
  refine t_s fX10_init_69 rfl rfl rfl ?_
  refine t_s fX10_init_70 rfl rfl rfl ?_
  refine k9_cs fX10_init_72 (f27) (by decide) (by decide) (by decide) (by decide) (by decide) ?_
  replace h := lt_some h
  refine t_s fX10_init_73 rfl rfl rfl ?_
  refine t_s fX10_init_74 rfl rfl rfl ?_
  refine t_s fX10_init_75 rfl rfl rfl ?_
  refine k9_cs fX10_init_77 (f27) (by decide) (by decide) (by decide) (by decide) (by decide) ?_
  replace h := lt_some h
  refine t_s fX10_init_78 rfl rfl rfl ?_
  refine t_s fX10_init_79 rfl rfl rfl ?_
  refine t_s fX10_init_80 rfl rfl rfl ?_
  refine k9_cs fX10_init_82 (f27) (by decide) (by decide) (by decide) (by decide) (by decide) ?_
  replace h := lt_some h
  refine t_s fX10_init_83 rfl rfl rfl ?_
  refine t_s fX10_init_84 rfl rfl rfl ?_
  refine t_s fX10_init_85 rfl rfl rfl ?_
  refine k9_cs fX10_init_87 (f27) (by decide) (by decide) (by decide) (by decide) (by decide) ?_
  replace h := lt_some h
  refine k9_pr fX10_init_88 (f26) kp_10_12 ?_
  replace h := lt_some h
  refine t_l fX10_init_91 rfl rfl rfl rfl ?_
  refine t_s fX10_init_92 rfl rfl rfl ?_
  refine k9_nc (q := 4) fX10_init_93 rfl (by decide) ?_
  replace h := lt_some h
  replace h := lt_some h
  obtain ⟨⟨f35, f36⟩, h⟩ := gd_some h
  refine t_s fX10_init_95 rfl rfl rfl ?_
  refine t_s fX10_init_96 rfl rfl rfl ?_
  refine t_s fX10_init_97 rfl rfl rfl ?_
  refine k9_cs fX10_init_99 (f36) (by decide) (by decide) (by decide) (by decide) (by decide) ?_
  replace h := lt_some h
  refine t_s fX10_init_100 rfl rfl rfl ?_
  refine t_s fX10_init_101 rfl rfl rfl ?_
  refine t_s fX10_init_102 rfl rfl rfl ?_
  refine k9_cs fX10_init_104 (f36) (by decide) (by decide) (by decide) (by decide) (by decide) ?_
  replace h := lt_some h
  refine t_s fX10_init_105 rfl rfl rfl ?_
  refine t_s fX10_init_106 rfl rfl rfl ?_
  refine t_s fX10_init_107 rfl rfl rfl ?_
  refine k9_cs fX10_init_109 (f36) (by decide) (by decide) (by decide) (by decide) (by decide) ?_
  replace h := lt_some h
  refine t_s fX10_init_110 rfl rfl rfl ?_
  refine t_s fX10_init_111 rfl rfl rfl ?_
  refine t_s fX10_init_112 rfl rfl rfl ?_
  refine k9_cs fX10_init_114 (f36) (by decide) (by decide) (by decide) (by decide) (by decide) ?_
  replace h := lt_some h
  refine k9_pr fX10_init_115 (f35) kp_10_13 ?_
  replace h := lt_some h
  refine t_l fX10_init_118 rfl rfl rfl rfl ?_
  refine t_s fX10_init_119 rfl rfl rfl ?_
  refine k9_nc (q := 4) fX10_init_120 rfl (by decide) ?_
  replace h := lt_some h
  replace h := lt_some h
  obtain ⟨⟨f44, f45⟩, h⟩ := gd_some h
  refine t_s fX10_init_122 rfl rfl rfl ?_
  refine t_s fX10_init_123 rfl rfl rfl ?_
  refine t_s fX10_init_124 rfl rfl rfl ?_
  refine k9_cs fX10_init_126 (f45) (by decide) (by decide) (by decide) (by decide) (by decide) ?_
  replace h := lt_some h
  refine t_s fX10_init_127 rfl rfl rfl ?_
  refine t_s fX10_init_128 rfl rfl rfl ?_
  refine t_s fX10_init_129 rfl rfl rfl ?_
  refine k9_cs fX10_init_131 (f45) (by decide) (by decide) (by decide) (by decide) (by decide) ?_
  replace h := lt_some h
  refine t_s fX10_init_132 rfl rfl rfl ?_
  refine t_s fX10_init_133 rfl rfl rfl ?_
  refine t_s fX10_init_134 rfl rfl rfl ?_
  refine k9_cs fX10_init_136 (f45) (by decide) (by decide) (by decide) (by decide) (by decide) ?_
  replace h := lt_some h
  refine t_s fX10_init_137 rfl rfl rfl ?_
  refine t_s fX10_init_138 rfl rfl rfl ?_
  refine t_s fX10_init_139 rfl rfl rfl ?_
  refine k9_cs fX10_init_141 (f45) (by decide) (by decide) (by decide) (by decide) (by decide) ?_
  replace h := lt_some h
  refine k9_pr fX10_init_142 (f44) kp_10_14 ?_
  replace h := lt_some h
  refine t_l fX10_init_145 rfl rfl rfl rfl ?_
  refine t_s fX10_init_146 rfl rfl rfl ?_
  refine k9_nc (q := 4) fX10_init_147 rfl (by decide) ?_
  replace h := lt_some h
  replace h := lt_some h
  obtain ⟨⟨f53, f54⟩, h⟩ := gd_some h
  refine t_s fX10_init_149 rfl rfl rfl ?_
  refine t_s fX10_init_150 rfl rfl rfl ?_
  refine t_s fX10_init_151 rfl rfl rfl ?_
  refine k9_cs fX10_init_153 (f54) (by decide) (by decide) (by decide) (by decide) (by decide) ?_
  replace h := lt_some h
  refine t_s fX10_init_154 rfl rfl rfl ?_
  refine t_s fX10_init_155 rfl rfl rfl ?_
  refine t_s fX10_init_156 rfl rfl rfl ?_
  refine k9_cs fX10_init_158 (f54) (by decide) (by decide) (by decide) (by decide) (by decide) ?_
  replace h := lt_some h
  refine t_s fX10_init_159 rfl rfl rfl ?_
  refine t_s fX10_init_160 rfl rfl rfl ?_
  refine t_s fX10_init_161 rfl rfl rfl ?_
  refine k9_cs fX10_init_163 (f54) (by decide) (by decide) (by decide) (by decide) (by decide) ?_
  replace h := lt_some h
  refine t_s fX10_init_164 rfl rfl rfl ?_
  refine t_s fX10_init_165 rfl rfl rfl ?_
  refine t_s fX10_init_166 rfl rfl rfl ?_
  refine k9_cs fX10_init_168 (f54) (by decide) (by decide) (by decide) (by decide) (by decide) ?_
  replace h := lt_some h
  refine k9_pr fX10_init_169 (f53) kp_10_15 ?_
  replace h := lt_some h
  exact tj_X10_init_J172  h

