theorem dyL_law_1220 : decode cL_law 1220 = .ok (.iconst 0, 1) := by decide +kernel
theorem dyL_law_1221 : decode cL_law 1221 = .ok (.iload 17, 2) := by decide +kernel
theorem dyL_law_1223 : decode cL_law 1223 = .ok (.invokestatic 73, 3) := by decide +kernel
theorem dyL_law_1226 : decode cL_law 1226 = .ok (.aload 16, 2) := by decide +kernel
theorem dyL_law_1228 : decode cL_law 1228 = .ok (.invokestatic 17, 3) := by decide +kernel
theorem dyL_law_1231 : decode cL_law 1231 = .ok (.aload 14, 2) := by decide +kernel
theorem dyL_law_1233 : decode cL_law 1233 = .ok (.iload 17, 2) := by decide +kernel
theorem dyL_law_1235 : decode cL_law 1235 = .ok (.iload 18, 2) := by decide +kernel
theorem dyL_law_1237 : decode cL_law 1237 = .ok (.iadd, 1) := by decide +kernel
theorem dyL_law_1238 : decode cL_law 1238 = .ok (.iload 5, 2) := by decide +kernel
theorem dyL_law_1240 : decode cL_law 1240 = .ok (.invokestatic 73, 3) := by decide +kernel
theorem dyL_law_1243 : decode cL_law 1243 = .ok (.invokestatic 17, 3) := by decide +kernel
theorem dyL_law_1246 : decode cL_law 1246 = .ok (.astore 19, 2) := by decide +kernel
theorem dyL_law_1248 : decode cL_law 1248 = .ok (.aload 19, 2) := by decide +kernel
theorem dyL_law_1250 : decode cL_law 1250 = .ok (.invokestatic 127, 3) := by decide +kernel
theorem dyL_law_1253 : decode cL_law 1253 = .ok (.astore 20, 2) := by decide +kernel
theorem dyL_law_1255 : decode cL_law 1255 = .ok (.aload_n 2, 1) := by decide +kernel
theorem dyL_law_1256 : decode cL_law 1256 = .ok (.aload 16, 2) := by decide +kernel
theorem dyL_law_1258 : decode cL_law 1258 = .ok (.invokestatic 77, 3) := by decide +kernel
theorem dyL_law_1261 : decode cL_law 1261 = .ok (.aload_n 2, 1) := by decide +kernel
theorem dyL_law_1262 : decode cL_law 1262 = .ok (.iload 17, 2) := by decide +kernel
theorem dyL_law_1264 : decode cL_law 1264 = .ok (.iload 18, 2) := by decide +kernel
theorem dyL_law_1266 : decode cL_law 1266 = .ok (.invokevirtual 65, 3) := by decide +kernel
theorem dyL_law_1269 : decode cL_law 1269 = .ok (.istore 15, 2) := by decide +kernel
theorem dyL_law_1271 : decode cL_law 1271 = .ok (.aload 19, 2) := by decide +kernel
theorem dyL_law_1273 : decode cL_law 1273 = .ok (.arraylength, 1) := by decide +kernel
theorem dyL_law_1274 : decode cL_law 1274 = .ok (.sipush 300, 3) := by decide +kernel
theorem dyL_law_1277 : decode cL_law 1277 = .ok (.if_icmp .gt 23, 3) := by decide +kernel
theorem dyL_law_1280 : decode cL_law 1280 = .ok (.aload 20, 2) := by decide +kernel
theorem dyL_law_1282 : decode cL_law 1282 = .ok (.arraylength, 1) := by decide +kernel
theorem dyL_law_1283 : decode cL_law 1283 = .ok (.bipush 100, 2) := by decide +kernel
theorem dyL_law_1285 : decode cL_law 1285 = .ok (.if_icmp .gt 15, 3) := by decide +kernel
theorem dyL_law_1288 : decode cL_law 1288 = .ok (.iload 11, 2) := by decide +kernel
theorem dyL_law_1290 : decode cL_law 1290 = .ok (.sipush 3000, 3) := by decide +kernel
theorem dyL_law_1293 : decode cL_law 1293 = .ok (.if_icmp .ge 7, 3) := by decide +kernel
theorem dyL_law_1296 : decode cL_law 1296 = .ok (.iconst 1, 1) := by decide +kernel
theorem dyL_law_1297 : decode cL_law 1297 = .ok (.goto 4, 3) := by decide +kernel
theorem dyL_law_1300 : decode cL_law 1300 = .ok (.iconst 0, 1) := by decide +kernel
theorem dyL_law_1301 : decode cL_law 1301 = .ok (.istore 21, 2) := by decide +kernel
theorem dyL_law_1303 : decode cL_law 1303 = .ok (.iload 21, 2) := by decide +kernel
theorem dyL_law_1305 : decode cL_law 1305 = .ok (.ifCond .eq 92, 3) := by decide +kernel
theorem dyL_law_1308 : decode cL_law 1308 = .ok (.iload 15, 2) := by decide +kernel
theorem dyL_law_1310 : decode cL_law 1310 = .ok (.aload 20, 2) := by decide +kernel
theorem dyL_law_1312 : decode cL_law 1312 = .ok (.invokestatic 130, 3) := by decide +kernel
theorem dyL_law_1315 : decode cL_law 1315 = .ok (.invokestatic 134, 3) := by decide +kernel
theorem dyL_law_1318 : decode cL_law 1318 = .ok (.ifCond .ge 7, 3) := by decide +kernel
theorem dyL_law_1321 : decode cL_law 1321 = .ok (.iconst 0, 1) := by decide +kernel
theorem dyL_law_1322 : decode cL_law 1322 = .ok (.goto 4, 3) := by decide +kernel
theorem dyL_law_1325 : decode cL_law 1325 = .ok (.iconst 1, 1) := by decide +kernel
theorem dyL_law_1326 : decode cL_law 1326 = .ok (.if_icmp .ne 67, 3) := by decide +kernel
theorem dyL_law_1329 : decode cL_law 1329 = .ok (.aload_n 2, 1) := by decide +kernel
theorem dyL_law_1330 : decode cL_law 1330 = .ok (.iconst 0, 1) := by decide +kernel
theorem dyL_law_1331 : decode cL_law 1331 = .ok (.invokevirtual 36, 3) := by decide +kernel
theorem dyL_law_1334 : decode cL_law 1334 = .ok (.aload 19, 2) := by decide +kernel
theorem dyL_law_1336 : decode cL_law 1336 = .ok (.arraylength, 1) := by decide +kernel
theorem dyL_law_1337 : decode cL_law 1337 = .ok (.if_icmp .ne 56, 3) := by decide +kernel
theorem dyL_law_1340 : decode cL_law 1340 = .ok (.aload_n 2, 1) := by decide +kernel
theorem dyL_law_1341 : decode cL_law 1341 = .ok (.iconst 0, 1) := by decide +kernel
theorem dyL_law_1342 : decode cL_law 1342 = .ok (.invokevirtual 138, 3) := by decide +kernel
theorem dyL_law_1345 : decode cL_law 1345 = .ok (.aload_n 2, 1) := by decide +kernel
theorem dyL_law_1346 : decode cL_law 1346 = .ok (.iconst 1, 1) := by decide +kernel
theorem dyL_law_1347 : decode cL_law 1347 = .ok (.invokevirtual 138, 3) := by decide +kernel
theorem dyL_law_1350 : decode cL_law 1350 = .ok (.iadd, 1) := by decide +kernel
theorem dyL_law_1351 : decode cL_law 1351 = .ok (.aload_n 2, 1) := by decide +kernel
theorem dyL_law_1352 : decode cL_law 1352 = .ok (.bipush 7, 2) := by decide +kernel
theorem dyL_law_1354 : decode cL_law 1354 = .ok (.invokevirtual 138, 3) := by decide +kernel
theorem dyL_law_1357 : decode cL_law 1357 = .ok (.iadd, 1) := by decide +kernel
theorem dyL_law_1358 : decode cL_law 1358 = .ok (.aload 20, 2) := by decide +kernel
theorem dyL_law_1360 : decode cL_law 1360 = .ok (.arraylength, 1) := by decide +kernel
theorem dyL_law_1361 : decode cL_law 1361 = .ok (.if_icmp .ne 32, 3) := by decide +kernel
theorem dyL_law_1364 : decode cL_law 1364 = .ok (.iload 15, 2) := by decide +kernel
theorem dyL_law_1366 : decode cL_law 1366 = .ok (.ifCond .eq 23, 3) := by decide +kernel
theorem dyL_law_1369 : decode cL_law 1369 = .ok (.aload_n 2, 1) := by decide +kernel
theorem dyL_law_1370 : decode cL_law 1370 = .ok (.iconst 4, 1) := by decide +kernel
theorem dyL_law_1371 : decode cL_law 1371 = .ok (.invokevirtual 36, 3) := by decide +kernel
theorem dyL_law_1374 : decode cL_law 1374 = .ok (.iload 10, 2) := by decide +kernel
theorem dyL_law_1376 : decode cL_law 1376 = .ok (.if_icmp .ne 17, 3) := by decide +kernel
theorem dyL_law_1379 : decode cL_law 1379 = .ok (.aload_n 2, 1) := by decide +kernel
theorem dyL_law_1380 : decode cL_law 1380 = .ok (.iconst 5, 1) := by decide +kernel
theorem dyL_law_1381 : decode cL_law 1381 = .ok (.invokevirtual 36, 3) := by decide +kernel
theorem dyL_law_1384 : decode cL_law 1384 = .ok (.iload 11, 2) := by decide +kernel
theorem dyL_law_1386 : decode cL_law 1386 = .ok (.if_icmp .ne 7, 3) := by decide +kernel
theorem dyL_law_1389 : decode cL_law 1389 = .ok (.iconst 1, 1) := by decide +kernel
theorem dyL_law_1390 : decode cL_law 1390 = .ok (.goto 31, 3) := by decide +kernel
theorem dyL_law_1393 : decode cL_law 1393 = .ok (.iconst 0, 1) := by decide +kernel
theorem dyL_law_1394 : decode cL_law 1394 = .ok (.goto 27, 3) := by decide +kernel
theorem dyL_law_1397 : decode cL_law 1397 = .ok (.iload 15, 2) := by decide +kernel
theorem dyL_law_1399 : decode cL_law 1399 = .ok (.iconst (-1), 1) := by decide +kernel
theorem dyL_law_1400 : decode cL_law 1400 = .ok (.if_icmp .ne 20, 3) := by decide +kernel
theorem dyL_law_1403 : decode cL_law 1403 = .ok (.aload_n 2, 1) := by decide +kernel
theorem dyL_law_1404 : decode cL_law 1404 = .ok (.aload_n 2, 1) := by decide +kernel
theorem dyL_law_1405 : decode cL_law 1405 = .ok (.bipush 7, 2) := by decide +kernel
theorem dyL_law_1407 : decode cL_law 1407 = .ok (.invokevirtual 36, 3) := by decide +kernel
theorem dyL_law_1410 : decode cL_law 1410 = .ok (.invokevirtual 13, 3) := by decide +kernel
theorem dyL_law_1413 : decode cL_law 1413 = .ok (.ifCond .ne 7, 3) := by decide +kernel
theorem dyL_law_1416 : decode cL_law 1416 = .ok (.iconst 1, 1) := by decide +kernel
theorem dyL_law_1417 : decode cL_law 1417 = .ok (.goto 4, 3) := by decide +kernel
theorem dyL_law_1420 : decode cL_law 1420 = .ok (.iconst 0, 1) := by decide +kernel
theorem dyL_law_1421 : decode cL_law 1421 = .ok (.istore_n 3, 1) := by decide +kernel
theorem dyL_law_1422 : decode cL_law 1422 = .ok (.iload 15, 2) := by decide +kernel
theorem dyL_law_1424 : decode cL_law 1424 = .ok (.ifCond .lt 115, 3) := by decide +kernel
theorem dyL_law_1427 : decode cL_law 1427 = .ok (.iload_n 3, 1) := by decide +kernel
theorem dyL_law_1428 : decode cL_law 1428 = .ok (.ifCond .eq 109, 3) := by decide +kernel
theorem dyL_law_1431 : decode cL_law 1431 = .ok (.aload_n 2, 1) := by decide +kernel
theorem dyL_law_1432 : decode cL_law 1432 = .ok (.bipush 6, 2) := by decide +kernel
theorem dyL_law_1434 : decode cL_law 1434 = .ok (.invokevirtual 36, 3) := by decide +kernel
theorem dyL_law_1437 : decode cL_law 1437 = .ok (.iload 6, 2) := by decide +kernel
theorem dyL_law_1439 : decode cL_law 1439 = .ok (.iconst 1, 1) := by decide +kernel
theorem dyL_law_1440 : decode cL_law 1440 = .ok (.iadd, 1) := by decide +kernel
theorem dyL_law_1441 : decode cL_law 1441 = .ok (.if_icmp .ne 96, 3) := by decide +kernel
theorem dyL_law_1444 : decode cL_law 1444 = .ok (.aload_n 2, 1) := by decide +kernel
theorem dyL_law_1445 : decode cL_law 1445 = .ok (.bipush 9, 2) := by decide +kernel
theorem dyL_law_1447 : decode cL_law 1447 = .ok (.invokevirtual 36, 3) := by decide +kernel
theorem dyL_law_1450 : decode cL_law 1450 = .ok (.ifCond .ne 87, 3) := by decide +kernel
theorem dyL_law_1453 : decode cL_law 1453 = .ok (.aload_n 2, 1) := by decide +kernel
theorem dyL_law_1454 : decode cL_law 1454 = .ok (.bipush 8, 2) := by decide +kernel
theorem dyL_law_1456 : decode cL_law 1456 = .ok (.invokevirtual 36, 3) := by decide +kernel
theorem dyL_law_1459 : decode cL_law 1459 = .ok (.bipush 20, 2) := by decide +kernel
theorem dyL_law_1461 : decode cL_law 1461 = .ok (.iload 7, 2) := by decide +kernel
theorem dyL_law_1463 : decode cL_law 1463 = .ok (.iconst 1, 1) := by decide +kernel
theorem dyL_law_1464 : decode cL_law 1464 = .ok (.iadd, 1) := by decide +kernel
theorem dyL_law_1465 : decode cL_law 1465 = .ok (.invokestatic 68, 3) := by decide +kernel
theorem dyL_law_1468 : decode cL_law 1468 = .ok (.if_icmp .ne 69, 3) := by decide +kernel
theorem dyL_law_1471 : decode cL_law 1471 = .ok (.aload_n 2, 1) := by decide +kernel
theorem dyL_law_1472 : decode cL_law 1472 = .ok (.iconst 2, 1) := by decide +kernel
theorem dyL_law_1473 : decode cL_law 1473 = .ok (.invokevirtual 36, 3) := by decide +kernel
theorem dyL_law_1476 : decode cL_law 1476 = .ok (.iconst 1, 1) := by decide +kernel
theorem dyL_law_1477 : decode cL_law 1477 = .ok (.if_icmp .ne 7, 3) := by decide +kernel
theorem dyL_law_1480 : decode cL_law 1480 = .ok (.iconst 1, 1) := by decide +kernel
theorem dyL_law_1481 : decode cL_law 1481 = .ok (.goto 4, 3) := by decide +kernel
theorem dyL_law_1484 : decode cL_law 1484 = .ok (.iconst 0, 1) := by decide +kernel
theorem dyL_law_1485 : decode cL_law 1485 = .ok (.iload 15, 2) := by decide +kernel
theorem dyL_law_1487 : decode cL_law 1487 = .ok (.ifCond .ne 7, 3) := by decide +kernel
theorem dyL_law_1490 : decode cL_law 1490 = .ok (.iconst 1, 1) := by decide +kernel
theorem dyL_law_1491 : decode cL_law 1491 = .ok (.goto 4, 3) := by decide +kernel
theorem dyL_law_1494 : decode cL_law 1494 = .ok (.iconst 0, 1) := by decide +kernel
theorem dyL_law_1495 : decode cL_law 1495 = .ok (.if_icmp .ne 42, 3) := by decide +kernel
theorem dyL_law_1498 : decode cL_law 1498 = .ok (.iload 15, 2) := by decide +kernel
theorem dyL_law_1500 : decode cL_law 1500 = .ok (.iconst 1, 1) := by decide +kernel
theorem dyL_law_1501 : decode cL_law 1501 = .ok (.if_icmp .eq 32, 3) := by decide +kernel
theorem dyL_law_1504 : decode cL_law 1504 = .ok (.aload_n 2, 1) := by decide +kernel
theorem dyL_law_1505 : decode cL_law 1505 = .ok (.iconst 5, 1) := by decide +kernel
theorem dyL_law_1506 : decode cL_law 1506 = .ok (.invokevirtual 138, 3) := by decide +kernel
theorem dyL_law_1509 : decode cL_law 1509 = .ok (.aload_n 2, 1) := by decide +kernel
theorem dyL_law_1510 : decode cL_law 1510 = .ok (.iconst 2, 1) := by decide +kernel
theorem dyL_law_1511 : decode cL_law 1511 = .ok (.invokevirtual 138, 3) := by decide +kernel
theorem dyL_law_1514 : decode cL_law 1514 = .ok (.if_icmp .lt 23, 3) := by decide +kernel
theorem dyL_law_1517 : decode cL_law 1517 = .ok (.aload_n 2, 1) := by decide +kernel
theorem dyL_law_1518 : decode cL_law 1518 = .ok (.iconst 5, 1) := by decide +kernel
theorem dyL_law_1519 : decode cL_law 1519 = .ok (.invokevirtual 36, 3) := by decide +kernel
theorem dyL_law_1522 : decode cL_law 1522 = .ok (.iload 11, 2) := by decide +kernel
theorem dyL_law_1524 : decode cL_law 1524 = .ok (.aload_n 2, 1) := by decide +kernel
theorem dyL_law_1525 : decode cL_law 1525 = .ok (.iconst 3, 1) := by decide +kernel
theorem dyL_law_1526 : decode cL_law 1526 = .ok (.invokevirtual 138, 3) := by decide +kernel
theorem dyL_law_1529 : decode cL_law 1529 = .ok (.iadd, 1) := by decide +kernel
theorem dyL_law_1530 : decode cL_law 1530 = .ok (.if_icmp .ne 7, 3) := by decide +kernel
theorem dyL_law_1533 : decode cL_law 1533 = .ok (.iconst 1, 1) := by decide +kernel
theorem dyL_law_1534 : decode cL_law 1534 = .ok (.goto 4, 3) := by decide +kernel
theorem dyL_law_1537 : decode cL_law 1537 = .ok (.iconst 0, 1) := by decide +kernel
theorem dyL_law_1538 : decode cL_law 1538 = .ok (.istore_n 3, 1) := by decide +kernel
theorem dyL_law_1539 : decode cL_law 1539 = .ok (.iload 15, 2) := by decide +kernel
theorem dyL_law_1541 : decode cL_law 1541 = .ok (.ifCond .ge 51, 3) := by decide +kernel
theorem dyL_law_1544 : decode cL_law 1544 = .ok (.iload 15, 2) := by decide +kernel
theorem dyL_law_1546 : decode cL_law 1546 = .ok (.bipush (-2), 2) := by decide +kernel
theorem dyL_law_1548 : decode cL_law 1548 = .ok (.if_icmp .le 44, 3) := by decide +kernel
theorem dyL_law_1551 : decode cL_law 1551 = .ok (.iload_n 3, 1) := by decide +kernel
theorem dyL_law_1552 : decode cL_law 1552 = .ok (.ifCond .eq 38, 3) := by decide +kernel
theorem dyL_law_1555 : decode cL_law 1555 = .ok (.aload_n 2, 1) := by decide +kernel
theorem dyL_law_1556 : decode cL_law 1556 = .ok (.bipush 6, 2) := by decide +kernel
theorem dyL_law_1558 : decode cL_law 1558 = .ok (.invokevirtual 36, 3) := by decide +kernel
theorem dyL_law_1561 : decode cL_law 1561 = .ok (.iload 6, 2) := by decide +kernel
theorem dyL_law_1563 : decode cL_law 1563 = .ok (.if_icmp .ne 27, 3) := by decide +kernel
theorem dyL_law_1566 : decode cL_law 1566 = .ok (.aload_n 2, 1) := by decide +kernel
theorem dyL_law_1567 : decode cL_law 1567 = .ok (.iconst 0, 1) := by decide +kernel
theorem dyL_law_1568 : decode cL_law 1568 = .ok (.invokevirtual 36, 3) := by decide +kernel
theorem dyL_law_1571 : decode cL_law 1571 = .ok (.iload 5, 2) := by decide +kernel
theorem dyL_law_1573 : decode cL_law 1573 = .ok (.if_icmp .ne 17, 3) := by decide +kernel
theorem dyL_law_1576 : decode cL_law 1576 = .ok (.aload_n 2, 1) := by decide +kernel
theorem dyL_law_1577 : decode cL_law 1577 = .ok (.iconst 4, 1) := by decide +kernel
theorem dyL_law_1578 : decode cL_law 1578 = .ok (.invokevirtual 36, 3) := by decide +kernel
theorem dyL_law_1581 : decode cL_law 1581 = .ok (.iload 10, 2) := by decide +kernel
theorem dyL_law_1583 : decode cL_law 1583 = .ok (.if_icmp .ne 7, 3) := by decide +kernel
theorem dyL_law_1586 : decode cL_law 1586 = .ok (.iconst 1, 1) := by decide +kernel
theorem dyL_law_1587 : decode cL_law 1587 = .ok (.goto 4, 3) := by decide +kernel
theorem dyL_law_1590 : decode cL_law 1590 = .ok (.iconst 0, 1) := by decide +kernel
theorem dyL_law_1591 : decode cL_law 1591 = .ok (.istore_n 3, 1) := by decide +kernel
theorem dyL_law_1592 : decode cL_law 1592 = .ok (.iload_n 3, 1) := by decide +kernel
theorem dyL_law_1593 : decode cL_law 1593 = .ok (.ifCond .eq 14, 3) := by decide +kernel
theorem dyL_law_1596 : decode cL_law 1596 = .ok (.aload_n 2, 1) := by decide +kernel
theorem dyL_law_1597 : decode cL_law 1597 = .ok (.invokestatic 141, 3) := by decide +kernel
theorem dyL_law_1600 : decode cL_law 1600 = .ok (.ifCond .eq 7, 3) := by decide +kernel
theorem dyL_law_1603 : decode cL_law 1603 = .ok (.iconst 1, 1) := by decide +kernel
theorem dyL_law_1604 : decode cL_law 1604 = .ok (.goto 4, 3) := by decide +kernel
theorem dyL_law_1607 : decode cL_law 1607 = .ok (.iconst 0, 1) := by decide +kernel
theorem dyL_law_1608 : decode cL_law 1608 = .ok (.istore_n 3, 1) := by decide +kernel
theorem dyL_law_1609 : decode cL_law 1609 = .ok (.iinc 4 1, 3) := by decide +kernel
theorem dyL_law_1612 : decode cL_law 1612 = .ok (.goto (-1568), 3) := by decide +kernel
theorem dyL_law_1615 : decode cL_law 1615 = .ok (.aload_n 2, 1) := by decide +kernel
theorem dyL_law_1616 : decode cL_law 1616 = .ok (.iconst 4, 1) := by decide +kernel
theorem dyL_law_1617 : decode cL_law 1617 = .ok (.invokevirtual 36, 3) := by decide +kernel
theorem dyL_law_1620 : decode cL_law 1620 = .ok (.istore 4, 2) := by decide +kernel
theorem dyL_law_1622 : decode cL_law 1622 = .ok (.aload_n 2, 1) := by decide +kernel
theorem dyL_law_1623 : decode cL_law 1623 = .ok (.iconst 0, 1) := by decide +kernel
theorem dyL_law_1624 : decode cL_law 1624 = .ok (.invokevirtual 36, 3) := by decide +kernel
theorem dyL_law_1627 : decode cL_law 1627 = .ok (.istore 5, 2) := by decide +kernel
theorem dyL_law_1629 : decode cL_law 1629 = .ok (.aload_n 2, 1) := by decide +kernel
theorem dyL_law_1630 : decode cL_law 1630 = .ok (.bipush 8, 2) := by decide +kernel
theorem dyL_law_1632 : decode cL_law 1632 = .ok (.invokevirtual 36, 3) := by decide +kernel
theorem dyL_law_1635 : decode cL_law 1635 = .ok (.istore 6, 2) := by decide +kernel
theorem dyL_law_1637 : decode cL_law 1637 = .ok (.aload_n 2, 1) := by decide +kernel
