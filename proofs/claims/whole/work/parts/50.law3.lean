/-! the law, instruction by instruction -/
theorem dL_law_1277 : decode code 1277 = .ok (.iload 4, 2) := by decide +kernel
theorem dL_law_1279 : decode code 1279 = .ok (.iconst 2, 1) := by decide +kernel
theorem dL_law_1280 : decode code 1280 = .ok (.iadd, 1) := by decide +kernel
theorem dL_law_1281 : decode code 1281 = .ok (.iaload, 1) := by decide +kernel
theorem dL_law_1282 : decode code 1282 = .ok (.invokevirtual 136, 3) := by decide +kernel
theorem dL_law_1285 : decode code 1285 = .ok (.aload_n 2, 1) := by decide +kernel
theorem dL_law_1286 : decode code 1286 = .ok (.aload_n 0, 1) := by decide +kernel
theorem dL_law_1287 : decode code 1287 = .ok (.iload 4, 2) := by decide +kernel
theorem dL_law_1289 : decode code 1289 = .ok (.iconst 1, 1) := by decide +kernel
theorem dL_law_1290 : decode code 1290 = .ok (.iadd, 1) := by decide +kernel
theorem dL_law_1291 : decode code 1291 = .ok (.iaload, 1) := by decide +kernel
theorem dL_law_1292 : decode code 1292 = .ok (.aload_n 0, 1) := by decide +kernel
theorem dL_law_1293 : decode code 1293 = .ok (.iload 4, 2) := by decide +kernel
theorem dL_law_1295 : decode code 1295 = .ok (.iconst 2, 1) := by decide +kernel
theorem dL_law_1296 : decode code 1296 = .ok (.iadd, 1) := by decide +kernel
theorem dL_law_1297 : decode code 1297 = .ok (.iaload, 1) := by decide +kernel
theorem dL_law_1298 : decode code 1298 = .ok (.invokevirtual 139, 3) := by decide +kernel
theorem dL_law_1301 : decode code 1301 = .ok (.if_icmp .eq 338, 3) := by decide +kernel
theorem dL_law_1304 : decode code 1304 = .ok (.iconst 0, 1) := by decide +kernel
theorem dL_law_1305 : decode code 1305 = .ok (.ireturn, 1) := by decide +kernel
theorem dL_law_1306 : decode code 1306 = .ok (.aload_n 1, 1) := by decide +kernel
theorem dL_law_1307 : decode code 1307 = .ok (.aload_n 0, 1) := by decide +kernel
theorem dL_law_1308 : decode code 1308 = .ok (.iload 4, 2) := by decide +kernel
theorem dL_law_1310 : decode code 1310 = .ok (.iconst 1, 1) := by decide +kernel
theorem dL_law_1311 : decode code 1311 = .ok (.iadd, 1) := by decide +kernel
theorem dL_law_1312 : decode code 1312 = .ok (.iaload, 1) := by decide +kernel
theorem dL_law_1313 : decode code 1313 = .ok (.aload_n 0, 1) := by decide +kernel
theorem dL_law_1314 : decode code 1314 = .ok (.iload 4, 2) := by decide +kernel
theorem dL_law_1316 : decode code 1316 = .ok (.iconst 2, 1) := by decide +kernel
theorem dL_law_1317 : decode code 1317 = .ok (.iadd, 1) := by decide +kernel
theorem dL_law_1318 : decode code 1318 = .ok (.iaload, 1) := by decide +kernel
theorem dL_law_1319 : decode code 1319 = .ok (.invokevirtual 140, 3) := by decide +kernel
theorem dL_law_1322 : decode code 1322 = .ok (.aload_n 2, 1) := by decide +kernel
theorem dL_law_1323 : decode code 1323 = .ok (.aload_n 0, 1) := by decide +kernel
theorem dL_law_1324 : decode code 1324 = .ok (.iload 4, 2) := by decide +kernel
theorem dL_law_1326 : decode code 1326 = .ok (.iconst 1, 1) := by decide +kernel
theorem dL_law_1327 : decode code 1327 = .ok (.iadd, 1) := by decide +kernel
theorem dL_law_1328 : decode code 1328 = .ok (.iaload, 1) := by decide +kernel
theorem dL_law_1329 : decode code 1329 = .ok (.aload_n 0, 1) := by decide +kernel
theorem dL_law_1330 : decode code 1330 = .ok (.iload 4, 2) := by decide +kernel
theorem dL_law_1332 : decode code 1332 = .ok (.iconst 2, 1) := by decide +kernel
theorem dL_law_1333 : decode code 1333 = .ok (.iadd, 1) := by decide +kernel
theorem dL_law_1334 : decode code 1334 = .ok (.iaload, 1) := by decide +kernel
theorem dL_law_1335 : decode code 1335 = .ok (.invokevirtual 143, 3) := by decide +kernel
theorem dL_law_1338 : decode code 1338 = .ok (.if_icmp .eq 301, 3) := by decide +kernel
theorem dL_law_1341 : decode code 1341 = .ok (.iconst 0, 1) := by decide +kernel
theorem dL_law_1342 : decode code 1342 = .ok (.ireturn, 1) := by decide +kernel
theorem dL_law_1343 : decode code 1343 = .ok (.aload_n 1, 1) := by decide +kernel
theorem dL_law_1344 : decode code 1344 = .ok (.aload_n 0, 1) := by decide +kernel
theorem dL_law_1345 : decode code 1345 = .ok (.iload 4, 2) := by decide +kernel
theorem dL_law_1347 : decode code 1347 = .ok (.iconst 1, 1) := by decide +kernel
theorem dL_law_1348 : decode code 1348 = .ok (.iadd, 1) := by decide +kernel
theorem dL_law_1349 : decode code 1349 = .ok (.iaload, 1) := by decide +kernel
theorem dL_law_1350 : decode code 1350 = .ok (.invokevirtual 144, 3) := by decide +kernel
theorem dL_law_1353 : decode code 1353 = .ok (.aload_n 2, 1) := by decide +kernel
theorem dL_law_1354 : decode code 1354 = .ok (.aload_n 0, 1) := by decide +kernel
theorem dL_law_1355 : decode code 1355 = .ok (.iload 4, 2) := by decide +kernel
theorem dL_law_1357 : decode code 1357 = .ok (.iconst 1, 1) := by decide +kernel
theorem dL_law_1358 : decode code 1358 = .ok (.iadd, 1) := by decide +kernel
theorem dL_law_1359 : decode code 1359 = .ok (.iaload, 1) := by decide +kernel
theorem dL_law_1360 : decode code 1360 = .ok (.invokevirtual 147, 3) := by decide +kernel
theorem dL_law_1363 : decode code 1363 = .ok (.if_icmp .eq 276, 3) := by decide +kernel
theorem dL_law_1366 : decode code 1366 = .ok (.iconst 0, 1) := by decide +kernel
theorem dL_law_1367 : decode code 1367 = .ok (.ireturn, 1) := by decide +kernel
theorem dL_law_1368 : decode code 1368 = .ok (.aload_n 1, 1) := by decide +kernel
theorem dL_law_1369 : decode code 1369 = .ok (.aload_n 0, 1) := by decide +kernel
theorem dL_law_1370 : decode code 1370 = .ok (.iload 4, 2) := by decide +kernel
theorem dL_law_1372 : decode code 1372 = .ok (.iconst 1, 1) := by decide +kernel
theorem dL_law_1373 : decode code 1373 = .ok (.iadd, 1) := by decide +kernel
theorem dL_law_1374 : decode code 1374 = .ok (.iaload, 1) := by decide +kernel
theorem dL_law_1375 : decode code 1375 = .ok (.aload_n 0, 1) := by decide +kernel
theorem dL_law_1376 : decode code 1376 = .ok (.iload 4, 2) := by decide +kernel
theorem dL_law_1378 : decode code 1378 = .ok (.iconst 2, 1) := by decide +kernel
theorem dL_law_1379 : decode code 1379 = .ok (.iadd, 1) := by decide +kernel
theorem dL_law_1380 : decode code 1380 = .ok (.iaload, 1) := by decide +kernel
theorem dL_law_1381 : decode code 1381 = .ok (.invokevirtual 148, 3) := by decide +kernel
theorem dL_law_1384 : decode code 1384 = .ok (.aload_n 2, 1) := by decide +kernel
theorem dL_law_1385 : decode code 1385 = .ok (.aload_n 0, 1) := by decide +kernel
theorem dL_law_1386 : decode code 1386 = .ok (.iload 4, 2) := by decide +kernel
theorem dL_law_1388 : decode code 1388 = .ok (.iconst 1, 1) := by decide +kernel
theorem dL_law_1389 : decode code 1389 = .ok (.iadd, 1) := by decide +kernel
theorem dL_law_1390 : decode code 1390 = .ok (.iaload, 1) := by decide +kernel
theorem dL_law_1391 : decode code 1391 = .ok (.aload_n 0, 1) := by decide +kernel
theorem dL_law_1392 : decode code 1392 = .ok (.iload 4, 2) := by decide +kernel
theorem dL_law_1394 : decode code 1394 = .ok (.iconst 2, 1) := by decide +kernel
theorem dL_law_1395 : decode code 1395 = .ok (.iadd, 1) := by decide +kernel
theorem dL_law_1396 : decode code 1396 = .ok (.iaload, 1) := by decide +kernel
theorem dL_law_1397 : decode code 1397 = .ok (.invokevirtual 151, 3) := by decide +kernel
theorem dL_law_1400 : decode code 1400 = .ok (.if_icmp .eq 239, 3) := by decide +kernel
theorem dL_law_1403 : decode code 1403 = .ok (.iconst 0, 1) := by decide +kernel
theorem dL_law_1404 : decode code 1404 = .ok (.ireturn, 1) := by decide +kernel
theorem dL_law_1405 : decode code 1405 = .ok (.aload_n 1, 1) := by decide +kernel
theorem dL_law_1406 : decode code 1406 = .ok (.aload_n 0, 1) := by decide +kernel
theorem dL_law_1407 : decode code 1407 = .ok (.iload 4, 2) := by decide +kernel
theorem dL_law_1409 : decode code 1409 = .ok (.iconst 1, 1) := by decide +kernel
theorem dL_law_1410 : decode code 1410 = .ok (.iadd, 1) := by decide +kernel
theorem dL_law_1411 : decode code 1411 = .ok (.iaload, 1) := by decide +kernel
theorem dL_law_1412 : decode code 1412 = .ok (.aload_n 0, 1) := by decide +kernel
theorem dL_law_1413 : decode code 1413 = .ok (.iload 4, 2) := by decide +kernel
theorem dL_law_1415 : decode code 1415 = .ok (.iconst 2, 1) := by decide +kernel
theorem dL_law_1416 : decode code 1416 = .ok (.iadd, 1) := by decide +kernel
theorem dL_law_1417 : decode code 1417 = .ok (.iaload, 1) := by decide +kernel
theorem dL_law_1418 : decode code 1418 = .ok (.aload_n 0, 1) := by decide +kernel
theorem dL_law_1419 : decode code 1419 = .ok (.iload 4, 2) := by decide +kernel
theorem dL_law_1421 : decode code 1421 = .ok (.iconst 3, 1) := by decide +kernel
theorem dL_law_1422 : decode code 1422 = .ok (.iadd, 1) := by decide +kernel
theorem dL_law_1423 : decode code 1423 = .ok (.iaload, 1) := by decide +kernel
theorem dL_law_1424 : decode code 1424 = .ok (.aload_n 0, 1) := by decide +kernel
theorem dL_law_1425 : decode code 1425 = .ok (.iload 4, 2) := by decide +kernel
theorem dL_law_1427 : decode code 1427 = .ok (.iconst 4, 1) := by decide +kernel
theorem dL_law_1428 : decode code 1428 = .ok (.iadd, 1) := by decide +kernel
theorem dL_law_1429 : decode code 1429 = .ok (.iaload, 1) := by decide +kernel
theorem dL_law_1430 : decode code 1430 = .ok (.invokevirtual 152, 3) := by decide +kernel
theorem dL_law_1433 : decode code 1433 = .ok (.aload_n 2, 1) := by decide +kernel
theorem dL_law_1434 : decode code 1434 = .ok (.aload_n 0, 1) := by decide +kernel
theorem dL_law_1435 : decode code 1435 = .ok (.iload 4, 2) := by decide +kernel
theorem dL_law_1437 : decode code 1437 = .ok (.iconst 1, 1) := by decide +kernel
theorem dL_law_1438 : decode code 1438 = .ok (.iadd, 1) := by decide +kernel
theorem dL_law_1439 : decode code 1439 = .ok (.iaload, 1) := by decide +kernel
theorem dL_law_1440 : decode code 1440 = .ok (.aload_n 0, 1) := by decide +kernel
theorem dL_law_1441 : decode code 1441 = .ok (.iload 4, 2) := by decide +kernel
theorem dL_law_1443 : decode code 1443 = .ok (.iconst 2, 1) := by decide +kernel
theorem dL_law_1444 : decode code 1444 = .ok (.iadd, 1) := by decide +kernel
theorem dL_law_1445 : decode code 1445 = .ok (.iaload, 1) := by decide +kernel
theorem dL_law_1446 : decode code 1446 = .ok (.aload_n 0, 1) := by decide +kernel
theorem dL_law_1447 : decode code 1447 = .ok (.iload 4, 2) := by decide +kernel
theorem dL_law_1449 : decode code 1449 = .ok (.iconst 3, 1) := by decide +kernel
theorem dL_law_1450 : decode code 1450 = .ok (.iadd, 1) := by decide +kernel
theorem dL_law_1451 : decode code 1451 = .ok (.iaload, 1) := by decide +kernel
theorem dL_law_1452 : decode code 1452 = .ok (.aload_n 0, 1) := by decide +kernel
theorem dL_law_1453 : decode code 1453 = .ok (.iload 4, 2) := by decide +kernel
theorem dL_law_1455 : decode code 1455 = .ok (.iconst 4, 1) := by decide +kernel
theorem dL_law_1456 : decode code 1456 = .ok (.iadd, 1) := by decide +kernel
theorem dL_law_1457 : decode code 1457 = .ok (.iaload, 1) := by decide +kernel
theorem dL_law_1458 : decode code 1458 = .ok (.invokevirtual 155, 3) := by decide +kernel
theorem dL_law_1461 : decode code 1461 = .ok (.if_icmp .eq 178, 3) := by decide +kernel
theorem dL_law_1464 : decode code 1464 = .ok (.iconst 0, 1) := by decide +kernel
theorem dL_law_1465 : decode code 1465 = .ok (.ireturn, 1) := by decide +kernel
theorem dL_law_1466 : decode code 1466 = .ok (.aload_n 1, 1) := by decide +kernel
theorem dL_law_1467 : decode code 1467 = .ok (.aload_n 0, 1) := by decide +kernel
theorem dL_law_1468 : decode code 1468 = .ok (.iload 4, 2) := by decide +kernel
theorem dL_law_1470 : decode code 1470 = .ok (.iconst 1, 1) := by decide +kernel
theorem dL_law_1471 : decode code 1471 = .ok (.iadd, 1) := by decide +kernel
theorem dL_law_1472 : decode code 1472 = .ok (.iaload, 1) := by decide +kernel
theorem dL_law_1473 : decode code 1473 = .ok (.aload_n 0, 1) := by decide +kernel
theorem dL_law_1474 : decode code 1474 = .ok (.iload 4, 2) := by decide +kernel
theorem dL_law_1476 : decode code 1476 = .ok (.iconst 2, 1) := by decide +kernel
theorem dL_law_1477 : decode code 1477 = .ok (.iadd, 1) := by decide +kernel
theorem dL_law_1478 : decode code 1478 = .ok (.iaload, 1) := by decide +kernel
theorem dL_law_1479 : decode code 1479 = .ok (.invokevirtual 156, 3) := by decide +kernel
theorem dL_law_1482 : decode code 1482 = .ok (.aload_n 2, 1) := by decide +kernel
theorem dL_law_1483 : decode code 1483 = .ok (.aload_n 0, 1) := by decide +kernel
theorem dL_law_1484 : decode code 1484 = .ok (.iload 4, 2) := by decide +kernel
theorem dL_law_1486 : decode code 1486 = .ok (.iconst 1, 1) := by decide +kernel
theorem dL_law_1487 : decode code 1487 = .ok (.iadd, 1) := by decide +kernel
theorem dL_law_1488 : decode code 1488 = .ok (.iaload, 1) := by decide +kernel
theorem dL_law_1489 : decode code 1489 = .ok (.aload_n 0, 1) := by decide +kernel
theorem dL_law_1490 : decode code 1490 = .ok (.iload 4, 2) := by decide +kernel
theorem dL_law_1492 : decode code 1492 = .ok (.iconst 2, 1) := by decide +kernel
theorem dL_law_1493 : decode code 1493 = .ok (.iadd, 1) := by decide +kernel
theorem dL_law_1494 : decode code 1494 = .ok (.iaload, 1) := by decide +kernel
theorem dL_law_1495 : decode code 1495 = .ok (.invokevirtual 159, 3) := by decide +kernel
theorem dL_law_1498 : decode code 1498 = .ok (.if_icmp .eq 141, 3) := by decide +kernel
theorem dL_law_1501 : decode code 1501 = .ok (.iconst 0, 1) := by decide +kernel
theorem dL_law_1502 : decode code 1502 = .ok (.ireturn, 1) := by decide +kernel
theorem dL_law_1503 : decode code 1503 = .ok (.aload_n 1, 1) := by decide +kernel
theorem dL_law_1504 : decode code 1504 = .ok (.aload_n 0, 1) := by decide +kernel
theorem dL_law_1505 : decode code 1505 = .ok (.iload 4, 2) := by decide +kernel
theorem dL_law_1507 : decode code 1507 = .ok (.iconst 1, 1) := by decide +kernel
theorem dL_law_1508 : decode code 1508 = .ok (.iadd, 1) := by decide +kernel
theorem dL_law_1509 : decode code 1509 = .ok (.iaload, 1) := by decide +kernel
theorem dL_law_1510 : decode code 1510 = .ok (.invokevirtual 160, 3) := by decide +kernel
theorem dL_law_1513 : decode code 1513 = .ok (.aload_n 2, 1) := by decide +kernel
theorem dL_law_1514 : decode code 1514 = .ok (.aload_n 0, 1) := by decide +kernel
theorem dL_law_1515 : decode code 1515 = .ok (.iload 4, 2) := by decide +kernel
theorem dL_law_1517 : decode code 1517 = .ok (.iconst 1, 1) := by decide +kernel
theorem dL_law_1518 : decode code 1518 = .ok (.iadd, 1) := by decide +kernel
theorem dL_law_1519 : decode code 1519 = .ok (.iaload, 1) := by decide +kernel
theorem dL_law_1520 : decode code 1520 = .ok (.invokevirtual 163, 3) := by decide +kernel
theorem dL_law_1523 : decode code 1523 = .ok (.if_icmp .eq 116, 3) := by decide +kernel
theorem dL_law_1526 : decode code 1526 = .ok (.iconst 0, 1) := by decide +kernel
theorem dL_law_1527 : decode code 1527 = .ok (.ireturn, 1) := by decide +kernel
theorem dL_law_1528 : decode code 1528 = .ok (.aload_n 1, 1) := by decide +kernel
theorem dL_law_1529 : decode code 1529 = .ok (.aload_n 0, 1) := by decide +kernel
theorem dL_law_1530 : decode code 1530 = .ok (.iload 4, 2) := by decide +kernel
theorem dL_law_1532 : decode code 1532 = .ok (.iconst 1, 1) := by decide +kernel
theorem dL_law_1533 : decode code 1533 = .ok (.iadd, 1) := by decide +kernel
theorem dL_law_1534 : decode code 1534 = .ok (.iaload, 1) := by decide +kernel
theorem dL_law_1535 : decode code 1535 = .ok (.aload_n 0, 1) := by decide +kernel
theorem dL_law_1536 : decode code 1536 = .ok (.iload 4, 2) := by decide +kernel
theorem dL_law_1538 : decode code 1538 = .ok (.iconst 2, 1) := by decide +kernel
theorem dL_law_1539 : decode code 1539 = .ok (.iadd, 1) := by decide +kernel
theorem dL_law_1540 : decode code 1540 = .ok (.iaload, 1) := by decide +kernel
theorem dL_law_1541 : decode code 1541 = .ok (.aload_n 0, 1) := by decide +kernel
theorem dL_law_1542 : decode code 1542 = .ok (.iload 4, 2) := by decide +kernel
theorem dL_law_1544 : decode code 1544 = .ok (.iconst 3, 1) := by decide +kernel
theorem dL_law_1545 : decode code 1545 = .ok (.iadd, 1) := by decide +kernel
theorem dL_law_1546 : decode code 1546 = .ok (.iaload, 1) := by decide +kernel
theorem dL_law_1547 : decode code 1547 = .ok (.invokevirtual 164, 3) := by decide +kernel
theorem dL_law_1550 : decode code 1550 = .ok (.aload_n 2, 1) := by decide +kernel
theorem dL_law_1551 : decode code 1551 = .ok (.aload_n 0, 1) := by decide +kernel
theorem dL_law_1552 : decode code 1552 = .ok (.iload 4, 2) := by decide +kernel
theorem dL_law_1554 : decode code 1554 = .ok (.iconst 1, 1) := by decide +kernel
theorem dL_law_1555 : decode code 1555 = .ok (.iadd, 1) := by decide +kernel
theorem dL_law_1556 : decode code 1556 = .ok (.iaload, 1) := by decide +kernel
theorem dL_law_1557 : decode code 1557 = .ok (.aload_n 0, 1) := by decide +kernel
theorem dL_law_1558 : decode code 1558 = .ok (.iload 4, 2) := by decide +kernel
theorem dL_law_1560 : decode code 1560 = .ok (.iconst 2, 1) := by decide +kernel
theorem dL_law_1561 : decode code 1561 = .ok (.iadd, 1) := by decide +kernel
theorem dL_law_1562 : decode code 1562 = .ok (.iaload, 1) := by decide +kernel
theorem dL_law_1563 : decode code 1563 = .ok (.aload_n 0, 1) := by decide +kernel
theorem dL_law_1564 : decode code 1564 = .ok (.iload 4, 2) := by decide +kernel
theorem dL_law_1566 : decode code 1566 = .ok (.iconst 3, 1) := by decide +kernel
theorem dL_law_1567 : decode code 1567 = .ok (.iadd, 1) := by decide +kernel
theorem dL_law_1568 : decode code 1568 = .ok (.iaload, 1) := by decide +kernel
theorem dL_law_1569 : decode code 1569 = .ok (.invokevirtual 167, 3) := by decide +kernel
theorem dL_law_1572 : decode code 1572 = .ok (.if_icmp .eq 67, 3) := by decide +kernel
theorem dL_law_1575 : decode code 1575 = .ok (.iconst 0, 1) := by decide +kernel
theorem dL_law_1576 : decode code 1576 = .ok (.ireturn, 1) := by decide +kernel
theorem dL_law_1577 : decode code 1577 = .ok (.aload_n 1, 1) := by decide +kernel
theorem dL_law_1578 : decode code 1578 = .ok (.aload_n 0, 1) := by decide +kernel
theorem dL_law_1579 : decode code 1579 = .ok (.iload 4, 2) := by decide +kernel
theorem dL_law_1581 : decode code 1581 = .ok (.iconst 1, 1) := by decide +kernel
theorem dL_law_1582 : decode code 1582 = .ok (.iadd, 1) := by decide +kernel
theorem dL_law_1583 : decode code 1583 = .ok (.iaload, 1) := by decide +kernel
theorem dL_law_1584 : decode code 1584 = .ok (.aload_n 0, 1) := by decide +kernel
theorem dL_law_1585 : decode code 1585 = .ok (.iload 4, 2) := by decide +kernel
theorem dL_law_1587 : decode code 1587 = .ok (.iconst 2, 1) := by decide +kernel
theorem dL_law_1588 : decode code 1588 = .ok (.iadd, 1) := by decide +kernel
theorem dL_law_1589 : decode code 1589 = .ok (.iaload, 1) := by decide +kernel
theorem dL_law_1590 : decode code 1590 = .ok (.invokevirtual 168, 3) := by decide +kernel
theorem dL_law_1593 : decode code 1593 = .ok (.aload_n 2, 1) := by decide +kernel
theorem dL_law_1594 : decode code 1594 = .ok (.aload_n 0, 1) := by decide +kernel
theorem dL_law_1595 : decode code 1595 = .ok (.iload 4, 2) := by decide +kernel
theorem dL_law_1597 : decode code 1597 = .ok (.iconst 1, 1) := by decide +kernel
theorem dL_law_1598 : decode code 1598 = .ok (.iadd, 1) := by decide +kernel
theorem dL_law_1599 : decode code 1599 = .ok (.iaload, 1) := by decide +kernel
theorem dL_law_1600 : decode code 1600 = .ok (.aload_n 0, 1) := by decide +kernel
theorem dL_law_1601 : decode code 1601 = .ok (.iload 4, 2) := by decide +kernel
theorem dL_law_1603 : decode code 1603 = .ok (.iconst 2, 1) := by decide +kernel
theorem dL_law_1604 : decode code 1604 = .ok (.iadd, 1) := by decide +kernel
theorem dL_law_1605 : decode code 1605 = .ok (.iaload, 1) := by decide +kernel
theorem dL_law_1606 : decode code 1606 = .ok (.invokevirtual 171, 3) := by decide +kernel
theorem dL_law_1609 : decode code 1609 = .ok (.if_icmp .eq 30, 3) := by decide +kernel
theorem dL_law_1612 : decode code 1612 = .ok (.iconst 0, 1) := by decide +kernel
theorem dL_law_1613 : decode code 1613 = .ok (.ireturn, 1) := by decide +kernel
theorem dL_law_1614 : decode code 1614 = .ok (.aload_n 1, 1) := by decide +kernel
theorem dL_law_1615 : decode code 1615 = .ok (.aload_n 0, 1) := by decide +kernel
theorem dL_law_1616 : decode code 1616 = .ok (.iload 4, 2) := by decide +kernel
theorem dL_law_1618 : decode code 1618 = .ok (.iconst 1, 1) := by decide +kernel
theorem dL_law_1619 : decode code 1619 = .ok (.iadd, 1) := by decide +kernel
theorem dL_law_1620 : decode code 1620 = .ok (.iaload, 1) := by decide +kernel
theorem dL_law_1621 : decode code 1621 = .ok (.invokevirtual 172, 3) := by decide +kernel
theorem dL_law_1624 : decode code 1624 = .ok (.aload_n 2, 1) := by decide +kernel
theorem dL_law_1625 : decode code 1625 = .ok (.aload_n 0, 1) := by decide +kernel
theorem dL_law_1626 : decode code 1626 = .ok (.iload 4, 2) := by decide +kernel
theorem dL_law_1628 : decode code 1628 = .ok (.iconst 1, 1) := by decide +kernel
theorem dL_law_1629 : decode code 1629 = .ok (.iadd, 1) := by decide +kernel
theorem dL_law_1630 : decode code 1630 = .ok (.iaload, 1) := by decide +kernel
theorem dL_law_1631 : decode code 1631 = .ok (.invokevirtual 175, 3) := by decide +kernel
theorem dL_law_1634 : decode code 1634 = .ok (.if_icmp .eq 5, 3) := by decide +kernel
theorem dL_law_1637 : decode code 1637 = .ok (.iconst 0, 1) := by decide +kernel
theorem dL_law_1638 : decode code 1638 = .ok (.ireturn, 1) := by decide +kernel
theorem dL_law_1639 : decode code 1639 = .ok (.iinc 4 6, 3) := by decide +kernel
theorem dL_law_1642 : decode code 1642 = .ok (.goto (-1619), 3) := by decide +kernel
theorem dL_law_1645 : decode code 1645 = .ok (.iconst 1, 1) := by decide +kernel
theorem dL_law_1646 : decode code 1646 = .ok (.ireturn, 1) := by decide +kernel
