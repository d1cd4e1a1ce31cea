theorem dL_law_1392 : decode cL_law 1392 = .ok (.aload_n 0, 1) := by decide +kernel
theorem dL_law_1393 : decode cL_law 1393 = .ok (.iload_n 3, 1) := by decide +kernel
theorem dL_law_1394 : decode cL_law 1394 = .ok (.iconst 1, 1) := by decide +kernel
theorem dL_law_1395 : decode cL_law 1395 = .ok (.iadd, 1) := by decide +kernel
theorem dL_law_1396 : decode cL_law 1396 = .ok (.iaload, 1) := by decide +kernel
theorem dL_law_1397 : decode cL_law 1397 = .ok (.invokevirtual 185, 3) := by decide +kernel
theorem dL_law_1400 : decode cL_law 1400 = .ok (.pop, 1) := by decide +kernel
theorem dL_law_1401 : decode cL_law 1401 = .ok (.goto 1012, 3) := by decide +kernel
theorem dL_law_1404 : decode cL_law 1404 = .ok (.aload_n 1, 1) := by decide +kernel
theorem dL_law_1405 : decode cL_law 1405 = .ok (.invokevirtual 186, 3) := by decide +kernel
theorem dL_law_1408 : decode cL_law 1408 = .ok (.pop, 1) := by decide +kernel
theorem dL_law_1409 : decode cL_law 1409 = .ok (.aload_n 2, 1) := by decide +kernel
theorem dL_law_1410 : decode cL_law 1410 = .ok (.invokevirtual 189, 3) := by decide +kernel
theorem dL_law_1413 : decode cL_law 1413 = .ok (.pop, 1) := by decide +kernel
theorem dL_law_1414 : decode cL_law 1414 = .ok (.goto 999, 3) := by decide +kernel
theorem dL_law_1417 : decode cL_law 1417 = .ok (.aload_n 1, 1) := by decide +kernel
theorem dL_law_1418 : decode cL_law 1418 = .ok (.invokevirtual 190, 3) := by decide +kernel
theorem dL_law_1421 : decode cL_law 1421 = .ok (.pop, 1) := by decide +kernel
theorem dL_law_1422 : decode cL_law 1422 = .ok (.aload_n 2, 1) := by decide +kernel
theorem dL_law_1423 : decode cL_law 1423 = .ok (.invokevirtual 193, 3) := by decide +kernel
theorem dL_law_1426 : decode cL_law 1426 = .ok (.pop, 1) := by decide +kernel
theorem dL_law_1427 : decode cL_law 1427 = .ok (.goto 986, 3) := by decide +kernel
theorem dL_law_1430 : decode cL_law 1430 = .ok (.aload_n 1, 1) := by decide +kernel
theorem dL_law_1431 : decode cL_law 1431 = .ok (.invokevirtual 194, 3) := by decide +kernel
theorem dL_law_1434 : decode cL_law 1434 = .ok (.pop, 1) := by decide +kernel
theorem dL_law_1435 : decode cL_law 1435 = .ok (.aload_n 2, 1) := by decide +kernel
theorem dL_law_1436 : decode cL_law 1436 = .ok (.invokevirtual 197, 3) := by decide +kernel
theorem dL_law_1439 : decode cL_law 1439 = .ok (.pop, 1) := by decide +kernel
theorem dL_law_1440 : decode cL_law 1440 = .ok (.goto 973, 3) := by decide +kernel
theorem dL_law_1443 : decode cL_law 1443 = .ok (.aload_n 1, 1) := by decide +kernel
theorem dL_law_1444 : decode cL_law 1444 = .ok (.invokevirtual 198, 3) := by decide +kernel
theorem dL_law_1447 : decode cL_law 1447 = .ok (.pop, 1) := by decide +kernel
theorem dL_law_1448 : decode cL_law 1448 = .ok (.aload_n 2, 1) := by decide +kernel
theorem dL_law_1449 : decode cL_law 1449 = .ok (.invokevirtual 201, 3) := by decide +kernel
theorem dL_law_1452 : decode cL_law 1452 = .ok (.pop, 1) := by decide +kernel
theorem dL_law_1453 : decode cL_law 1453 = .ok (.goto 960, 3) := by decide +kernel
theorem dL_law_1456 : decode cL_law 1456 = .ok (.aload_n 1, 1) := by decide +kernel
theorem dL_law_1457 : decode cL_law 1457 = .ok (.aload_n 0, 1) := by decide +kernel
theorem dL_law_1458 : decode cL_law 1458 = .ok (.iload_n 3, 1) := by decide +kernel
theorem dL_law_1459 : decode cL_law 1459 = .ok (.iconst 1, 1) := by decide +kernel
theorem dL_law_1460 : decode cL_law 1460 = .ok (.iadd, 1) := by decide +kernel
theorem dL_law_1461 : decode cL_law 1461 = .ok (.iaload, 1) := by decide +kernel
theorem dL_law_1462 : decode cL_law 1462 = .ok (.invokevirtual 202, 3) := by decide +kernel
theorem dL_law_1465 : decode cL_law 1465 = .ok (.pop, 1) := by decide +kernel
theorem dL_law_1466 : decode cL_law 1466 = .ok (.aload_n 2, 1) := by decide +kernel
theorem dL_law_1467 : decode cL_law 1467 = .ok (.aload_n 0, 1) := by decide +kernel
theorem dL_law_1468 : decode cL_law 1468 = .ok (.iload_n 3, 1) := by decide +kernel
theorem dL_law_1469 : decode cL_law 1469 = .ok (.iconst 1, 1) := by decide +kernel
theorem dL_law_1470 : decode cL_law 1470 = .ok (.iadd, 1) := by decide +kernel
theorem dL_law_1471 : decode cL_law 1471 = .ok (.iaload, 1) := by decide +kernel
theorem dL_law_1472 : decode cL_law 1472 = .ok (.invokevirtual 205, 3) := by decide +kernel
theorem dL_law_1475 : decode cL_law 1475 = .ok (.pop, 1) := by decide +kernel
theorem dL_law_1476 : decode cL_law 1476 = .ok (.goto 937, 3) := by decide +kernel
theorem dL_law_1479 : decode cL_law 1479 = .ok (.aload_n 1, 1) := by decide +kernel
theorem dL_law_1480 : decode cL_law 1480 = .ok (.aload_n 0, 1) := by decide +kernel
theorem dL_law_1481 : decode cL_law 1481 = .ok (.iload_n 3, 1) := by decide +kernel
theorem dL_law_1482 : decode cL_law 1482 = .ok (.iconst 1, 1) := by decide +kernel
theorem dL_law_1483 : decode cL_law 1483 = .ok (.iadd, 1) := by decide +kernel
theorem dL_law_1484 : decode cL_law 1484 = .ok (.iaload, 1) := by decide +kernel
theorem dL_law_1485 : decode cL_law 1485 = .ok (.invokevirtual 206, 3) := by decide +kernel
theorem dL_law_1488 : decode cL_law 1488 = .ok (.pop, 1) := by decide +kernel
theorem dL_law_1489 : decode cL_law 1489 = .ok (.aload_n 2, 1) := by decide +kernel
theorem dL_law_1490 : decode cL_law 1490 = .ok (.aload_n 0, 1) := by decide +kernel
theorem dL_law_1491 : decode cL_law 1491 = .ok (.iload_n 3, 1) := by decide +kernel
theorem dL_law_1492 : decode cL_law 1492 = .ok (.iconst 1, 1) := by decide +kernel
theorem dL_law_1493 : decode cL_law 1493 = .ok (.iadd, 1) := by decide +kernel
theorem dL_law_1494 : decode cL_law 1494 = .ok (.iaload, 1) := by decide +kernel
theorem dL_law_1495 : decode cL_law 1495 = .ok (.invokevirtual 209, 3) := by decide +kernel
theorem dL_law_1498 : decode cL_law 1498 = .ok (.pop, 1) := by decide +kernel
theorem dL_law_1499 : decode cL_law 1499 = .ok (.goto 914, 3) := by decide +kernel
theorem dL_law_1502 : decode cL_law 1502 = .ok (.aload_n 1, 1) := by decide +kernel
theorem dL_law_1503 : decode cL_law 1503 = .ok (.aload_n 0, 1) := by decide +kernel
theorem dL_law_1504 : decode cL_law 1504 = .ok (.iload_n 3, 1) := by decide +kernel
theorem dL_law_1505 : decode cL_law 1505 = .ok (.iconst 1, 1) := by decide +kernel
theorem dL_law_1506 : decode cL_law 1506 = .ok (.iadd, 1) := by decide +kernel
theorem dL_law_1507 : decode cL_law 1507 = .ok (.iaload, 1) := by decide +kernel
theorem dL_law_1508 : decode cL_law 1508 = .ok (.invokevirtual 210, 3) := by decide +kernel
theorem dL_law_1511 : decode cL_law 1511 = .ok (.pop, 1) := by decide +kernel
theorem dL_law_1512 : decode cL_law 1512 = .ok (.aload_n 2, 1) := by decide +kernel
theorem dL_law_1513 : decode cL_law 1513 = .ok (.aload_n 0, 1) := by decide +kernel
theorem dL_law_1514 : decode cL_law 1514 = .ok (.iload_n 3, 1) := by decide +kernel
theorem dL_law_1515 : decode cL_law 1515 = .ok (.iconst 1, 1) := by decide +kernel
theorem dL_law_1516 : decode cL_law 1516 = .ok (.iadd, 1) := by decide +kernel
theorem dL_law_1517 : decode cL_law 1517 = .ok (.iaload, 1) := by decide +kernel
theorem dL_law_1518 : decode cL_law 1518 = .ok (.invokevirtual 213, 3) := by decide +kernel
theorem dL_law_1521 : decode cL_law 1521 = .ok (.pop, 1) := by decide +kernel
theorem dL_law_1522 : decode cL_law 1522 = .ok (.goto 891, 3) := by decide +kernel
theorem dL_law_1525 : decode cL_law 1525 = .ok (.aload_n 1, 1) := by decide +kernel
theorem dL_law_1526 : decode cL_law 1526 = .ok (.invokevirtual 214, 3) := by decide +kernel
theorem dL_law_1529 : decode cL_law 1529 = .ok (.pop, 1) := by decide +kernel
theorem dL_law_1530 : decode cL_law 1530 = .ok (.aload_n 2, 1) := by decide +kernel
theorem dL_law_1531 : decode cL_law 1531 = .ok (.invokevirtual 217, 3) := by decide +kernel
theorem dL_law_1534 : decode cL_law 1534 = .ok (.pop, 1) := by decide +kernel
theorem dL_law_1535 : decode cL_law 1535 = .ok (.goto 878, 3) := by decide +kernel
theorem dL_law_1538 : decode cL_law 1538 = .ok (.aload_n 1, 1) := by decide +kernel
theorem dL_law_1539 : decode cL_law 1539 = .ok (.aload_n 0, 1) := by decide +kernel
theorem dL_law_1540 : decode cL_law 1540 = .ok (.iload_n 3, 1) := by decide +kernel
theorem dL_law_1541 : decode cL_law 1541 = .ok (.iconst 1, 1) := by decide +kernel
theorem dL_law_1542 : decode cL_law 1542 = .ok (.iadd, 1) := by decide +kernel
theorem dL_law_1543 : decode cL_law 1543 = .ok (.iaload, 1) := by decide +kernel
theorem dL_law_1544 : decode cL_law 1544 = .ok (.aload_n 0, 1) := by decide +kernel
theorem dL_law_1545 : decode cL_law 1545 = .ok (.iload_n 3, 1) := by decide +kernel
theorem dL_law_1546 : decode cL_law 1546 = .ok (.iconst 2, 1) := by decide +kernel
theorem dL_law_1547 : decode cL_law 1547 = .ok (.iadd, 1) := by decide +kernel
theorem dL_law_1548 : decode cL_law 1548 = .ok (.iaload, 1) := by decide +kernel
theorem dL_law_1549 : decode cL_law 1549 = .ok (.invokevirtual 218, 3) := by decide +kernel
theorem dL_law_1552 : decode cL_law 1552 = .ok (.pop, 1) := by decide +kernel
theorem dL_law_1553 : decode cL_law 1553 = .ok (.aload_n 2, 1) := by decide +kernel
theorem dL_law_1554 : decode cL_law 1554 = .ok (.aload_n 0, 1) := by decide +kernel
theorem dL_law_1555 : decode cL_law 1555 = .ok (.iload_n 3, 1) := by decide +kernel
theorem dL_law_1556 : decode cL_law 1556 = .ok (.iconst 1, 1) := by decide +kernel
theorem dL_law_1557 : decode cL_law 1557 = .ok (.iadd, 1) := by decide +kernel
theorem dL_law_1558 : decode cL_law 1558 = .ok (.iaload, 1) := by decide +kernel
theorem dL_law_1559 : decode cL_law 1559 = .ok (.aload_n 0, 1) := by decide +kernel
theorem dL_law_1560 : decode cL_law 1560 = .ok (.iload_n 3, 1) := by decide +kernel
theorem dL_law_1561 : decode cL_law 1561 = .ok (.iconst 2, 1) := by decide +kernel
theorem dL_law_1562 : decode cL_law 1562 = .ok (.iadd, 1) := by decide +kernel
theorem dL_law_1563 : decode cL_law 1563 = .ok (.iaload, 1) := by decide +kernel
theorem dL_law_1564 : decode cL_law 1564 = .ok (.invokevirtual 221, 3) := by decide +kernel
theorem dL_law_1567 : decode cL_law 1567 = .ok (.pop, 1) := by decide +kernel
theorem dL_law_1568 : decode cL_law 1568 = .ok (.goto 845, 3) := by decide +kernel
theorem dL_law_1571 : decode cL_law 1571 = .ok (.aload_n 1, 1) := by decide +kernel
theorem dL_law_1572 : decode cL_law 1572 = .ok (.aload_n 0, 1) := by decide +kernel
theorem dL_law_1573 : decode cL_law 1573 = .ok (.iload_n 3, 1) := by decide +kernel
theorem dL_law_1574 : decode cL_law 1574 = .ok (.iconst 1, 1) := by decide +kernel
theorem dL_law_1575 : decode cL_law 1575 = .ok (.iadd, 1) := by decide +kernel
theorem dL_law_1576 : decode cL_law 1576 = .ok (.iaload, 1) := by decide +kernel
theorem dL_law_1577 : decode cL_law 1577 = .ok (.aload_n 0, 1) := by decide +kernel
theorem dL_law_1578 : decode cL_law 1578 = .ok (.iload_n 3, 1) := by decide +kernel
theorem dL_law_1579 : decode cL_law 1579 = .ok (.iconst 2, 1) := by decide +kernel
theorem dL_law_1580 : decode cL_law 1580 = .ok (.iadd, 1) := by decide +kernel
theorem dL_law_1581 : decode cL_law 1581 = .ok (.iaload, 1) := by decide +kernel
theorem dL_law_1582 : decode cL_law 1582 = .ok (.invokevirtual 222, 3) := by decide +kernel
theorem dL_law_1585 : decode cL_law 1585 = .ok (.pop, 1) := by decide +kernel
theorem dL_law_1586 : decode cL_law 1586 = .ok (.aload_n 2, 1) := by decide +kernel
theorem dL_law_1587 : decode cL_law 1587 = .ok (.aload_n 0, 1) := by decide +kernel
theorem dL_law_1588 : decode cL_law 1588 = .ok (.iload_n 3, 1) := by decide +kernel
theorem dL_law_1589 : decode cL_law 1589 = .ok (.iconst 1, 1) := by decide +kernel
theorem dL_law_1590 : decode cL_law 1590 = .ok (.iadd, 1) := by decide +kernel
theorem dL_law_1591 : decode cL_law 1591 = .ok (.iaload, 1) := by decide +kernel
theorem dL_law_1592 : decode cL_law 1592 = .ok (.aload_n 0, 1) := by decide +kernel
theorem dL_law_1593 : decode cL_law 1593 = .ok (.iload_n 3, 1) := by decide +kernel
theorem dL_law_1594 : decode cL_law 1594 = .ok (.iconst 2, 1) := by decide +kernel
theorem dL_law_1595 : decode cL_law 1595 = .ok (.iadd, 1) := by decide +kernel
theorem dL_law_1596 : decode cL_law 1596 = .ok (.iaload, 1) := by decide +kernel
theorem dL_law_1597 : decode cL_law 1597 = .ok (.invokevirtual 225, 3) := by decide +kernel
theorem dL_law_1600 : decode cL_law 1600 = .ok (.pop, 1) := by decide +kernel
theorem dL_law_1601 : decode cL_law 1601 = .ok (.goto 812, 3) := by decide +kernel
theorem dL_law_1604 : decode cL_law 1604 = .ok (.aload_n 1, 1) := by decide +kernel
theorem dL_law_1605 : decode cL_law 1605 = .ok (.aload_n 0, 1) := by decide +kernel
theorem dL_law_1606 : decode cL_law 1606 = .ok (.iload_n 3, 1) := by decide +kernel
theorem dL_law_1607 : decode cL_law 1607 = .ok (.iconst 1, 1) := by decide +kernel
theorem dL_law_1608 : decode cL_law 1608 = .ok (.iadd, 1) := by decide +kernel
theorem dL_law_1609 : decode cL_law 1609 = .ok (.iaload, 1) := by decide +kernel
theorem dL_law_1610 : decode cL_law 1610 = .ok (.aload_n 0, 1) := by decide +kernel
theorem dL_law_1611 : decode cL_law 1611 = .ok (.iload_n 3, 1) := by decide +kernel
theorem dL_law_1612 : decode cL_law 1612 = .ok (.iconst 2, 1) := by decide +kernel
theorem dL_law_1613 : decode cL_law 1613 = .ok (.iadd, 1) := by decide +kernel
theorem dL_law_1614 : decode cL_law 1614 = .ok (.iaload, 1) := by decide +kernel
theorem dL_law_1615 : decode cL_law 1615 = .ok (.invokevirtual 226, 3) := by decide +kernel
theorem dL_law_1618 : decode cL_law 1618 = .ok (.pop, 1) := by decide +kernel
theorem dL_law_1619 : decode cL_law 1619 = .ok (.aload_n 2, 1) := by decide +kernel
theorem dL_law_1620 : decode cL_law 1620 = .ok (.aload_n 0, 1) := by decide +kernel
theorem dL_law_1621 : decode cL_law 1621 = .ok (.iload_n 3, 1) := by decide +kernel
theorem dL_law_1622 : decode cL_law 1622 = .ok (.iconst 1, 1) := by decide +kernel
theorem dL_law_1623 : decode cL_law 1623 = .ok (.iadd, 1) := by decide +kernel
theorem dL_law_1624 : decode cL_law 1624 = .ok (.iaload, 1) := by decide +kernel
theorem dL_law_1625 : decode cL_law 1625 = .ok (.aload_n 0, 1) := by decide +kernel
theorem dL_law_1626 : decode cL_law 1626 = .ok (.iload_n 3, 1) := by decide +kernel
theorem dL_law_1627 : decode cL_law 1627 = .ok (.iconst 2, 1) := by decide +kernel
theorem dL_law_1628 : decode cL_law 1628 = .ok (.iadd, 1) := by decide +kernel
theorem dL_law_1629 : decode cL_law 1629 = .ok (.iaload, 1) := by decide +kernel
theorem dL_law_1630 : decode cL_law 1630 = .ok (.invokevirtual 229, 3) := by decide +kernel
theorem dL_law_1633 : decode cL_law 1633 = .ok (.pop, 1) := by decide +kernel
theorem dL_law_1634 : decode cL_law 1634 = .ok (.goto 779, 3) := by decide +kernel
theorem dL_law_1637 : decode cL_law 1637 = .ok (.aload_n 1, 1) := by decide +kernel
theorem dL_law_1638 : decode cL_law 1638 = .ok (.aload_n 0, 1) := by decide +kernel
theorem dL_law_1639 : decode cL_law 1639 = .ok (.iload_n 3, 1) := by decide +kernel
theorem dL_law_1640 : decode cL_law 1640 = .ok (.iconst 1, 1) := by decide +kernel
theorem dL_law_1641 : decode cL_law 1641 = .ok (.iadd, 1) := by decide +kernel
theorem dL_law_1642 : decode cL_law 1642 = .ok (.iaload, 1) := by decide +kernel
theorem dL_law_1643 : decode cL_law 1643 = .ok (.aload_n 0, 1) := by decide +kernel
theorem dL_law_1644 : decode cL_law 1644 = .ok (.iload_n 3, 1) := by decide +kernel
theorem dL_law_1645 : decode cL_law 1645 = .ok (.iconst 2, 1) := by decide +kernel
theorem dL_law_1646 : decode cL_law 1646 = .ok (.iadd, 1) := by decide +kernel
theorem dL_law_1647 : decode cL_law 1647 = .ok (.iaload, 1) := by decide +kernel
theorem dL_law_1648 : decode cL_law 1648 = .ok (.invokevirtual 230, 3) := by decide +kernel
theorem dL_law_1651 : decode cL_law 1651 = .ok (.pop, 1) := by decide +kernel
theorem dL_law_1652 : decode cL_law 1652 = .ok (.aload_n 2, 1) := by decide +kernel
theorem dL_law_1653 : decode cL_law 1653 = .ok (.aload_n 0, 1) := by decide +kernel
theorem dL_law_1654 : decode cL_law 1654 = .ok (.iload_n 3, 1) := by decide +kernel
theorem dL_law_1655 : decode cL_law 1655 = .ok (.iconst 1, 1) := by decide +kernel
theorem dL_law_1656 : decode cL_law 1656 = .ok (.iadd, 1) := by decide +kernel
theorem dL_law_1657 : decode cL_law 1657 = .ok (.iaload, 1) := by decide +kernel
theorem dL_law_1658 : decode cL_law 1658 = .ok (.aload_n 0, 1) := by decide +kernel
theorem dL_law_1659 : decode cL_law 1659 = .ok (.iload_n 3, 1) := by decide +kernel
theorem dL_law_1660 : decode cL_law 1660 = .ok (.iconst 2, 1) := by decide +kernel
theorem dL_law_1661 : decode cL_law 1661 = .ok (.iadd, 1) := by decide +kernel
theorem dL_law_1662 : decode cL_law 1662 = .ok (.iaload, 1) := by decide +kernel
theorem dL_law_1663 : decode cL_law 1663 = .ok (.invokevirtual 233, 3) := by decide +kernel
theorem dL_law_1666 : decode cL_law 1666 = .ok (.pop, 1) := by decide +kernel
theorem dL_law_1667 : decode cL_law 1667 = .ok (.goto 746, 3) := by decide +kernel
theorem dL_law_1670 : decode cL_law 1670 = .ok (.aload_n 1, 1) := by decide +kernel
theorem dL_law_1671 : decode cL_law 1671 = .ok (.aload_n 0, 1) := by decide +kernel
theorem dL_law_1672 : decode cL_law 1672 = .ok (.iload_n 3, 1) := by decide +kernel
theorem dL_law_1673 : decode cL_law 1673 = .ok (.iconst 1, 1) := by decide +kernel
theorem dL_law_1674 : decode cL_law 1674 = .ok (.iadd, 1) := by decide +kernel
theorem dL_law_1675 : decode cL_law 1675 = .ok (.iaload, 1) := by decide +kernel
theorem dL_law_1676 : decode cL_law 1676 = .ok (.aload_n 0, 1) := by decide +kernel
theorem dL_law_1677 : decode cL_law 1677 = .ok (.iload_n 3, 1) := by decide +kernel
theorem dL_law_1678 : decode cL_law 1678 = .ok (.iconst 2, 1) := by decide +kernel
theorem dL_law_1679 : decode cL_law 1679 = .ok (.iadd, 1) := by decide +kernel
theorem dL_law_1680 : decode cL_law 1680 = .ok (.iaload, 1) := by decide +kernel
theorem dL_law_1681 : decode cL_law 1681 = .ok (.invokevirtual 234, 3) := by decide +kernel
theorem dL_law_1684 : decode cL_law 1684 = .ok (.pop, 1) := by decide +kernel
theorem dL_law_1685 : decode cL_law 1685 = .ok (.aload_n 2, 1) := by decide +kernel
theorem dL_law_1686 : decode cL_law 1686 = .ok (.aload_n 0, 1) := by decide +kernel
theorem dL_law_1687 : decode cL_law 1687 = .ok (.iload_n 3, 1) := by decide +kernel
theorem dL_law_1688 : decode cL_law 1688 = .ok (.iconst 1, 1) := by decide +kernel
theorem dL_law_1689 : decode cL_law 1689 = .ok (.iadd, 1) := by decide +kernel
theorem dL_law_1690 : decode cL_law 1690 = .ok (.iaload, 1) := by decide +kernel
theorem dL_law_1691 : decode cL_law 1691 = .ok (.aload_n 0, 1) := by decide +kernel
theorem dL_law_1692 : decode cL_law 1692 = .ok (.iload_n 3, 1) := by decide +kernel
theorem dL_law_1693 : decode cL_law 1693 = .ok (.iconst 2, 1) := by decide +kernel
theorem dL_law_1694 : decode cL_law 1694 = .ok (.iadd, 1) := by decide +kernel
theorem dL_law_1695 : decode cL_law 1695 = .ok (.iaload, 1) := by decide +kernel
theorem dL_law_1696 : decode cL_law 1696 = .ok (.invokevirtual 237, 3) := by decide +kernel
theorem dL_law_1699 : decode cL_law 1699 = .ok (.pop, 1) := by decide +kernel
theorem dL_law_1700 : decode cL_law 1700 = .ok (.goto 713, 3) := by decide +kernel
theorem dL_law_1703 : decode cL_law 1703 = .ok (.aload_n 1, 1) := by decide +kernel
theorem dL_law_1704 : decode cL_law 1704 = .ok (.aload_n 0, 1) := by decide +kernel
theorem dL_law_1705 : decode cL_law 1705 = .ok (.iload_n 3, 1) := by decide +kernel
theorem dL_law_1706 : decode cL_law 1706 = .ok (.iconst 1, 1) := by decide +kernel
theorem dL_law_1707 : decode cL_law 1707 = .ok (.iadd, 1) := by decide +kernel
theorem dL_law_1708 : decode cL_law 1708 = .ok (.iaload, 1) := by decide +kernel
theorem dL_law_1709 : decode cL_law 1709 = .ok (.invokevirtual 238, 3) := by decide +kernel
theorem dL_law_1712 : decode cL_law 1712 = .ok (.pop, 1) := by decide +kernel
theorem dL_law_1713 : decode cL_law 1713 = .ok (.aload_n 2, 1) := by decide +kernel
theorem dL_law_1714 : decode cL_law 1714 = .ok (.aload_n 0, 1) := by decide +kernel
theorem dL_law_1715 : decode cL_law 1715 = .ok (.iload_n 3, 1) := by decide +kernel
theorem dL_law_1716 : decode cL_law 1716 = .ok (.iconst 1, 1) := by decide +kernel
theorem dL_law_1717 : decode cL_law 1717 = .ok (.iadd, 1) := by decide +kernel
theorem dL_law_1718 : decode cL_law 1718 = .ok (.iaload, 1) := by decide +kernel
theorem dL_law_1719 : decode cL_law 1719 = .ok (.invokevirtual 241, 3) := by decide +kernel
theorem dL_law_1722 : decode cL_law 1722 = .ok (.pop, 1) := by decide +kernel
theorem dL_law_1723 : decode cL_law 1723 = .ok (.goto 690, 3) := by decide +kernel
theorem dL_law_1726 : decode cL_law 1726 = .ok (.aload_n 1, 1) := by decide +kernel
theorem dL_law_1727 : decode cL_law 1727 = .ok (.aload_n 0, 1) := by decide +kernel
theorem dL_law_1728 : decode cL_law 1728 = .ok (.iload_n 3, 1) := by decide +kernel
theorem dL_law_1729 : decode cL_law 1729 = .ok (.iconst 1, 1) := by decide +kernel
theorem dL_law_1730 : decode cL_law 1730 = .ok (.iadd, 1) := by decide +kernel
theorem dL_law_1731 : decode cL_law 1731 = .ok (.iaload, 1) := by decide +kernel
theorem dL_law_1732 : decode cL_law 1732 = .ok (.invokevirtual 242, 3) := by decide +kernel
theorem dL_law_1735 : decode cL_law 1735 = .ok (.pop, 1) := by decide +kernel
theorem dL_law_1736 : decode cL_law 1736 = .ok (.aload_n 2, 1) := by decide +kernel
theorem dL_law_1737 : decode cL_law 1737 = .ok (.aload_n 0, 1) := by decide +kernel
theorem dL_law_1738 : decode cL_law 1738 = .ok (.iload_n 3, 1) := by decide +kernel
theorem dL_law_1739 : decode cL_law 1739 = .ok (.iconst 1, 1) := by decide +kernel
theorem dL_law_1740 : decode cL_law 1740 = .ok (.iadd, 1) := by decide +kernel
theorem dL_law_1741 : decode cL_law 1741 = .ok (.iaload, 1) := by decide +kernel
theorem dL_law_1742 : decode cL_law 1742 = .ok (.invokevirtual 245, 3) := by decide +kernel
theorem dL_law_1745 : decode cL_law 1745 = .ok (.pop, 1) := by decide +kernel
theorem dL_law_1746 : decode cL_law 1746 = .ok (.goto 667, 3) := by decide +kernel
theorem dL_law_1749 : decode cL_law 1749 = .ok (.aload_n 1, 1) := by decide +kernel
theorem dL_law_1750 : decode cL_law 1750 = .ok (.aload_n 0, 1) := by decide +kernel
theorem dL_law_1751 : decode cL_law 1751 = .ok (.iload_n 3, 1) := by decide +kernel
theorem dL_law_1752 : decode cL_law 1752 = .ok (.iconst 1, 1) := by decide +kernel
theorem dL_law_1753 : decode cL_law 1753 = .ok (.iadd, 1) := by decide +kernel
theorem dL_law_1754 : decode cL_law 1754 = .ok (.iaload, 1) := by decide +kernel
theorem dL_law_1755 : decode cL_law 1755 = .ok (.aload_n 0, 1) := by decide +kernel
theorem dL_law_1756 : decode cL_law 1756 = .ok (.iload_n 3, 1) := by decide +kernel
theorem dL_law_1757 : decode cL_law 1757 = .ok (.iconst 2, 1) := by decide +kernel
theorem dL_law_1758 : decode cL_law 1758 = .ok (.iadd, 1) := by decide +kernel
theorem dL_law_1759 : decode cL_law 1759 = .ok (.iaload, 1) := by decide +kernel
theorem dL_law_1760 : decode cL_law 1760 = .ok (.invokevirtual 246, 3) := by decide +kernel
theorem dL_law_1763 : decode cL_law 1763 = .ok (.pop, 1) := by decide +kernel
theorem dL_law_1764 : decode cL_law 1764 = .ok (.aload_n 2, 1) := by decide +kernel
theorem dL_law_1765 : decode cL_law 1765 = .ok (.aload_n 0, 1) := by decide +kernel
theorem dL_law_1766 : decode cL_law 1766 = .ok (.iload_n 3, 1) := by decide +kernel
theorem dL_law_1767 : decode cL_law 1767 = .ok (.iconst 1, 1) := by decide +kernel
theorem dL_law_1768 : decode cL_law 1768 = .ok (.iadd, 1) := by decide +kernel
theorem dL_law_1769 : decode cL_law 1769 = .ok (.iaload, 1) := by decide +kernel
theorem dL_law_1770 : decode cL_law 1770 = .ok (.aload_n 0, 1) := by decide +kernel
theorem dL_law_1771 : decode cL_law 1771 = .ok (.iload_n 3, 1) := by decide +kernel
theorem dL_law_1772 : decode cL_law 1772 = .ok (.iconst 2, 1) := by decide +kernel
theorem dL_law_1773 : decode cL_law 1773 = .ok (.iadd, 1) := by decide +kernel
theorem dL_law_1774 : decode cL_law 1774 = .ok (.iaload, 1) := by decide +kernel
theorem dL_law_1775 : decode cL_law 1775 = .ok (.invokevirtual 249, 3) := by decide +kernel
theorem dL_law_1778 : decode cL_law 1778 = .ok (.pop, 1) := by decide +kernel
theorem dL_law_1779 : decode cL_law 1779 = .ok (.goto 634, 3) := by decide +kernel
theorem dL_law_1782 : decode cL_law 1782 = .ok (.aload_n 1, 1) := by decide +kernel
theorem dL_law_1783 : decode cL_law 1783 = .ok (.aload_n 0, 1) := by decide +kernel
theorem dL_law_1784 : decode cL_law 1784 = .ok (.iload_n 3, 1) := by decide +kernel
theorem dL_law_1785 : decode cL_law 1785 = .ok (.iconst 1, 1) := by decide +kernel
theorem dL_law_1786 : decode cL_law 1786 = .ok (.iadd, 1) := by decide +kernel
theorem dL_law_1787 : decode cL_law 1787 = .ok (.iaload, 1) := by decide +kernel
theorem dL_law_1788 : decode cL_law 1788 = .ok (.aload_n 0, 1) := by decide +kernel
theorem dL_law_1789 : decode cL_law 1789 = .ok (.iload_n 3, 1) := by decide +kernel
theorem dL_law_1790 : decode cL_law 1790 = .ok (.iconst 2, 1) := by decide +kernel
theorem dL_law_1791 : decode cL_law 1791 = .ok (.iadd, 1) := by decide +kernel
theorem dL_law_1792 : decode cL_law 1792 = .ok (.iaload, 1) := by decide +kernel
theorem dL_law_1793 : decode cL_law 1793 = .ok (.invokevirtual 250, 3) := by decide +kernel
theorem dL_law_1796 : decode cL_law 1796 = .ok (.pop, 1) := by decide +kernel
theorem dL_law_1797 : decode cL_law 1797 = .ok (.aload_n 2, 1) := by decide +kernel
theorem dL_law_1798 : decode cL_law 1798 = .ok (.aload_n 0, 1) := by decide +kernel
theorem dL_law_1799 : decode cL_law 1799 = .ok (.iload_n 3, 1) := by decide +kernel
theorem dL_law_1800 : decode cL_law 1800 = .ok (.iconst 1, 1) := by decide +kernel
theorem dL_law_1801 : decode cL_law 1801 = .ok (.iadd, 1) := by decide +kernel
theorem dL_law_1802 : decode cL_law 1802 = .ok (.iaload, 1) := by decide +kernel
theorem dL_law_1803 : decode cL_law 1803 = .ok (.aload_n 0, 1) := by decide +kernel
theorem dL_law_1804 : decode cL_law 1804 = .ok (.iload_n 3, 1) := by decide +kernel
theorem dL_law_1805 : decode cL_law 1805 = .ok (.iconst 2, 1) := by decide +kernel
theorem dL_law_1806 : decode cL_law 1806 = .ok (.iadd, 1) := by decide +kernel
theorem dL_law_1807 : decode cL_law 1807 = .ok (.iaload, 1) := by decide +kernel
theorem dL_law_1808 : decode cL_law 1808 = .ok (.invokevirtual 253, 3) := by decide +kernel
theorem dL_law_1811 : decode cL_law 1811 = .ok (.pop, 1) := by decide +kernel
theorem dL_law_1812 : decode cL_law 1812 = .ok (.goto 601, 3) := by decide +kernel
theorem dL_law_1815 : decode cL_law 1815 = .ok (.aload_n 1, 1) := by decide +kernel
theorem dL_law_1816 : decode cL_law 1816 = .ok (.aload_n 0, 1) := by decide +kernel
theorem dL_law_1817 : decode cL_law 1817 = .ok (.iload_n 3, 1) := by decide +kernel
theorem dL_law_1818 : decode cL_law 1818 = .ok (.iconst 1, 1) := by decide +kernel
theorem dL_law_1819 : decode cL_law 1819 = .ok (.iadd, 1) := by decide +kernel
theorem dL_law_1820 : decode cL_law 1820 = .ok (.iaload, 1) := by decide +kernel
theorem dL_law_1821 : decode cL_law 1821 = .ok (.aload_n 0, 1) := by decide +kernel
theorem dL_law_1822 : decode cL_law 1822 = .ok (.iload_n 3, 1) := by decide +kernel
theorem dL_law_1823 : decode cL_law 1823 = .ok (.iconst 2, 1) := by decide +kernel
theorem dL_law_1824 : decode cL_law 1824 = .ok (.iadd, 1) := by decide +kernel
theorem dL_law_1825 : decode cL_law 1825 = .ok (.iaload, 1) := by decide +kernel
theorem dL_law_1826 : decode cL_law 1826 = .ok (.aload_n 0, 1) := by decide +kernel
theorem dL_law_1827 : decode cL_law 1827 = .ok (.iload_n 3, 1) := by decide +kernel
theorem dL_law_1828 : decode cL_law 1828 = .ok (.iconst 3, 1) := by decide +kernel
theorem dL_law_1829 : decode cL_law 1829 = .ok (.iadd, 1) := by decide +kernel
theorem dL_law_1830 : decode cL_law 1830 = .ok (.iaload, 1) := by decide +kernel
theorem dL_law_1831 : decode cL_law 1831 = .ok (.aload_n 0, 1) := by decide +kernel
theorem dL_law_1832 : decode cL_law 1832 = .ok (.iload_n 3, 1) := by decide +kernel
theorem dL_law_1833 : decode cL_law 1833 = .ok (.iconst 4, 1) := by decide +kernel
theorem dL_law_1834 : decode cL_law 1834 = .ok (.iadd, 1) := by decide +kernel
theorem dL_law_1835 : decode cL_law 1835 = .ok (.iaload, 1) := by decide +kernel
theorem dL_law_1836 : decode cL_law 1836 = .ok (.invokevirtual 254, 3) := by decide +kernel
theorem dL_law_1839 : decode cL_law 1839 = .ok (.pop, 1) := by decide +kernel
theorem dL_law_1840 : decode cL_law 1840 = .ok (.aload_n 2, 1) := by decide +kernel
theorem dL_law_1841 : decode cL_law 1841 = .ok (.aload_n 0, 1) := by decide +kernel
theorem dL_law_1842 : decode cL_law 1842 = .ok (.iload_n 3, 1) := by decide +kernel
theorem dL_law_1843 : decode cL_law 1843 = .ok (.iconst 1, 1) := by decide +kernel
theorem dL_law_1844 : decode cL_law 1844 = .ok (.iadd, 1) := by decide +kernel
theorem dL_law_1845 : decode cL_law 1845 = .ok (.iaload, 1) := by decide +kernel
theorem dL_law_1846 : decode cL_law 1846 = .ok (.aload_n 0, 1) := by decide +kernel
theorem dL_law_1847 : decode cL_law 1847 = .ok (.iload_n 3, 1) := by decide +kernel
theorem dL_law_1848 : decode cL_law 1848 = .ok (.iconst 2, 1) := by decide +kernel
theorem dL_law_1849 : decode cL_law 1849 = .ok (.iadd, 1) := by decide +kernel
theorem dL_law_1850 : decode cL_law 1850 = .ok (.iaload, 1) := by decide +kernel
theorem dL_law_1851 : decode cL_law 1851 = .ok (.aload_n 0, 1) := by decide +kernel
theorem dL_law_1852 : decode cL_law 1852 = .ok (.iload_n 3, 1) := by decide +kernel
theorem dL_law_1853 : decode cL_law 1853 = .ok (.iconst 3, 1) := by decide +kernel
theorem dL_law_1854 : decode cL_law 1854 = .ok (.iadd, 1) := by decide +kernel
theorem dL_law_1855 : decode cL_law 1855 = .ok (.iaload, 1) := by decide +kernel
theorem dL_law_1856 : decode cL_law 1856 = .ok (.aload_n 0, 1) := by decide +kernel
theorem dL_law_1857 : decode cL_law 1857 = .ok (.iload_n 3, 1) := by decide +kernel
theorem dL_law_1858 : decode cL_law 1858 = .ok (.iconst 4, 1) := by decide +kernel
theorem dL_law_1859 : decode cL_law 1859 = .ok (.iadd, 1) := by decide +kernel
theorem dL_law_1860 : decode cL_law 1860 = .ok (.iaload, 1) := by decide +kernel
theorem dL_law_1861 : decode cL_law 1861 = .ok (.invokevirtual 258, 3) := by decide +kernel
theorem dL_law_1864 : decode cL_law 1864 = .ok (.pop, 1) := by decide +kernel
theorem dL_law_1865 : decode cL_law 1865 = .ok (.goto 548, 3) := by decide +kernel
theorem dL_law_1868 : decode cL_law 1868 = .ok (.aload_n 1, 1) := by decide +kernel
theorem dL_law_1869 : decode cL_law 1869 = .ok (.aload_n 0, 1) := by decide +kernel
theorem dL_law_1870 : decode cL_law 1870 = .ok (.iload_n 3, 1) := by decide +kernel
theorem dL_law_1871 : decode cL_law 1871 = .ok (.iconst 1, 1) := by decide +kernel
theorem dL_law_1872 : decode cL_law 1872 = .ok (.iadd, 1) := by decide +kernel
theorem dL_law_1873 : decode cL_law 1873 = .ok (.iaload, 1) := by decide +kernel
theorem dL_law_1874 : decode cL_law 1874 = .ok (.aload_n 0, 1) := by decide +kernel
theorem dL_law_1875 : decode cL_law 1875 = .ok (.iload_n 3, 1) := by decide +kernel
theorem dL_law_1876 : decode cL_law 1876 = .ok (.iconst 2, 1) := by decide +kernel
theorem dL_law_1877 : decode cL_law 1877 = .ok (.iadd, 1) := by decide +kernel
theorem dL_law_1878 : decode cL_law 1878 = .ok (.iaload, 1) := by decide +kernel
theorem dL_law_1879 : decode cL_law 1879 = .ok (.aload_n 0, 1) := by decide +kernel
theorem dL_law_1880 : decode cL_law 1880 = .ok (.iload_n 3, 1) := by decide +kernel
theorem dL_law_1881 : decode cL_law 1881 = .ok (.iconst 3, 1) := by decide +kernel
theorem dL_law_1882 : decode cL_law 1882 = .ok (.iadd, 1) := by decide +kernel
theorem dL_law_1883 : decode cL_law 1883 = .ok (.iaload, 1) := by decide +kernel
theorem dL_law_1884 : decode cL_law 1884 = .ok (.aload_n 0, 1) := by decide +kernel
theorem dL_law_1885 : decode cL_law 1885 = .ok (.iload_n 3, 1) := by decide +kernel
theorem dL_law_1886 : decode cL_law 1886 = .ok (.iconst 4, 1) := by decide +kernel
theorem dL_law_1887 : decode cL_law 1887 = .ok (.iadd, 1) := by decide +kernel
theorem dL_law_1888 : decode cL_law 1888 = .ok (.iaload, 1) := by decide +kernel
theorem dL_law_1889 : decode cL_law 1889 = .ok (.invokevirtual 259, 3) := by decide +kernel
theorem dL_law_1892 : decode cL_law 1892 = .ok (.pop2, 1) := by decide +kernel
theorem dL_law_1893 : decode cL_law 1893 = .ok (.aload_n 2, 1) := by decide +kernel
theorem dL_law_1894 : decode cL_law 1894 = .ok (.aload_n 0, 1) := by decide +kernel
theorem dL_law_1895 : decode cL_law 1895 = .ok (.iload_n 3, 1) := by decide +kernel
theorem dL_law_1896 : decode cL_law 1896 = .ok (.iconst 1, 1) := by decide +kernel
theorem dL_law_1897 : decode cL_law 1897 = .ok (.iadd, 1) := by decide +kernel
theorem dL_law_1898 : decode cL_law 1898 = .ok (.iaload, 1) := by decide +kernel
theorem dL_law_1899 : decode cL_law 1899 = .ok (.aload_n 0, 1) := by decide +kernel
theorem dL_law_1900 : decode cL_law 1900 = .ok (.iload_n 3, 1) := by decide +kernel
theorem dL_law_1901 : decode cL_law 1901 = .ok (.iconst 2, 1) := by decide +kernel
theorem dL_law_1902 : decode cL_law 1902 = .ok (.iadd, 1) := by decide +kernel
theorem dL_law_1903 : decode cL_law 1903 = .ok (.iaload, 1) := by decide +kernel
theorem dL_law_1904 : decode cL_law 1904 = .ok (.aload_n 0, 1) := by decide +kernel
theorem dL_law_1905 : decode cL_law 1905 = .ok (.iload_n 3, 1) := by decide +kernel
theorem dL_law_1906 : decode cL_law 1906 = .ok (.iconst 3, 1) := by decide +kernel
theorem dL_law_1907 : decode cL_law 1907 = .ok (.iadd, 1) := by decide +kernel
theorem dL_law_1908 : decode cL_law 1908 = .ok (.iaload, 1) := by decide +kernel
theorem dL_law_1909 : decode cL_law 1909 = .ok (.aload_n 0, 1) := by decide +kernel
theorem dL_law_1910 : decode cL_law 1910 = .ok (.iload_n 3, 1) := by decide +kernel
theorem dL_law_1911 : decode cL_law 1911 = .ok (.iconst 4, 1) := by decide +kernel
theorem dL_law_1912 : decode cL_law 1912 = .ok (.iadd, 1) := by decide +kernel
theorem dL_law_1913 : decode cL_law 1913 = .ok (.iaload, 1) := by decide +kernel
theorem dL_law_1914 : decode cL_law 1914 = .ok (.invokevirtual 263, 3) := by decide +kernel
theorem dL_law_1917 : decode cL_law 1917 = .ok (.pop2, 1) := by decide +kernel
theorem dL_law_1918 : decode cL_law 1918 = .ok (.goto 495, 3) := by decide +kernel
theorem dL_law_1921 : decode cL_law 1921 = .ok (.aload_n 1, 1) := by decide +kernel
theorem dL_law_1922 : decode cL_law 1922 = .ok (.aload_n 0, 1) := by decide +kernel
theorem dL_law_1923 : decode cL_law 1923 = .ok (.iload_n 3, 1) := by decide +kernel
theorem dL_law_1924 : decode cL_law 1924 = .ok (.iconst 1, 1) := by decide +kernel
theorem dL_law_1925 : decode cL_law 1925 = .ok (.iadd, 1) := by decide +kernel
theorem dL_law_1926 : decode cL_law 1926 = .ok (.iaload, 1) := by decide +kernel
theorem dL_law_1927 : decode cL_law 1927 = .ok (.aload_n 0, 1) := by decide +kernel
theorem dL_law_1928 : decode cL_law 1928 = .ok (.iload_n 3, 1) := by decide +kernel
theorem dL_law_1929 : decode cL_law 1929 = .ok (.iconst 2, 1) := by decide +kernel
theorem dL_law_1930 : decode cL_law 1930 = .ok (.iadd, 1) := by decide +kernel
theorem dL_law_1931 : decode cL_law 1931 = .ok (.iaload, 1) := by decide +kernel
theorem dL_law_1932 : decode cL_law 1932 = .ok (.aload_n 0, 1) := by decide +kernel
theorem dL_law_1933 : decode cL_law 1933 = .ok (.iload_n 3, 1) := by decide +kernel
theorem dL_law_1934 : decode cL_law 1934 = .ok (.iconst 3, 1) := by decide +kernel
theorem dL_law_1935 : decode cL_law 1935 = .ok (.iadd, 1) := by decide +kernel
theorem dL_law_1936 : decode cL_law 1936 = .ok (.iaload, 1) := by decide +kernel
theorem dL_law_1937 : decode cL_law 1937 = .ok (.invokevirtual 264, 3) := by decide +kernel
theorem dL_law_1940 : decode cL_law 1940 = .ok (.pop2, 1) := by decide +kernel
theorem dL_law_1941 : decode cL_law 1941 = .ok (.aload_n 2, 1) := by decide +kernel
theorem dL_law_1942 : decode cL_law 1942 = .ok (.aload_n 0, 1) := by decide +kernel
theorem dL_law_1943 : decode cL_law 1943 = .ok (.iload_n 3, 1) := by decide +kernel
theorem dL_law_1944 : decode cL_law 1944 = .ok (.iconst 1, 1) := by decide +kernel
theorem dL_law_1945 : decode cL_law 1945 = .ok (.iadd, 1) := by decide +kernel
theorem dL_law_1946 : decode cL_law 1946 = .ok (.iaload, 1) := by decide +kernel
theorem dL_law_1947 : decode cL_law 1947 = .ok (.aload_n 0, 1) := by decide +kernel
theorem dL_law_1948 : decode cL_law 1948 = .ok (.iload_n 3, 1) := by decide +kernel
theorem dL_law_1949 : decode cL_law 1949 = .ok (.iconst 2, 1) := by decide +kernel
theorem dL_law_1950 : decode cL_law 1950 = .ok (.iadd, 1) := by decide +kernel
theorem dL_law_1951 : decode cL_law 1951 = .ok (.iaload, 1) := by decide +kernel
theorem dL_law_1952 : decode cL_law 1952 = .ok (.aload_n 0, 1) := by decide +kernel
theorem dL_law_1953 : decode cL_law 1953 = .ok (.iload_n 3, 1) := by decide +kernel
theorem dL_law_1954 : decode cL_law 1954 = .ok (.iconst 3, 1) := by decide +kernel
theorem dL_law_1955 : decode cL_law 1955 = .ok (.iadd, 1) := by decide +kernel
theorem dL_law_1956 : decode cL_law 1956 = .ok (.iaload, 1) := by decide +kernel
theorem dL_law_1957 : decode cL_law 1957 = .ok (.invokevirtual 268, 3) := by decide +kernel
theorem dL_law_1960 : decode cL_law 1960 = .ok (.pop2, 1) := by decide +kernel
theorem dL_law_1961 : decode cL_law 1961 = .ok (.goto 452, 3) := by decide +kernel
theorem dL_law_1964 : decode cL_law 1964 = .ok (.aload_n 1, 1) := by decide +kernel
theorem dL_law_1965 : decode cL_law 1965 = .ok (.aload_n 0, 1) := by decide +kernel
theorem dL_law_1966 : decode cL_law 1966 = .ok (.iload_n 3, 1) := by decide +kernel
theorem dL_law_1967 : decode cL_law 1967 = .ok (.iconst 1, 1) := by decide +kernel
theorem dL_law_1968 : decode cL_law 1968 = .ok (.iadd, 1) := by decide +kernel
theorem dL_law_1969 : decode cL_law 1969 = .ok (.iaload, 1) := by decide +kernel
theorem dL_law_1970 : decode cL_law 1970 = .ok (.aload_n 0, 1) := by decide +kernel
theorem dL_law_1971 : decode cL_law 1971 = .ok (.iload_n 3, 1) := by decide +kernel
theorem dL_law_1972 : decode cL_law 1972 = .ok (.iconst 2, 1) := by decide +kernel
theorem dL_law_1973 : decode cL_law 1973 = .ok (.iadd, 1) := by decide +kernel
theorem dL_law_1974 : decode cL_law 1974 = .ok (.iaload, 1) := by decide +kernel
theorem dL_law_1975 : decode cL_law 1975 = .ok (.invokevirtual 269, 3) := by decide +kernel
theorem dL_law_1978 : decode cL_law 1978 = .ok (.pop, 1) := by decide +kernel
theorem dL_law_1979 : decode cL_law 1979 = .ok (.aload_n 2, 1) := by decide +kernel
theorem dL_law_1980 : decode cL_law 1980 = .ok (.aload_n 0, 1) := by decide +kernel
theorem dL_law_1981 : decode cL_law 1981 = .ok (.iload_n 3, 1) := by decide +kernel
theorem dL_law_1982 : decode cL_law 1982 = .ok (.iconst 1, 1) := by decide +kernel
theorem dL_law_1983 : decode cL_law 1983 = .ok (.iadd, 1) := by decide +kernel
theorem dL_law_1984 : decode cL_law 1984 = .ok (.iaload, 1) := by decide +kernel
theorem dL_law_1985 : decode cL_law 1985 = .ok (.aload_n 0, 1) := by decide +kernel
theorem dL_law_1986 : decode cL_law 1986 = .ok (.iload_n 3, 1) := by decide +kernel
theorem dL_law_1987 : decode cL_law 1987 = .ok (.iconst 2, 1) := by decide +kernel
theorem dL_law_1988 : decode cL_law 1988 = .ok (.iadd, 1) := by decide +kernel
theorem dL_law_1989 : decode cL_law 1989 = .ok (.iaload, 1) := by decide +kernel
theorem dL_law_1990 : decode cL_law 1990 = .ok (.invokevirtual 272, 3) := by decide +kernel
theorem dL_law_1993 : decode cL_law 1993 = .ok (.pop, 1) := by decide +kernel
theorem dL_law_1994 : decode cL_law 1994 = .ok (.goto 419, 3) := by decide +kernel
theorem dL_law_1997 : decode cL_law 1997 = .ok (.aload_n 1, 1) := by decide +kernel
theorem dL_law_1998 : decode cL_law 1998 = .ok (.aload_n 0, 1) := by decide +kernel
theorem dL_law_1999 : decode cL_law 1999 = .ok (.iload_n 3, 1) := by decide +kernel
theorem dL_law_2000 : decode cL_law 2000 = .ok (.iconst 1, 1) := by decide +kernel
theorem dL_law_2001 : decode cL_law 2001 = .ok (.iadd, 1) := by decide +kernel
theorem dL_law_2002 : decode cL_law 2002 = .ok (.iaload, 1) := by decide +kernel
theorem dL_law_2003 : decode cL_law 2003 = .ok (.aload_n 0, 1) := by decide +kernel
theorem dL_law_2004 : decode cL_law 2004 = .ok (.iload_n 3, 1) := by decide +kernel
theorem dL_law_2005 : decode cL_law 2005 = .ok (.iconst 2, 1) := by decide +kernel
theorem dL_law_2006 : decode cL_law 2006 = .ok (.iadd, 1) := by decide +kernel
theorem dL_law_2007 : decode cL_law 2007 = .ok (.iaload, 1) := by decide +kernel
theorem dL_law_2008 : decode cL_law 2008 = .ok (.invokevirtual 273, 3) := by decide +kernel
theorem dL_law_2011 : decode cL_law 2011 = .ok (.pop, 1) := by decide +kernel
theorem dL_law_2012 : decode cL_law 2012 = .ok (.aload_n 2, 1) := by decide +kernel
theorem dL_law_2013 : decode cL_law 2013 = .ok (.aload_n 0, 1) := by decide +kernel
theorem dL_law_2014 : decode cL_law 2014 = .ok (.iload_n 3, 1) := by decide +kernel
theorem dL_law_2015 : decode cL_law 2015 = .ok (.iconst 1, 1) := by decide +kernel
theorem dL_law_2016 : decode cL_law 2016 = .ok (.iadd, 1) := by decide +kernel
theorem dL_law_2017 : decode cL_law 2017 = .ok (.iaload, 1) := by decide +kernel
theorem dL_law_2018 : decode cL_law 2018 = .ok (.aload_n 0, 1) := by decide +kernel
theorem dL_law_2019 : decode cL_law 2019 = .ok (.iload_n 3, 1) := by decide +kernel
theorem dL_law_2020 : decode cL_law 2020 = .ok (.iconst 2, 1) := by decide +kernel
theorem dL_law_2021 : decode cL_law 2021 = .ok (.iadd, 1) := by decide +kernel
theorem dL_law_2022 : decode cL_law 2022 = .ok (.iaload, 1) := by decide +kernel
theorem dL_law_2023 : decode cL_law 2023 = .ok (.invokevirtual 276, 3) := by decide +kernel
theorem dL_law_2026 : decode cL_law 2026 = .ok (.pop, 1) := by decide +kernel
theorem dL_law_2027 : decode cL_law 2027 = .ok (.goto 386, 3) := by decide +kernel
theorem dL_law_2030 : decode cL_law 2030 = .ok (.aload_n 1, 1) := by decide +kernel
theorem dL_law_2031 : decode cL_law 2031 = .ok (.invokevirtual 277, 3) := by decide +kernel
theorem dL_law_2034 : decode cL_law 2034 = .ok (.pop, 1) := by decide +kernel
theorem dL_law_2035 : decode cL_law 2035 = .ok (.aload_n 2, 1) := by decide +kernel
theorem dL_law_2036 : decode cL_law 2036 = .ok (.invokevirtual 280, 3) := by decide +kernel
theorem dL_law_2039 : decode cL_law 2039 = .ok (.pop, 1) := by decide +kernel
theorem dL_law_2040 : decode cL_law 2040 = .ok (.goto 373, 3) := by decide +kernel
theorem dL_law_2043 : decode cL_law 2043 = .ok (.aload_n 1, 1) := by decide +kernel
theorem dL_law_2044 : decode cL_law 2044 = .ok (.invokevirtual 281, 3) := by decide +kernel
theorem dL_law_2047 : decode cL_law 2047 = .ok (.pop, 1) := by decide +kernel
theorem dL_law_2048 : decode cL_law 2048 = .ok (.aload_n 2, 1) := by decide +kernel
theorem dL_law_2049 : decode cL_law 2049 = .ok (.invokevirtual 284, 3) := by decide +kernel
theorem dL_law_2052 : decode cL_law 2052 = .ok (.pop, 1) := by decide +kernel
theorem dL_law_2053 : decode cL_law 2053 = .ok (.goto 360, 3) := by decide +kernel
theorem dL_law_2056 : decode cL_law 2056 = .ok (.aload_n 1, 1) := by decide +kernel
theorem dL_law_2057 : decode cL_law 2057 = .ok (.aload_n 0, 1) := by decide +kernel
theorem dL_law_2058 : decode cL_law 2058 = .ok (.iload_n 3, 1) := by decide +kernel
theorem dL_law_2059 : decode cL_law 2059 = .ok (.iconst 1, 1) := by decide +kernel
theorem dL_law_2060 : decode cL_law 2060 = .ok (.iadd, 1) := by decide +kernel
theorem dL_law_2061 : decode cL_law 2061 = .ok (.iaload, 1) := by decide +kernel
theorem dL_law_2062 : decode cL_law 2062 = .ok (.aload_n 0, 1) := by decide +kernel
theorem dL_law_2063 : decode cL_law 2063 = .ok (.iload_n 3, 1) := by decide +kernel
theorem dL_law_2064 : decode cL_law 2064 = .ok (.iconst 2, 1) := by decide +kernel
theorem dL_law_2065 : decode cL_law 2065 = .ok (.iadd, 1) := by decide +kernel
theorem dL_law_2066 : decode cL_law 2066 = .ok (.iaload, 1) := by decide +kernel
theorem dL_law_2067 : decode cL_law 2067 = .ok (.invokevirtual 285, 3) := by decide +kernel
theorem dL_law_2070 : decode cL_law 2070 = .ok (.pop, 1) := by decide +kernel
theorem dL_law_2071 : decode cL_law 2071 = .ok (.aload_n 2, 1) := by decide +kernel
theorem dL_law_2072 : decode cL_law 2072 = .ok (.aload_n 0, 1) := by decide +kernel
theorem dL_law_2073 : decode cL_law 2073 = .ok (.iload_n 3, 1) := by decide +kernel
theorem dL_law_2074 : decode cL_law 2074 = .ok (.iconst 1, 1) := by decide +kernel
theorem dL_law_2075 : decode cL_law 2075 = .ok (.iadd, 1) := by decide +kernel
theorem dL_law_2076 : decode cL_law 2076 = .ok (.iaload, 1) := by decide +kernel
theorem dL_law_2077 : decode cL_law 2077 = .ok (.aload_n 0, 1) := by decide +kernel
theorem dL_law_2078 : decode cL_law 2078 = .ok (.iload_n 3, 1) := by decide +kernel
theorem dL_law_2079 : decode cL_law 2079 = .ok (.iconst 2, 1) := by decide +kernel
theorem dL_law_2080 : decode cL_law 2080 = .ok (.iadd, 1) := by decide +kernel
theorem dL_law_2081 : decode cL_law 2081 = .ok (.iaload, 1) := by decide +kernel
theorem dL_law_2082 : decode cL_law 2082 = .ok (.invokevirtual 288, 3) := by decide +kernel
theorem dL_law_2085 : decode cL_law 2085 = .ok (.pop, 1) := by decide +kernel
theorem dL_law_2086 : decode cL_law 2086 = .ok (.goto 327, 3) := by decide +kernel
theorem dL_law_2089 : decode cL_law 2089 = .ok (.aload_n 1, 1) := by decide +kernel
theorem dL_law_2090 : decode cL_law 2090 = .ok (.aload_n 0, 1) := by decide +kernel
theorem dL_law_2091 : decode cL_law 2091 = .ok (.iload_n 3, 1) := by decide +kernel
theorem dL_law_2092 : decode cL_law 2092 = .ok (.iconst 1, 1) := by decide +kernel
theorem dL_law_2093 : decode cL_law 2093 = .ok (.iadd, 1) := by decide +kernel
theorem dL_law_2094 : decode cL_law 2094 = .ok (.iaload, 1) := by decide +kernel
theorem dL_law_2095 : decode cL_law 2095 = .ok (.aload_n 0, 1) := by decide +kernel
theorem dL_law_2096 : decode cL_law 2096 = .ok (.iload_n 3, 1) := by decide +kernel
theorem dL_law_2097 : decode cL_law 2097 = .ok (.iconst 2, 1) := by decide +kernel
theorem dL_law_2098 : decode cL_law 2098 = .ok (.iadd, 1) := by decide +kernel
theorem dL_law_2099 : decode cL_law 2099 = .ok (.iaload, 1) := by decide +kernel
theorem dL_law_2100 : decode cL_law 2100 = .ok (.aload_n 0, 1) := by decide +kernel
theorem dL_law_2101 : decode cL_law 2101 = .ok (.iload_n 3, 1) := by decide +kernel
theorem dL_law_2102 : decode cL_law 2102 = .ok (.iconst 3, 1) := by decide +kernel
theorem dL_law_2103 : decode cL_law 2103 = .ok (.iadd, 1) := by decide +kernel
theorem dL_law_2104 : decode cL_law 2104 = .ok (.iaload, 1) := by decide +kernel
theorem dL_law_2105 : decode cL_law 2105 = .ok (.invokevirtual 289, 3) := by decide +kernel
theorem dL_law_2108 : decode cL_law 2108 = .ok (.pop, 1) := by decide +kernel
theorem dL_law_2109 : decode cL_law 2109 = .ok (.aload_n 2, 1) := by decide +kernel
theorem dL_law_2110 : decode cL_law 2110 = .ok (.aload_n 0, 1) := by decide +kernel
theorem dL_law_2111 : decode cL_law 2111 = .ok (.iload_n 3, 1) := by decide +kernel
theorem dL_law_2112 : decode cL_law 2112 = .ok (.iconst 1, 1) := by decide +kernel
theorem dL_law_2113 : decode cL_law 2113 = .ok (.iadd, 1) := by decide +kernel
theorem dL_law_2114 : decode cL_law 2114 = .ok (.iaload, 1) := by decide +kernel
theorem dL_law_2115 : decode cL_law 2115 = .ok (.aload_n 0, 1) := by decide +kernel
theorem dL_law_2116 : decode cL_law 2116 = .ok (.iload_n 3, 1) := by decide +kernel
theorem dL_law_2117 : decode cL_law 2117 = .ok (.iconst 2, 1) := by decide +kernel
theorem dL_law_2118 : decode cL_law 2118 = .ok (.iadd, 1) := by decide +kernel
theorem dL_law_2119 : decode cL_law 2119 = .ok (.iaload, 1) := by decide +kernel
theorem dL_law_2120 : decode cL_law 2120 = .ok (.aload_n 0, 1) := by decide +kernel
theorem dL_law_2121 : decode cL_law 2121 = .ok (.iload_n 3, 1) := by decide +kernel
theorem dL_law_2122 : decode cL_law 2122 = .ok (.iconst 3, 1) := by decide +kernel
theorem dL_law_2123 : decode cL_law 2123 = .ok (.iadd, 1) := by decide +kernel
theorem dL_law_2124 : decode cL_law 2124 = .ok (.iaload, 1) := by decide +kernel
theorem dL_law_2125 : decode cL_law 2125 = .ok (.invokevirtual 292, 3) := by decide +kernel
theorem dL_law_2128 : decode cL_law 2128 = .ok (.pop, 1) := by decide +kernel
theorem dL_law_2129 : decode cL_law 2129 = .ok (.goto 284, 3) := by decide +kernel
theorem dL_law_2132 : decode cL_law 2132 = .ok (.aload_n 1, 1) := by decide +kernel
theorem dL_law_2133 : decode cL_law 2133 = .ok (.aload_n 0, 1) := by decide +kernel
theorem dL_law_2134 : decode cL_law 2134 = .ok (.iload_n 3, 1) := by decide +kernel
theorem dL_law_2135 : decode cL_law 2135 = .ok (.iconst 1, 1) := by decide +kernel
theorem dL_law_2136 : decode cL_law 2136 = .ok (.iadd, 1) := by decide +kernel
theorem dL_law_2137 : decode cL_law 2137 = .ok (.iaload, 1) := by decide +kernel
theorem dL_law_2138 : decode cL_law 2138 = .ok (.aload_n 0, 1) := by decide +kernel
theorem dL_law_2139 : decode cL_law 2139 = .ok (.iload_n 3, 1) := by decide +kernel
theorem dL_law_2140 : decode cL_law 2140 = .ok (.iconst 2, 1) := by decide +kernel
theorem dL_law_2141 : decode cL_law 2141 = .ok (.iadd, 1) := by decide +kernel
theorem dL_law_2142 : decode cL_law 2142 = .ok (.iaload, 1) := by decide +kernel
theorem dL_law_2143 : decode cL_law 2143 = .ok (.invokevirtual 293, 3) := by decide +kernel
theorem dL_law_2146 : decode cL_law 2146 = .ok (.pop, 1) := by decide +kernel
theorem dL_law_2147 : decode cL_law 2147 = .ok (.aload_n 2, 1) := by decide +kernel
theorem dL_law_2148 : decode cL_law 2148 = .ok (.aload_n 0, 1) := by decide +kernel
theorem dL_law_2149 : decode cL_law 2149 = .ok (.iload_n 3, 1) := by decide +kernel
theorem dL_law_2150 : decode cL_law 2150 = .ok (.iconst 1, 1) := by decide +kernel
theorem dL_law_2151 : decode cL_law 2151 = .ok (.iadd, 1) := by decide +kernel
theorem dL_law_2152 : decode cL_law 2152 = .ok (.iaload, 1) := by decide +kernel
theorem dL_law_2153 : decode cL_law 2153 = .ok (.aload_n 0, 1) := by decide +kernel
theorem dL_law_2154 : decode cL_law 2154 = .ok (.iload_n 3, 1) := by decide +kernel
theorem dL_law_2155 : decode cL_law 2155 = .ok (.iconst 2, 1) := by decide +kernel
theorem dL_law_2156 : decode cL_law 2156 = .ok (.iadd, 1) := by decide +kernel
theorem dL_law_2157 : decode cL_law 2157 = .ok (.iaload, 1) := by decide +kernel
theorem dL_law_2158 : decode cL_law 2158 = .ok (.invokevirtual 296, 3) := by decide +kernel
theorem dL_law_2161 : decode cL_law 2161 = .ok (.pop, 1) := by decide +kernel
theorem dL_law_2162 : decode cL_law 2162 = .ok (.goto 251, 3) := by decide +kernel
theorem dL_law_2165 : decode cL_law 2165 = .ok (.aload_n 1, 1) := by decide +kernel
theorem dL_law_2166 : decode cL_law 2166 = .ok (.aload_n 0, 1) := by decide +kernel
theorem dL_law_2167 : decode cL_law 2167 = .ok (.iload_n 3, 1) := by decide +kernel
theorem dL_law_2168 : decode cL_law 2168 = .ok (.iconst 1, 1) := by decide +kernel
theorem dL_law_2169 : decode cL_law 2169 = .ok (.iadd, 1) := by decide +kernel
theorem dL_law_2170 : decode cL_law 2170 = .ok (.iaload, 1) := by decide +kernel
theorem dL_law_2171 : decode cL_law 2171 = .ok (.invokevirtual 297, 3) := by decide +kernel
theorem dL_law_2174 : decode cL_law 2174 = .ok (.pop, 1) := by decide +kernel
theorem dL_law_2175 : decode cL_law 2175 = .ok (.aload_n 2, 1) := by decide +kernel
theorem dL_law_2176 : decode cL_law 2176 = .ok (.aload_n 0, 1) := by decide +kernel
theorem dL_law_2177 : decode cL_law 2177 = .ok (.iload_n 3, 1) := by decide +kernel
theorem dL_law_2178 : decode cL_law 2178 = .ok (.iconst 1, 1) := by decide +kernel
theorem dL_law_2179 : decode cL_law 2179 = .ok (.iadd, 1) := by decide +kernel
theorem dL_law_2180 : decode cL_law 2180 = .ok (.iaload, 1) := by decide +kernel
theorem dL_law_2181 : decode cL_law 2181 = .ok (.invokevirtual 300, 3) := by decide +kernel
theorem dL_law_2184 : decode cL_law 2184 = .ok (.pop, 1) := by decide +kernel
theorem dL_law_2185 : decode cL_law 2185 = .ok (.goto 228, 3) := by decide +kernel
theorem dL_law_2188 : decode cL_law 2188 = .ok (.aload_n 1, 1) := by decide +kernel
theorem dL_law_2189 : decode cL_law 2189 = .ok (.aload_n 0, 1) := by decide +kernel
theorem dL_law_2190 : decode cL_law 2190 = .ok (.iload_n 3, 1) := by decide +kernel
theorem dL_law_2191 : decode cL_law 2191 = .ok (.iconst 1, 1) := by decide +kernel
theorem dL_law_2192 : decode cL_law 2192 = .ok (.iadd, 1) := by decide +kernel
theorem dL_law_2193 : decode cL_law 2193 = .ok (.iaload, 1) := by decide +kernel
theorem dL_law_2194 : decode cL_law 2194 = .ok (.invokevirtual 301, 3) := by decide +kernel
theorem dL_law_2197 : decode cL_law 2197 = .ok (.pop, 1) := by decide +kernel
theorem dL_law_2198 : decode cL_law 2198 = .ok (.aload_n 2, 1) := by decide +kernel
theorem dL_law_2199 : decode cL_law 2199 = .ok (.aload_n 0, 1) := by decide +kernel
theorem dL_law_2200 : decode cL_law 2200 = .ok (.iload_n 3, 1) := by decide +kernel
theorem dL_law_2201 : decode cL_law 2201 = .ok (.iconst 1, 1) := by decide +kernel
theorem dL_law_2202 : decode cL_law 2202 = .ok (.iadd, 1) := by decide +kernel
theorem dL_law_2203 : decode cL_law 2203 = .ok (.iaload, 1) := by decide +kernel
theorem dL_law_2204 : decode cL_law 2204 = .ok (.invokevirtual 304, 3) := by decide +kernel
theorem dL_law_2207 : decode cL_law 2207 = .ok (.pop, 1) := by decide +kernel
theorem dL_law_2208 : decode cL_law 2208 = .ok (.goto 205, 3) := by decide +kernel
theorem dL_law_2211 : decode cL_law 2211 = .ok (.aload_n 1, 1) := by decide +kernel
theorem dL_law_2212 : decode cL_law 2212 = .ok (.aload_n 0, 1) := by decide +kernel
theorem dL_law_2213 : decode cL_law 2213 = .ok (.iload_n 3, 1) := by decide +kernel
theorem dL_law_2214 : decode cL_law 2214 = .ok (.iconst 1, 1) := by decide +kernel
theorem dL_law_2215 : decode cL_law 2215 = .ok (.iadd, 1) := by decide +kernel
theorem dL_law_2216 : decode cL_law 2216 = .ok (.iaload, 1) := by decide +kernel
theorem dL_law_2217 : decode cL_law 2217 = .ok (.invokevirtual 305, 3) := by decide +kernel
theorem dL_law_2220 : decode cL_law 2220 = .ok (.pop, 1) := by decide +kernel
theorem dL_law_2221 : decode cL_law 2221 = .ok (.aload_n 2, 1) := by decide +kernel
theorem dL_law_2222 : decode cL_law 2222 = .ok (.aload_n 0, 1) := by decide +kernel
theorem dL_law_2223 : decode cL_law 2223 = .ok (.iload_n 3, 1) := by decide +kernel
theorem dL_law_2224 : decode cL_law 2224 = .ok (.iconst 1, 1) := by decide +kernel
theorem dL_law_2225 : decode cL_law 2225 = .ok (.iadd, 1) := by decide +kernel
theorem dL_law_2226 : decode cL_law 2226 = .ok (.iaload, 1) := by decide +kernel
theorem dL_law_2227 : decode cL_law 2227 = .ok (.invokevirtual 308, 3) := by decide +kernel
theorem dL_law_2230 : decode cL_law 2230 = .ok (.pop, 1) := by decide +kernel
theorem dL_law_2231 : decode cL_law 2231 = .ok (.goto 182, 3) := by decide +kernel
theorem dL_law_2234 : decode cL_law 2234 = .ok (.aload_n 1, 1) := by decide +kernel
theorem dL_law_2235 : decode cL_law 2235 = .ok (.aload_n 0, 1) := by decide +kernel
theorem dL_law_2236 : decode cL_law 2236 = .ok (.iload_n 3, 1) := by decide +kernel
theorem dL_law_2237 : decode cL_law 2237 = .ok (.iconst 1, 1) := by decide +kernel
theorem dL_law_2238 : decode cL_law 2238 = .ok (.iadd, 1) := by decide +kernel
theorem dL_law_2239 : decode cL_law 2239 = .ok (.iaload, 1) := by decide +kernel
theorem dL_law_2240 : decode cL_law 2240 = .ok (.aload_n 0, 1) := by decide +kernel
theorem dL_law_2241 : decode cL_law 2241 = .ok (.iload_n 3, 1) := by decide +kernel
theorem dL_law_2242 : decode cL_law 2242 = .ok (.iconst 2, 1) := by decide +kernel
theorem dL_law_2243 : decode cL_law 2243 = .ok (.iadd, 1) := by decide +kernel
theorem dL_law_2244 : decode cL_law 2244 = .ok (.iaload, 1) := by decide +kernel
theorem dL_law_2245 : decode cL_law 2245 = .ok (.aload_n 0, 1) := by decide +kernel
theorem dL_law_2246 : decode cL_law 2246 = .ok (.iload_n 3, 1) := by decide +kernel
theorem dL_law_2247 : decode cL_law 2247 = .ok (.iconst 3, 1) := by decide +kernel
theorem dL_law_2248 : decode cL_law 2248 = .ok (.iadd, 1) := by decide +kernel
theorem dL_law_2249 : decode cL_law 2249 = .ok (.iaload, 1) := by decide +kernel
theorem dL_law_2250 : decode cL_law 2250 = .ok (.invokevirtual 309, 3) := by decide +kernel
theorem dL_law_2253 : decode cL_law 2253 = .ok (.pop, 1) := by decide +kernel
theorem dL_law_2254 : decode cL_law 2254 = .ok (.aload_n 2, 1) := by decide +kernel
theorem dL_law_2255 : decode cL_law 2255 = .ok (.aload_n 0, 1) := by decide +kernel
theorem dL_law_2256 : decode cL_law 2256 = .ok (.iload_n 3, 1) := by decide +kernel
theorem dL_law_2257 : decode cL_law 2257 = .ok (.iconst 1, 1) := by decide +kernel
theorem dL_law_2258 : decode cL_law 2258 = .ok (.iadd, 1) := by decide +kernel
theorem dL_law_2259 : decode cL_law 2259 = .ok (.iaload, 1) := by decide +kernel
theorem dL_law_2260 : decode cL_law 2260 = .ok (.aload_n 0, 1) := by decide +kernel
theorem dL_law_2261 : decode cL_law 2261 = .ok (.iload_n 3, 1) := by decide +kernel
theorem dL_law_2262 : decode cL_law 2262 = .ok (.iconst 2, 1) := by decide +kernel
theorem dL_law_2263 : decode cL_law 2263 = .ok (.iadd, 1) := by decide +kernel
theorem dL_law_2264 : decode cL_law 2264 = .ok (.iaload, 1) := by decide +kernel
theorem dL_law_2265 : decode cL_law 2265 = .ok (.aload_n 0, 1) := by decide +kernel
theorem dL_law_2266 : decode cL_law 2266 = .ok (.iload_n 3, 1) := by decide +kernel
theorem dL_law_2267 : decode cL_law 2267 = .ok (.iconst 3, 1) := by decide +kernel
theorem dL_law_2268 : decode cL_law 2268 = .ok (.iadd, 1) := by decide +kernel
theorem dL_law_2269 : decode cL_law 2269 = .ok (.iaload, 1) := by decide +kernel
theorem dL_law_2270 : decode cL_law 2270 = .ok (.invokevirtual 312, 3) := by decide +kernel
theorem dL_law_2273 : decode cL_law 2273 = .ok (.pop, 1) := by decide +kernel
theorem dL_law_2274 : decode cL_law 2274 = .ok (.goto 139, 3) := by decide +kernel
theorem dL_law_2277 : decode cL_law 2277 = .ok (.aload_n 1, 1) := by decide +kernel
theorem dL_law_2278 : decode cL_law 2278 = .ok (.aload_n 0, 1) := by decide +kernel
theorem dL_law_2279 : decode cL_law 2279 = .ok (.iload_n 3, 1) := by decide +kernel
theorem dL_law_2280 : decode cL_law 2280 = .ok (.iconst 1, 1) := by decide +kernel
theorem dL_law_2281 : decode cL_law 2281 = .ok (.iadd, 1) := by decide +kernel
theorem dL_law_2282 : decode cL_law 2282 = .ok (.iaload, 1) := by decide +kernel
theorem dL_law_2283 : decode cL_law 2283 = .ok (.aload_n 0, 1) := by decide +kernel
theorem dL_law_2284 : decode cL_law 2284 = .ok (.iload_n 3, 1) := by decide +kernel
theorem dL_law_2285 : decode cL_law 2285 = .ok (.iconst 2, 1) := by decide +kernel
theorem dL_law_2286 : decode cL_law 2286 = .ok (.iadd, 1) := by decide +kernel
theorem dL_law_2287 : decode cL_law 2287 = .ok (.iaload, 1) := by decide +kernel
theorem dL_law_2288 : decode cL_law 2288 = .ok (.aload_n 0, 1) := by decide +kernel
theorem dL_law_2289 : decode cL_law 2289 = .ok (.iload_n 3, 1) := by decide +kernel
theorem dL_law_2290 : decode cL_law 2290 = .ok (.iconst 3, 1) := by decide +kernel
theorem dL_law_2291 : decode cL_law 2291 = .ok (.iadd, 1) := by decide +kernel
theorem dL_law_2292 : decode cL_law 2292 = .ok (.iaload, 1) := by decide +kernel
theorem dL_law_2293 : decode cL_law 2293 = .ok (.i2l, 1) := by decide +kernel
theorem dL_law_2294 : decode cL_law 2294 = .ok (.bipush 32, 2) := by decide +kernel
theorem dL_law_2296 : decode cL_law 2296 = .ok (.lshl, 1) := by decide +kernel
theorem dL_law_2297 : decode cL_law 2297 = .ok (.aload_n 0, 1) := by decide +kernel
theorem dL_law_2298 : decode cL_law 2298 = .ok (.iload_n 3, 1) := by decide +kernel
theorem dL_law_2299 : decode cL_law 2299 = .ok (.iconst 4, 1) := by decide +kernel
theorem dL_law_2300 : decode cL_law 2300 = .ok (.iadd, 1) := by decide +kernel
theorem dL_law_2301 : decode cL_law 2301 = .ok (.iaload, 1) := by decide +kernel
theorem dL_law_2302 : decode cL_law 2302 = .ok (.i2l, 1) := by decide +kernel
theorem dL_law_2303 : decode cL_law 2303 = .ok (.ldc2_w 313, 3) := by decide +kernel
theorem dL_law_2306 : decode cL_law 2306 = .ok (.land, 1) := by decide +kernel
theorem dL_law_2307 : decode cL_law 2307 = .ok (.lor, 1) := by decide +kernel
theorem dL_law_2308 : decode cL_law 2308 = .ok (.invokevirtual 315, 3) := by decide +kernel
theorem dL_law_2311 : decode cL_law 2311 = .ok (.pop, 1) := by decide +kernel
theorem dL_law_2312 : decode cL_law 2312 = .ok (.aload_n 2, 1) := by decide +kernel
theorem dL_law_2313 : decode cL_law 2313 = .ok (.aload_n 0, 1) := by decide +kernel
theorem dL_law_2314 : decode cL_law 2314 = .ok (.iload_n 3, 1) := by decide +kernel
theorem dL_law_2315 : decode cL_law 2315 = .ok (.iconst 1, 1) := by decide +kernel
theorem dL_law_2316 : decode cL_law 2316 = .ok (.iadd, 1) := by decide +kernel
theorem dL_law_2317 : decode cL_law 2317 = .ok (.iaload, 1) := by decide +kernel
theorem dL_law_2318 : decode cL_law 2318 = .ok (.aload_n 0, 1) := by decide +kernel
theorem dL_law_2319 : decode cL_law 2319 = .ok (.iload_n 3, 1) := by decide +kernel
theorem dL_law_2320 : decode cL_law 2320 = .ok (.iconst 2, 1) := by decide +kernel
theorem dL_law_2321 : decode cL_law 2321 = .ok (.iadd, 1) := by decide +kernel
theorem dL_law_2322 : decode cL_law 2322 = .ok (.iaload, 1) := by decide +kernel
theorem dL_law_2323 : decode cL_law 2323 = .ok (.aload_n 0, 1) := by decide +kernel
theorem dL_law_2324 : decode cL_law 2324 = .ok (.iload_n 3, 1) := by decide +kernel
theorem dL_law_2325 : decode cL_law 2325 = .ok (.iconst 3, 1) := by decide +kernel
theorem dL_law_2326 : decode cL_law 2326 = .ok (.iadd, 1) := by decide +kernel
theorem dL_law_2327 : decode cL_law 2327 = .ok (.iaload, 1) := by decide +kernel
theorem dL_law_2328 : decode cL_law 2328 = .ok (.i2l, 1) := by decide +kernel
theorem dL_law_2329 : decode cL_law 2329 = .ok (.bipush 32, 2) := by decide +kernel
theorem dL_law_2331 : decode cL_law 2331 = .ok (.lshl, 1) := by decide +kernel
theorem dL_law_2332 : decode cL_law 2332 = .ok (.aload_n 0, 1) := by decide +kernel
theorem dL_law_2333 : decode cL_law 2333 = .ok (.iload_n 3, 1) := by decide +kernel
theorem dL_law_2334 : decode cL_law 2334 = .ok (.iconst 4, 1) := by decide +kernel
theorem dL_law_2335 : decode cL_law 2335 = .ok (.iadd, 1) := by decide +kernel
theorem dL_law_2336 : decode cL_law 2336 = .ok (.iaload, 1) := by decide +kernel
theorem dL_law_2337 : decode cL_law 2337 = .ok (.i2l, 1) := by decide +kernel
theorem dL_law_2338 : decode cL_law 2338 = .ok (.ldc2_w 313, 3) := by decide +kernel
theorem dL_law_2341 : decode cL_law 2341 = .ok (.land, 1) := by decide +kernel
theorem dL_law_2342 : decode cL_law 2342 = .ok (.lor, 1) := by decide +kernel
theorem dL_law_2343 : decode cL_law 2343 = .ok (.invokevirtual 319, 3) := by decide +kernel
theorem dL_law_2346 : decode cL_law 2346 = .ok (.pop, 1) := by decide +kernel
theorem dL_law_2347 : decode cL_law 2347 = .ok (.goto 66, 3) := by decide +kernel
theorem dL_law_2350 : decode cL_law 2350 = .ok (.aload_n 1, 1) := by decide +kernel
theorem dL_law_2351 : decode cL_law 2351 = .ok (.aload_n 0, 1) := by decide +kernel
theorem dL_law_2352 : decode cL_law 2352 = .ok (.iload_n 3, 1) := by decide +kernel
theorem dL_law_2353 : decode cL_law 2353 = .ok (.iconst 1, 1) := by decide +kernel
theorem dL_law_2354 : decode cL_law 2354 = .ok (.iadd, 1) := by decide +kernel
theorem dL_law_2355 : decode cL_law 2355 = .ok (.iaload, 1) := by decide +kernel
theorem dL_law_2356 : decode cL_law 2356 = .ok (.aload_n 0, 1) := by decide +kernel
theorem dL_law_2357 : decode cL_law 2357 = .ok (.iload_n 3, 1) := by decide +kernel
theorem dL_law_2358 : decode cL_law 2358 = .ok (.iconst 2, 1) := by decide +kernel
theorem dL_law_2359 : decode cL_law 2359 = .ok (.iadd, 1) := by decide +kernel
theorem dL_law_2360 : decode cL_law 2360 = .ok (.iaload, 1) := by decide +kernel
theorem dL_law_2361 : decode cL_law 2361 = .ok (.aload_n 0, 1) := by decide +kernel
theorem dL_law_2362 : decode cL_law 2362 = .ok (.iload_n 3, 1) := by decide +kernel
theorem dL_law_2363 : decode cL_law 2363 = .ok (.iconst 3, 1) := by decide +kernel
theorem dL_law_2364 : decode cL_law 2364 = .ok (.iadd, 1) := by decide +kernel
theorem dL_law_2365 : decode cL_law 2365 = .ok (.iaload, 1) := by decide +kernel
theorem dL_law_2366 : decode cL_law 2366 = .ok (.aload_n 0, 1) := by decide +kernel
theorem dL_law_2367 : decode cL_law 2367 = .ok (.iload_n 3, 1) := by decide +kernel
theorem dL_law_2368 : decode cL_law 2368 = .ok (.iconst 4, 1) := by decide +kernel
theorem dL_law_2369 : decode cL_law 2369 = .ok (.iadd, 1) := by decide +kernel
theorem dL_law_2370 : decode cL_law 2370 = .ok (.iaload, 1) := by decide +kernel
theorem dL_law_2371 : decode cL_law 2371 = .ok (.aload_n 0, 1) := by decide +kernel
theorem dL_law_2372 : decode cL_law 2372 = .ok (.iload_n 3, 1) := by decide +kernel
theorem dL_law_2373 : decode cL_law 2373 = .ok (.iconst 5, 1) := by decide +kernel
theorem dL_law_2374 : decode cL_law 2374 = .ok (.iadd, 1) := by decide +kernel
theorem dL_law_2375 : decode cL_law 2375 = .ok (.iaload, 1) := by decide +kernel
theorem dL_law_2376 : decode cL_law 2376 = .ok (.invokevirtual 320, 3) := by decide +kernel
theorem dL_law_2379 : decode cL_law 2379 = .ok (.aload_n 2, 1) := by decide +kernel
theorem dL_law_2380 : decode cL_law 2380 = .ok (.aload_n 0, 1) := by decide +kernel
theorem dL_law_2381 : decode cL_law 2381 = .ok (.iload_n 3, 1) := by decide +kernel
theorem dL_law_2382 : decode cL_law 2382 = .ok (.iconst 1, 1) := by decide +kernel
theorem dL_law_2383 : decode cL_law 2383 = .ok (.iadd, 1) := by decide +kernel
theorem dL_law_2384 : decode cL_law 2384 = .ok (.iaload, 1) := by decide +kernel
theorem dL_law_2385 : decode cL_law 2385 = .ok (.aload_n 0, 1) := by decide +kernel
theorem dL_law_2386 : decode cL_law 2386 = .ok (.iload_n 3, 1) := by decide +kernel
theorem dL_law_2387 : decode cL_law 2387 = .ok (.iconst 2, 1) := by decide +kernel
theorem dL_law_2388 : decode cL_law 2388 = .ok (.iadd, 1) := by decide +kernel
theorem dL_law_2389 : decode cL_law 2389 = .ok (.iaload, 1) := by decide +kernel
theorem dL_law_2390 : decode cL_law 2390 = .ok (.aload_n 0, 1) := by decide +kernel
theorem dL_law_2391 : decode cL_law 2391 = .ok (.iload_n 3, 1) := by decide +kernel
theorem dL_law_2392 : decode cL_law 2392 = .ok (.iconst 3, 1) := by decide +kernel
theorem dL_law_2393 : decode cL_law 2393 = .ok (.iadd, 1) := by decide +kernel
theorem dL_law_2394 : decode cL_law 2394 = .ok (.iaload, 1) := by decide +kernel
theorem dL_law_2395 : decode cL_law 2395 = .ok (.aload_n 0, 1) := by decide +kernel
theorem dL_law_2396 : decode cL_law 2396 = .ok (.iload_n 3, 1) := by decide +kernel
theorem dL_law_2397 : decode cL_law 2397 = .ok (.iconst 4, 1) := by decide +kernel
theorem dL_law_2398 : decode cL_law 2398 = .ok (.iadd, 1) := by decide +kernel
theorem dL_law_2399 : decode cL_law 2399 = .ok (.iaload, 1) := by decide +kernel
theorem dL_law_2400 : decode cL_law 2400 = .ok (.aload_n 0, 1) := by decide +kernel
theorem dL_law_2401 : decode cL_law 2401 = .ok (.iload_n 3, 1) := by decide +kernel
theorem dL_law_2402 : decode cL_law 2402 = .ok (.iconst 5, 1) := by decide +kernel
theorem dL_law_2403 : decode cL_law 2403 = .ok (.iadd, 1) := by decide +kernel
theorem dL_law_2404 : decode cL_law 2404 = .ok (.iaload, 1) := by decide +kernel
theorem dL_law_2405 : decode cL_law 2405 = .ok (.invokevirtual 323, 3) := by decide +kernel
theorem dL_law_2408 : decode cL_law 2408 = .ok (.if_icmp .eq 5, 3) := by decide +kernel
theorem dL_law_2411 : decode cL_law 2411 = .ok (.iconst 0, 1) := by decide +kernel
theorem dL_law_2412 : decode cL_law 2412 = .ok (.ireturn, 1) := by decide +kernel
theorem dL_law_2413 : decode cL_law 2413 = .ok (.iinc 3 6, 3) := by decide +kernel
theorem dL_law_2416 : decode cL_law 2416 = .ok (.goto (-2398), 3) := by decide +kernel
theorem dL_law_2419 : decode cL_law 2419 = .ok (.iconst 1, 1) := by decide +kernel
theorem dL_law_2420 : decode cL_law 2420 = .ok (.ireturn, 1) := by decide +kernel
