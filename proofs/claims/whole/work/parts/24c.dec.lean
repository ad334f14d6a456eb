theorem dL_law_1394 : decode cL_law 1394 = .ok (.iload 6, 2) := by decide +kernel
theorem dL_law_1396 : decode cL_law 1396 = .ok (.i2l, 1) := by decide +kernel
theorem dL_law_1397 : decode cL_law 1397 = .ok (.lcmp, 1) := by decide +kernel
theorem dL_law_1398 : decode cL_law 1398 = .ok (.ifCond .eq 5, 3) := by decide +kernel
theorem dL_law_1401 : decode cL_law 1401 = .ok (.iconst 0, 1) := by decide +kernel
theorem dL_law_1402 : decode cL_law 1402 = .ok (.ireturn, 1) := by decide +kernel
theorem dL_law_1403 : decode cL_law 1403 = .ok (.goto 1127, 3) := by decide +kernel
theorem dL_law_1406 : decode cL_law 1406 = .ok (.aload_n 1, 1) := by decide +kernel
theorem dL_law_1407 : decode cL_law 1407 = .ok (.aload_n 0, 1) := by decide +kernel
theorem dL_law_1408 : decode cL_law 1408 = .ok (.iload 4, 2) := by decide +kernel
theorem dL_law_1410 : decode cL_law 1410 = .ok (.iconst 1, 1) := by decide +kernel
theorem dL_law_1411 : decode cL_law 1411 = .ok (.iadd, 1) := by decide +kernel
theorem dL_law_1412 : decode cL_law 1412 = .ok (.iaload, 1) := by decide +kernel
theorem dL_law_1413 : decode cL_law 1413 = .ok (.aload_n 0, 1) := by decide +kernel
theorem dL_law_1414 : decode cL_law 1414 = .ok (.iload 4, 2) := by decide +kernel
theorem dL_law_1416 : decode cL_law 1416 = .ok (.iconst 2, 1) := by decide +kernel
theorem dL_law_1417 : decode cL_law 1417 = .ok (.iadd, 1) := by decide +kernel
theorem dL_law_1418 : decode cL_law 1418 = .ok (.iaload, 1) := by decide +kernel
theorem dL_law_1419 : decode cL_law 1419 = .ok (.aload_n 3, 1) := by decide +kernel
theorem dL_law_1420 : decode cL_law 1420 = .ok (.invokestatic 201, 3) := by decide +kernel
theorem dL_law_1423 : decode cL_law 1423 = .ok (.istore 5, 2) := by decide +kernel
theorem dL_law_1425 : decode cL_law 1425 = .ok (.aload_n 2, 1) := by decide +kernel
theorem dL_law_1426 : decode cL_law 1426 = .ok (.aload_n 0, 1) := by decide +kernel
theorem dL_law_1427 : decode cL_law 1427 = .ok (.iload 4, 2) := by decide +kernel
theorem dL_law_1429 : decode cL_law 1429 = .ok (.iconst 1, 1) := by decide +kernel
theorem dL_law_1430 : decode cL_law 1430 = .ok (.iadd, 1) := by decide +kernel
theorem dL_law_1431 : decode cL_law 1431 = .ok (.iaload, 1) := by decide +kernel
theorem dL_law_1432 : decode cL_law 1432 = .ok (.aload_n 0, 1) := by decide +kernel
theorem dL_law_1433 : decode cL_law 1433 = .ok (.iload 4, 2) := by decide +kernel
theorem dL_law_1435 : decode cL_law 1435 = .ok (.iconst 2, 1) := by decide +kernel
theorem dL_law_1436 : decode cL_law 1436 = .ok (.iadd, 1) := by decide +kernel
theorem dL_law_1437 : decode cL_law 1437 = .ok (.iaload, 1) := by decide +kernel
theorem dL_law_1438 : decode cL_law 1438 = .ok (.invokevirtual 203, 3) := by decide +kernel
theorem dL_law_1441 : decode cL_law 1441 = .ok (.istore 6, 2) := by decide +kernel
theorem dL_law_1443 : decode cL_law 1443 = .ok (.aload_n 2, 1) := by decide +kernel
theorem dL_law_1444 : decode cL_law 1444 = .ok (.invokevirtual 135, 3) := by decide +kernel
theorem dL_law_1447 : decode cL_law 1447 = .ok (.iload 5, 2) := by decide +kernel
theorem dL_law_1449 : decode cL_law 1449 = .ok (.if_icmp .eq 5, 3) := by decide +kernel
theorem dL_law_1452 : decode cL_law 1452 = .ok (.iconst 0, 1) := by decide +kernel
theorem dL_law_1453 : decode cL_law 1453 = .ok (.ireturn, 1) := by decide +kernel
theorem dL_law_1454 : decode cL_law 1454 = .ok (.iload 5, 2) := by decide +kernel
theorem dL_law_1456 : decode cL_law 1456 = .ok (.ifCond .ne 15, 3) := by decide +kernel
theorem dL_law_1459 : decode cL_law 1459 = .ok (.aload_n 3, 1) := by decide +kernel
theorem dL_law_1460 : decode cL_law 1460 = .ok (.iconst 0, 1) := by decide +kernel
theorem dL_law_1461 : decode cL_law 1461 = .ok (.laload, 1) := by decide +kernel
theorem dL_law_1462 : decode cL_law 1462 = .ok (.iload 6, 2) := by decide +kernel
theorem dL_law_1464 : decode cL_law 1464 = .ok (.i2l, 1) := by decide +kernel
theorem dL_law_1465 : decode cL_law 1465 = .ok (.lcmp, 1) := by decide +kernel
theorem dL_law_1466 : decode cL_law 1466 = .ok (.ifCond .eq 5, 3) := by decide +kernel
theorem dL_law_1469 : decode cL_law 1469 = .ok (.iconst 0, 1) := by decide +kernel
theorem dL_law_1470 : decode cL_law 1470 = .ok (.ireturn, 1) := by decide +kernel
theorem dL_law_1471 : decode cL_law 1471 = .ok (.goto 1059, 3) := by decide +kernel
theorem dL_law_1474 : decode cL_law 1474 = .ok (.aload_n 1, 1) := by decide +kernel
theorem dL_law_1475 : decode cL_law 1475 = .ok (.aload_n 0, 1) := by decide +kernel
theorem dL_law_1476 : decode cL_law 1476 = .ok (.iload 4, 2) := by decide +kernel
theorem dL_law_1478 : decode cL_law 1478 = .ok (.iconst 1, 1) := by decide +kernel
theorem dL_law_1479 : decode cL_law 1479 = .ok (.iadd, 1) := by decide +kernel
theorem dL_law_1480 : decode cL_law 1480 = .ok (.iaload, 1) := by decide +kernel
theorem dL_law_1481 : decode cL_law 1481 = .ok (.aload_n 3, 1) := by decide +kernel
theorem dL_law_1482 : decode cL_law 1482 = .ok (.invokestatic 204, 3) := by decide +kernel
theorem dL_law_1485 : decode cL_law 1485 = .ok (.istore 5, 2) := by decide +kernel
theorem dL_law_1487 : decode cL_law 1487 = .ok (.aload_n 2, 1) := by decide +kernel
theorem dL_law_1488 : decode cL_law 1488 = .ok (.aload_n 0, 1) := by decide +kernel
theorem dL_law_1489 : decode cL_law 1489 = .ok (.iload 4, 2) := by decide +kernel
theorem dL_law_1491 : decode cL_law 1491 = .ok (.iconst 1, 1) := by decide +kernel
theorem dL_law_1492 : decode cL_law 1492 = .ok (.iadd, 1) := by decide +kernel
theorem dL_law_1493 : decode cL_law 1493 = .ok (.iaload, 1) := by decide +kernel
theorem dL_law_1494 : decode cL_law 1494 = .ok (.invokevirtual 206, 3) := by decide +kernel
theorem dL_law_1497 : decode cL_law 1497 = .ok (.istore 6, 2) := by decide +kernel
theorem dL_law_1499 : decode cL_law 1499 = .ok (.aload_n 2, 1) := by decide +kernel
theorem dL_law_1500 : decode cL_law 1500 = .ok (.invokevirtual 135, 3) := by decide +kernel
theorem dL_law_1503 : decode cL_law 1503 = .ok (.iload 5, 2) := by decide +kernel
theorem dL_law_1505 : decode cL_law 1505 = .ok (.if_icmp .eq 5, 3) := by decide +kernel
theorem dL_law_1508 : decode cL_law 1508 = .ok (.iconst 0, 1) := by decide +kernel
theorem dL_law_1509 : decode cL_law 1509 = .ok (.ireturn, 1) := by decide +kernel
theorem dL_law_1510 : decode cL_law 1510 = .ok (.iload 5, 2) := by decide +kernel
theorem dL_law_1512 : decode cL_law 1512 = .ok (.ifCond .ne 15, 3) := by decide +kernel
theorem dL_law_1515 : decode cL_law 1515 = .ok (.aload_n 3, 1) := by decide +kernel
theorem dL_law_1516 : decode cL_law 1516 = .ok (.iconst 0, 1) := by decide +kernel
theorem dL_law_1517 : decode cL_law 1517 = .ok (.laload, 1) := by decide +kernel
theorem dL_law_1518 : decode cL_law 1518 = .ok (.iload 6, 2) := by decide +kernel
theorem dL_law_1520 : decode cL_law 1520 = .ok (.i2l, 1) := by decide +kernel
theorem dL_law_1521 : decode cL_law 1521 = .ok (.lcmp, 1) := by decide +kernel
theorem dL_law_1522 : decode cL_law 1522 = .ok (.ifCond .eq 5, 3) := by decide +kernel
theorem dL_law_1525 : decode cL_law 1525 = .ok (.iconst 0, 1) := by decide +kernel
theorem dL_law_1526 : decode cL_law 1526 = .ok (.ireturn, 1) := by decide +kernel
theorem dL_law_1527 : decode cL_law 1527 = .ok (.goto 1003, 3) := by decide +kernel
theorem dL_law_1530 : decode cL_law 1530 = .ok (.aload_n 1, 1) := by decide +kernel
theorem dL_law_1531 : decode cL_law 1531 = .ok (.aload_n 0, 1) := by decide +kernel
theorem dL_law_1532 : decode cL_law 1532 = .ok (.iload 4, 2) := by decide +kernel
theorem dL_law_1534 : decode cL_law 1534 = .ok (.iconst 1, 1) := by decide +kernel
theorem dL_law_1535 : decode cL_law 1535 = .ok (.iadd, 1) := by decide +kernel
theorem dL_law_1536 : decode cL_law 1536 = .ok (.iaload, 1) := by decide +kernel
theorem dL_law_1537 : decode cL_law 1537 = .ok (.aload_n 0, 1) := by decide +kernel
theorem dL_law_1538 : decode cL_law 1538 = .ok (.iload 4, 2) := by decide +kernel
theorem dL_law_1540 : decode cL_law 1540 = .ok (.iconst 2, 1) := by decide +kernel
theorem dL_law_1541 : decode cL_law 1541 = .ok (.iadd, 1) := by decide +kernel
theorem dL_law_1542 : decode cL_law 1542 = .ok (.iaload, 1) := by decide +kernel
theorem dL_law_1543 : decode cL_law 1543 = .ok (.aload_n 0, 1) := by decide +kernel
theorem dL_law_1544 : decode cL_law 1544 = .ok (.iload 4, 2) := by decide +kernel
theorem dL_law_1546 : decode cL_law 1546 = .ok (.iconst 3, 1) := by decide +kernel
theorem dL_law_1547 : decode cL_law 1547 = .ok (.iadd, 1) := by decide +kernel
theorem dL_law_1548 : decode cL_law 1548 = .ok (.iaload, 1) := by decide +kernel
theorem dL_law_1549 : decode cL_law 1549 = .ok (.aload_n 3, 1) := by decide +kernel
theorem dL_law_1550 : decode cL_law 1550 = .ok (.invokestatic 207, 3) := by decide +kernel
theorem dL_law_1553 : decode cL_law 1553 = .ok (.istore 5, 2) := by decide +kernel
theorem dL_law_1555 : decode cL_law 1555 = .ok (.aload_n 2, 1) := by decide +kernel
theorem dL_law_1556 : decode cL_law 1556 = .ok (.aload_n 0, 1) := by decide +kernel
theorem dL_law_1557 : decode cL_law 1557 = .ok (.iload 4, 2) := by decide +kernel
theorem dL_law_1559 : decode cL_law 1559 = .ok (.iconst 1, 1) := by decide +kernel
theorem dL_law_1560 : decode cL_law 1560 = .ok (.iadd, 1) := by decide +kernel
theorem dL_law_1561 : decode cL_law 1561 = .ok (.iaload, 1) := by decide +kernel
theorem dL_law_1562 : decode cL_law 1562 = .ok (.aload_n 0, 1) := by decide +kernel
theorem dL_law_1563 : decode cL_law 1563 = .ok (.iload 4, 2) := by decide +kernel
theorem dL_law_1565 : decode cL_law 1565 = .ok (.iconst 2, 1) := by decide +kernel
theorem dL_law_1566 : decode cL_law 1566 = .ok (.iadd, 1) := by decide +kernel
theorem dL_law_1567 : decode cL_law 1567 = .ok (.iaload, 1) := by decide +kernel
theorem dL_law_1568 : decode cL_law 1568 = .ok (.aload_n 0, 1) := by decide +kernel
theorem dL_law_1569 : decode cL_law 1569 = .ok (.iload 4, 2) := by decide +kernel
theorem dL_law_1571 : decode cL_law 1571 = .ok (.iconst 3, 1) := by decide +kernel
theorem dL_law_1572 : decode cL_law 1572 = .ok (.iadd, 1) := by decide +kernel
theorem dL_law_1573 : decode cL_law 1573 = .ok (.iaload, 1) := by decide +kernel
theorem dL_law_1574 : decode cL_law 1574 = .ok (.invokevirtual 209, 3) := by decide +kernel
theorem dL_law_1577 : decode cL_law 1577 = .ok (.istore 6, 2) := by decide +kernel
theorem dL_law_1579 : decode cL_law 1579 = .ok (.aload_n 2, 1) := by decide +kernel
theorem dL_law_1580 : decode cL_law 1580 = .ok (.invokevirtual 135, 3) := by decide +kernel
theorem dL_law_1583 : decode cL_law 1583 = .ok (.iload 5, 2) := by decide +kernel
theorem dL_law_1585 : decode cL_law 1585 = .ok (.if_icmp .eq 5, 3) := by decide +kernel
theorem dL_law_1588 : decode cL_law 1588 = .ok (.iconst 0, 1) := by decide +kernel
theorem dL_law_1589 : decode cL_law 1589 = .ok (.ireturn, 1) := by decide +kernel
theorem dL_law_1590 : decode cL_law 1590 = .ok (.iload 5, 2) := by decide +kernel
theorem dL_law_1592 : decode cL_law 1592 = .ok (.ifCond .ne 15, 3) := by decide +kernel
theorem dL_law_1595 : decode cL_law 1595 = .ok (.aload_n 3, 1) := by decide +kernel
theorem dL_law_1596 : decode cL_law 1596 = .ok (.iconst 0, 1) := by decide +kernel
theorem dL_law_1597 : decode cL_law 1597 = .ok (.laload, 1) := by decide +kernel
theorem dL_law_1598 : decode cL_law 1598 = .ok (.iload 6, 2) := by decide +kernel
theorem dL_law_1600 : decode cL_law 1600 = .ok (.i2l, 1) := by decide +kernel
theorem dL_law_1601 : decode cL_law 1601 = .ok (.lcmp, 1) := by decide +kernel
theorem dL_law_1602 : decode cL_law 1602 = .ok (.ifCond .eq 5, 3) := by decide +kernel
theorem dL_law_1605 : decode cL_law 1605 = .ok (.iconst 0, 1) := by decide +kernel
theorem dL_law_1606 : decode cL_law 1606 = .ok (.ireturn, 1) := by decide +kernel
theorem dL_law_1607 : decode cL_law 1607 = .ok (.goto 923, 3) := by decide +kernel
theorem dL_law_1610 : decode cL_law 1610 = .ok (.aload_n 1, 1) := by decide +kernel
theorem dL_law_1611 : decode cL_law 1611 = .ok (.aload_n 0, 1) := by decide +kernel
theorem dL_law_1612 : decode cL_law 1612 = .ok (.iload 4, 2) := by decide +kernel
theorem dL_law_1614 : decode cL_law 1614 = .ok (.iconst 1, 1) := by decide +kernel
theorem dL_law_1615 : decode cL_law 1615 = .ok (.iadd, 1) := by decide +kernel
theorem dL_law_1616 : decode cL_law 1616 = .ok (.iaload, 1) := by decide +kernel
theorem dL_law_1617 : decode cL_law 1617 = .ok (.aload_n 3, 1) := by decide +kernel
theorem dL_law_1618 : decode cL_law 1618 = .ok (.invokestatic 210, 3) := by decide +kernel
theorem dL_law_1621 : decode cL_law 1621 = .ok (.istore 5, 2) := by decide +kernel
theorem dL_law_1623 : decode cL_law 1623 = .ok (.aload_n 2, 1) := by decide +kernel
theorem dL_law_1624 : decode cL_law 1624 = .ok (.aload_n 0, 1) := by decide +kernel
theorem dL_law_1625 : decode cL_law 1625 = .ok (.iload 4, 2) := by decide +kernel
theorem dL_law_1627 : decode cL_law 1627 = .ok (.iconst 1, 1) := by decide +kernel
theorem dL_law_1628 : decode cL_law 1628 = .ok (.iadd, 1) := by decide +kernel
theorem dL_law_1629 : decode cL_law 1629 = .ok (.iaload, 1) := by decide +kernel
theorem dL_law_1630 : decode cL_law 1630 = .ok (.invokevirtual 212, 3) := by decide +kernel
theorem dL_law_1633 : decode cL_law 1633 = .ok (.istore 6, 2) := by decide +kernel
theorem dL_law_1635 : decode cL_law 1635 = .ok (.aload_n 2, 1) := by decide +kernel
theorem dL_law_1636 : decode cL_law 1636 = .ok (.invokevirtual 135, 3) := by decide +kernel
theorem dL_law_1639 : decode cL_law 1639 = .ok (.iload 5, 2) := by decide +kernel
theorem dL_law_1641 : decode cL_law 1641 = .ok (.if_icmp .eq 5, 3) := by decide +kernel
theorem dL_law_1644 : decode cL_law 1644 = .ok (.iconst 0, 1) := by decide +kernel
theorem dL_law_1645 : decode cL_law 1645 = .ok (.ireturn, 1) := by decide +kernel
theorem dL_law_1646 : decode cL_law 1646 = .ok (.iload 5, 2) := by decide +kernel
theorem dL_law_1648 : decode cL_law 1648 = .ok (.ifCond .ne 15, 3) := by decide +kernel
theorem dL_law_1651 : decode cL_law 1651 = .ok (.aload_n 3, 1) := by decide +kernel
theorem dL_law_1652 : decode cL_law 1652 = .ok (.iconst 0, 1) := by decide +kernel
theorem dL_law_1653 : decode cL_law 1653 = .ok (.laload, 1) := by decide +kernel
theorem dL_law_1654 : decode cL_law 1654 = .ok (.iload 6, 2) := by decide +kernel
theorem dL_law_1656 : decode cL_law 1656 = .ok (.i2l, 1) := by decide +kernel
theorem dL_law_1657 : decode cL_law 1657 = .ok (.lcmp, 1) := by decide +kernel
theorem dL_law_1658 : decode cL_law 1658 = .ok (.ifCond .eq 5, 3) := by decide +kernel
theorem dL_law_1661 : decode cL_law 1661 = .ok (.iconst 0, 1) := by decide +kernel
theorem dL_law_1662 : decode cL_law 1662 = .ok (.ireturn, 1) := by decide +kernel
theorem dL_law_1663 : decode cL_law 1663 = .ok (.goto 867, 3) := by decide +kernel
theorem dL_law_1666 : decode cL_law 1666 = .ok (.aload_n 1, 1) := by decide +kernel
theorem dL_law_1667 : decode cL_law 1667 = .ok (.aload_n 0, 1) := by decide +kernel
theorem dL_law_1668 : decode cL_law 1668 = .ok (.iload 4, 2) := by decide +kernel
theorem dL_law_1670 : decode cL_law 1670 = .ok (.iconst 1, 1) := by decide +kernel
theorem dL_law_1671 : decode cL_law 1671 = .ok (.iadd, 1) := by decide +kernel
theorem dL_law_1672 : decode cL_law 1672 = .ok (.iaload, 1) := by decide +kernel
theorem dL_law_1673 : decode cL_law 1673 = .ok (.aload_n 3, 1) := by decide +kernel
theorem dL_law_1674 : decode cL_law 1674 = .ok (.invokestatic 213, 3) := by decide +kernel
theorem dL_law_1677 : decode cL_law 1677 = .ok (.istore 5, 2) := by decide +kernel
theorem dL_law_1679 : decode cL_law 1679 = .ok (.aload_n 2, 1) := by decide +kernel
theorem dL_law_1680 : decode cL_law 1680 = .ok (.aload_n 0, 1) := by decide +kernel
theorem dL_law_1681 : decode cL_law 1681 = .ok (.iload 4, 2) := by decide +kernel
theorem dL_law_1683 : decode cL_law 1683 = .ok (.iconst 1, 1) := by decide +kernel
theorem dL_law_1684 : decode cL_law 1684 = .ok (.iadd, 1) := by decide +kernel
theorem dL_law_1685 : decode cL_law 1685 = .ok (.iaload, 1) := by decide +kernel
theorem dL_law_1686 : decode cL_law 1686 = .ok (.invokevirtual 215, 3) := by decide +kernel
theorem dL_law_1689 : decode cL_law 1689 = .ok (.istore 6, 2) := by decide +kernel
theorem dL_law_1691 : decode cL_law 1691 = .ok (.aload_n 2, 1) := by decide +kernel
theorem dL_law_1692 : decode cL_law 1692 = .ok (.invokevirtual 135, 3) := by decide +kernel
theorem dL_law_1695 : decode cL_law 1695 = .ok (.iload 5, 2) := by decide +kernel
theorem dL_law_1697 : decode cL_law 1697 = .ok (.if_icmp .eq 5, 3) := by decide +kernel
theorem dL_law_1700 : decode cL_law 1700 = .ok (.iconst 0, 1) := by decide +kernel
theorem dL_law_1701 : decode cL_law 1701 = .ok (.ireturn, 1) := by decide +kernel
theorem dL_law_1702 : decode cL_law 1702 = .ok (.iload 5, 2) := by decide +kernel
theorem dL_law_1704 : decode cL_law 1704 = .ok (.ifCond .ne 15, 3) := by decide +kernel
theorem dL_law_1707 : decode cL_law 1707 = .ok (.aload_n 3, 1) := by decide +kernel
theorem dL_law_1708 : decode cL_law 1708 = .ok (.iconst 0, 1) := by decide +kernel
theorem dL_law_1709 : decode cL_law 1709 = .ok (.laload, 1) := by decide +kernel
theorem dL_law_1710 : decode cL_law 1710 = .ok (.iload 6, 2) := by decide +kernel
theorem dL_law_1712 : decode cL_law 1712 = .ok (.i2l, 1) := by decide +kernel
theorem dL_law_1713 : decode cL_law 1713 = .ok (.lcmp, 1) := by decide +kernel
theorem dL_law_1714 : decode cL_law 1714 = .ok (.ifCond .eq 5, 3) := by decide +kernel
theorem dL_law_1717 : decode cL_law 1717 = .ok (.iconst 0, 1) := by decide +kernel
theorem dL_law_1718 : decode cL_law 1718 = .ok (.ireturn, 1) := by decide +kernel
theorem dL_law_1719 : decode cL_law 1719 = .ok (.goto 811, 3) := by decide +kernel
theorem dL_law_1722 : decode cL_law 1722 = .ok (.aload_n 1, 1) := by decide +kernel
theorem dL_law_1723 : decode cL_law 1723 = .ok (.aload_n 0, 1) := by decide +kernel
theorem dL_law_1724 : decode cL_law 1724 = .ok (.iload 4, 2) := by decide +kernel
theorem dL_law_1726 : decode cL_law 1726 = .ok (.iconst 1, 1) := by decide +kernel
theorem dL_law_1727 : decode cL_law 1727 = .ok (.iadd, 1) := by decide +kernel
theorem dL_law_1728 : decode cL_law 1728 = .ok (.iaload, 1) := by decide +kernel
theorem dL_law_1729 : decode cL_law 1729 = .ok (.aload_n 0, 1) := by decide +kernel
theorem dL_law_1730 : decode cL_law 1730 = .ok (.iload 4, 2) := by decide +kernel
theorem dL_law_1732 : decode cL_law 1732 = .ok (.iconst 2, 1) := by decide +kernel
theorem dL_law_1733 : decode cL_law 1733 = .ok (.iadd, 1) := by decide +kernel
theorem dL_law_1734 : decode cL_law 1734 = .ok (.iaload, 1) := by decide +kernel
theorem dL_law_1735 : decode cL_law 1735 = .ok (.aload_n 0, 1) := by decide +kernel
theorem dL_law_1736 : decode cL_law 1736 = .ok (.iload 4, 2) := by decide +kernel
theorem dL_law_1738 : decode cL_law 1738 = .ok (.iconst 3, 1) := by decide +kernel
theorem dL_law_1739 : decode cL_law 1739 = .ok (.iadd, 1) := by decide +kernel
theorem dL_law_1740 : decode cL_law 1740 = .ok (.iaload, 1) := by decide +kernel
theorem dL_law_1741 : decode cL_law 1741 = .ok (.aload_n 3, 1) := by decide +kernel
theorem dL_law_1742 : decode cL_law 1742 = .ok (.invokestatic 216, 3) := by decide +kernel
theorem dL_law_1745 : decode cL_law 1745 = .ok (.istore 5, 2) := by decide +kernel
theorem dL_law_1747 : decode cL_law 1747 = .ok (.aload_n 2, 1) := by decide +kernel
theorem dL_law_1748 : decode cL_law 1748 = .ok (.aload_n 0, 1) := by decide +kernel
theorem dL_law_1749 : decode cL_law 1749 = .ok (.iload 4, 2) := by decide +kernel
theorem dL_law_1751 : decode cL_law 1751 = .ok (.iconst 1, 1) := by decide +kernel
theorem dL_law_1752 : decode cL_law 1752 = .ok (.iadd, 1) := by decide +kernel
theorem dL_law_1753 : decode cL_law 1753 = .ok (.iaload, 1) := by decide +kernel
theorem dL_law_1754 : decode cL_law 1754 = .ok (.aload_n 0, 1) := by decide +kernel
theorem dL_law_1755 : decode cL_law 1755 = .ok (.iload 4, 2) := by decide +kernel
theorem dL_law_1757 : decode cL_law 1757 = .ok (.iconst 2, 1) := by decide +kernel
theorem dL_law_1758 : decode cL_law 1758 = .ok (.iadd, 1) := by decide +kernel
theorem dL_law_1759 : decode cL_law 1759 = .ok (.iaload, 1) := by decide +kernel
theorem dL_law_1760 : decode cL_law 1760 = .ok (.aload_n 0, 1) := by decide +kernel
theorem dL_law_1761 : decode cL_law 1761 = .ok (.iload 4, 2) := by decide +kernel
theorem dL_law_1763 : decode cL_law 1763 = .ok (.iconst 3, 1) := by decide +kernel
theorem dL_law_1764 : decode cL_law 1764 = .ok (.iadd, 1) := by decide +kernel
theorem dL_law_1765 : decode cL_law 1765 = .ok (.iaload, 1) := by decide +kernel
theorem dL_law_1766 : decode cL_law 1766 = .ok (.invokevirtual 218, 3) := by decide +kernel
theorem dL_law_1769 : decode cL_law 1769 = .ok (.istore 6, 2) := by decide +kernel
theorem dL_law_1771 : decode cL_law 1771 = .ok (.aload_n 2, 1) := by decide +kernel
theorem dL_law_1772 : decode cL_law 1772 = .ok (.invokevirtual 135, 3) := by decide +kernel
theorem dL_law_1775 : decode cL_law 1775 = .ok (.iload 5, 2) := by decide +kernel
theorem dL_law_1777 : decode cL_law 1777 = .ok (.if_icmp .eq 5, 3) := by decide +kernel
theorem dL_law_1780 : decode cL_law 1780 = .ok (.iconst 0, 1) := by decide +kernel
theorem dL_law_1781 : decode cL_law 1781 = .ok (.ireturn, 1) := by decide +kernel
theorem dL_law_1782 : decode cL_law 1782 = .ok (.iload 5, 2) := by decide +kernel
theorem dL_law_1784 : decode cL_law 1784 = .ok (.ifCond .ne 15, 3) := by decide +kernel
theorem dL_law_1787 : decode cL_law 1787 = .ok (.aload_n 3, 1) := by decide +kernel
theorem dL_law_1788 : decode cL_law 1788 = .ok (.iconst 0, 1) := by decide +kernel
theorem dL_law_1789 : decode cL_law 1789 = .ok (.laload, 1) := by decide +kernel
theorem dL_law_1790 : decode cL_law 1790 = .ok (.iload 6, 2) := by decide +kernel
theorem dL_law_1792 : decode cL_law 1792 = .ok (.i2l, 1) := by decide +kernel
theorem dL_law_1793 : decode cL_law 1793 = .ok (.lcmp, 1) := by decide +kernel
theorem dL_law_1794 : decode cL_law 1794 = .ok (.ifCond .eq 5, 3) := by decide +kernel
theorem dL_law_1797 : decode cL_law 1797 = .ok (.iconst 0, 1) := by decide +kernel
theorem dL_law_1798 : decode cL_law 1798 = .ok (.ireturn, 1) := by decide +kernel
theorem dL_law_1799 : decode cL_law 1799 = .ok (.goto 731, 3) := by decide +kernel
theorem dL_law_1802 : decode cL_law 1802 = .ok (.aload_n 1, 1) := by decide +kernel
theorem dL_law_1803 : decode cL_law 1803 = .ok (.invokevirtual 219, 3) := by decide +kernel
theorem dL_law_1806 : decode cL_law 1806 = .ok (.aload_n 2, 1) := by decide +kernel
theorem dL_law_1807 : decode cL_law 1807 = .ok (.invokevirtual 222, 3) := by decide +kernel
theorem dL_law_1810 : decode cL_law 1810 = .ok (.if_icmp .eq 720, 3) := by decide +kernel
theorem dL_law_1813 : decode cL_law 1813 = .ok (.iconst 0, 1) := by decide +kernel
theorem dL_law_1814 : decode cL_law 1814 = .ok (.ireturn, 1) := by decide +kernel
theorem dL_law_1815 : decode cL_law 1815 = .ok (.aload_n 1, 1) := by decide +kernel
theorem dL_law_1816 : decode cL_law 1816 = .ok (.aload_n 0, 1) := by decide +kernel
theorem dL_law_1817 : decode cL_law 1817 = .ok (.iload 4, 2) := by decide +kernel
theorem dL_law_1819 : decode cL_law 1819 = .ok (.iconst 1, 1) := by decide +kernel
theorem dL_law_1820 : decode cL_law 1820 = .ok (.iadd, 1) := by decide +kernel
theorem dL_law_1821 : decode cL_law 1821 = .ok (.iaload, 1) := by decide +kernel
theorem dL_law_1822 : decode cL_law 1822 = .ok (.aload_n 3, 1) := by decide +kernel
theorem dL_law_1823 : decode cL_law 1823 = .ok (.invokestatic 223, 3) := by decide +kernel
theorem dL_law_1826 : decode cL_law 1826 = .ok (.istore 5, 2) := by decide +kernel
theorem dL_law_1828 : decode cL_law 1828 = .ok (.aload_n 2, 1) := by decide +kernel
theorem dL_law_1829 : decode cL_law 1829 = .ok (.aload_n 0, 1) := by decide +kernel
theorem dL_law_1830 : decode cL_law 1830 = .ok (.iload 4, 2) := by decide +kernel
theorem dL_law_1832 : decode cL_law 1832 = .ok (.iconst 1, 1) := by decide +kernel
theorem dL_law_1833 : decode cL_law 1833 = .ok (.iadd, 1) := by decide +kernel
theorem dL_law_1834 : decode cL_law 1834 = .ok (.iaload, 1) := by decide +kernel
theorem dL_law_1835 : decode cL_law 1835 = .ok (.invokevirtual 225, 3) := by decide +kernel
theorem dL_law_1838 : decode cL_law 1838 = .ok (.istore 6, 2) := by decide +kernel
theorem dL_law_1840 : decode cL_law 1840 = .ok (.aload_n 2, 1) := by decide +kernel
theorem dL_law_1841 : decode cL_law 1841 = .ok (.invokevirtual 135, 3) := by decide +kernel
theorem dL_law_1844 : decode cL_law 1844 = .ok (.iload 5, 2) := by decide +kernel
theorem dL_law_1846 : decode cL_law 1846 = .ok (.if_icmp .eq 5, 3) := by decide +kernel
theorem dL_law_1849 : decode cL_law 1849 = .ok (.iconst 0, 1) := by decide +kernel
theorem dL_law_1850 : decode cL_law 1850 = .ok (.ireturn, 1) := by decide +kernel
theorem dL_law_1851 : decode cL_law 1851 = .ok (.iload 5, 2) := by decide +kernel
theorem dL_law_1853 : decode cL_law 1853 = .ok (.ifCond .ne 15, 3) := by decide +kernel
theorem dL_law_1856 : decode cL_law 1856 = .ok (.aload_n 3, 1) := by decide +kernel
theorem dL_law_1857 : decode cL_law 1857 = .ok (.iconst 0, 1) := by decide +kernel
theorem dL_law_1858 : decode cL_law 1858 = .ok (.laload, 1) := by decide +kernel
theorem dL_law_1859 : decode cL_law 1859 = .ok (.iload 6, 2) := by decide +kernel
theorem dL_law_1861 : decode cL_law 1861 = .ok (.i2l, 1) := by decide +kernel
theorem dL_law_1862 : decode cL_law 1862 = .ok (.lcmp, 1) := by decide +kernel
theorem dL_law_1863 : decode cL_law 1863 = .ok (.ifCond .eq 5, 3) := by decide +kernel
theorem dL_law_1866 : decode cL_law 1866 = .ok (.iconst 0, 1) := by decide +kernel
theorem dL_law_1867 : decode cL_law 1867 = .ok (.ireturn, 1) := by decide +kernel
theorem dL_law_1868 : decode cL_law 1868 = .ok (.goto 662, 3) := by decide +kernel
theorem dL_law_1871 : decode cL_law 1871 = .ok (.aload_n 1, 1) := by decide +kernel
theorem dL_law_1872 : decode cL_law 1872 = .ok (.aload_n 0, 1) := by decide +kernel
theorem dL_law_1873 : decode cL_law 1873 = .ok (.iload 4, 2) := by decide +kernel
theorem dL_law_1875 : decode cL_law 1875 = .ok (.iconst 1, 1) := by decide +kernel
theorem dL_law_1876 : decode cL_law 1876 = .ok (.iadd, 1) := by decide +kernel
theorem dL_law_1877 : decode cL_law 1877 = .ok (.iaload, 1) := by decide +kernel
theorem dL_law_1878 : decode cL_law 1878 = .ok (.aload_n 0, 1) := by decide +kernel
theorem dL_law_1879 : decode cL_law 1879 = .ok (.iload 4, 2) := by decide +kernel
theorem dL_law_1881 : decode cL_law 1881 = .ok (.iconst 2, 1) := by decide +kernel
theorem dL_law_1882 : decode cL_law 1882 = .ok (.iadd, 1) := by decide +kernel
theorem dL_law_1883 : decode cL_law 1883 = .ok (.iaload, 1) := by decide +kernel
theorem dL_law_1884 : decode cL_law 1884 = .ok (.aload_n 3, 1) := by decide +kernel
theorem dL_law_1885 : decode cL_law 1885 = .ok (.invokestatic 226, 3) := by decide +kernel
theorem dL_law_1888 : decode cL_law 1888 = .ok (.istore 5, 2) := by decide +kernel
theorem dL_law_1890 : decode cL_law 1890 = .ok (.aload_n 2, 1) := by decide +kernel
theorem dL_law_1891 : decode cL_law 1891 = .ok (.aload_n 0, 1) := by decide +kernel
theorem dL_law_1892 : decode cL_law 1892 = .ok (.iload 4, 2) := by decide +kernel
theorem dL_law_1894 : decode cL_law 1894 = .ok (.iconst 1, 1) := by decide +kernel
theorem dL_law_1895 : decode cL_law 1895 = .ok (.iadd, 1) := by decide +kernel
theorem dL_law_1896 : decode cL_law 1896 = .ok (.iaload, 1) := by decide +kernel
theorem dL_law_1897 : decode cL_law 1897 = .ok (.aload_n 0, 1) := by decide +kernel
theorem dL_law_1898 : decode cL_law 1898 = .ok (.iload 4, 2) := by decide +kernel
theorem dL_law_1900 : decode cL_law 1900 = .ok (.iconst 2, 1) := by decide +kernel
theorem dL_law_1901 : decode cL_law 1901 = .ok (.iadd, 1) := by decide +kernel
theorem dL_law_1902 : decode cL_law 1902 = .ok (.iaload, 1) := by decide +kernel
theorem dL_law_1903 : decode cL_law 1903 = .ok (.invokevirtual 228, 3) := by decide +kernel
theorem dL_law_1906 : decode cL_law 1906 = .ok (.istore 6, 2) := by decide +kernel
theorem dL_law_1908 : decode cL_law 1908 = .ok (.aload_n 2, 1) := by decide +kernel
theorem dL_law_1909 : decode cL_law 1909 = .ok (.invokevirtual 135, 3) := by decide +kernel
theorem dL_law_1912 : decode cL_law 1912 = .ok (.iload 5, 2) := by decide +kernel
theorem dL_law_1914 : decode cL_law 1914 = .ok (.if_icmp .eq 5, 3) := by decide +kernel
theorem dL_law_1917 : decode cL_law 1917 = .ok (.iconst 0, 1) := by decide +kernel
theorem dL_law_1918 : decode cL_law 1918 = .ok (.ireturn, 1) := by decide +kernel
theorem dL_law_1919 : decode cL_law 1919 = .ok (.iload 5, 2) := by decide +kernel
theorem dL_law_1921 : decode cL_law 1921 = .ok (.ifCond .ne 15, 3) := by decide +kernel
theorem dL_law_1924 : decode cL_law 1924 = .ok (.aload_n 3, 1) := by decide +kernel
theorem dL_law_1925 : decode cL_law 1925 = .ok (.iconst 0, 1) := by decide +kernel
theorem dL_law_1926 : decode cL_law 1926 = .ok (.laload, 1) := by decide +kernel
theorem dL_law_1927 : decode cL_law 1927 = .ok (.iload 6, 2) := by decide +kernel
theorem dL_law_1929 : decode cL_law 1929 = .ok (.i2l, 1) := by decide +kernel
theorem dL_law_1930 : decode cL_law 1930 = .ok (.lcmp, 1) := by decide +kernel
theorem dL_law_1931 : decode cL_law 1931 = .ok (.ifCond .eq 5, 3) := by decide +kernel
theorem dL_law_1934 : decode cL_law 1934 = .ok (.iconst 0, 1) := by decide +kernel
theorem dL_law_1935 : decode cL_law 1935 = .ok (.ireturn, 1) := by decide +kernel
theorem dL_law_1936 : decode cL_law 1936 = .ok (.goto 594, 3) := by decide +kernel
theorem dL_law_1939 : decode cL_law 1939 = .ok (.aload_n 1, 1) := by decide +kernel
theorem dL_law_1940 : decode cL_law 1940 = .ok (.aload_n 0, 1) := by decide +kernel
theorem dL_law_1941 : decode cL_law 1941 = .ok (.iload 4, 2) := by decide +kernel
theorem dL_law_1943 : decode cL_law 1943 = .ok (.iconst 1, 1) := by decide +kernel
theorem dL_law_1944 : decode cL_law 1944 = .ok (.iadd, 1) := by decide +kernel
theorem dL_law_1945 : decode cL_law 1945 = .ok (.iaload, 1) := by decide +kernel
theorem dL_law_1946 : decode cL_law 1946 = .ok (.aload_n 0, 1) := by decide +kernel
theorem dL_law_1947 : decode cL_law 1947 = .ok (.iload 4, 2) := by decide +kernel
theorem dL_law_1949 : decode cL_law 1949 = .ok (.iconst 2, 1) := by decide +kernel
theorem dL_law_1950 : decode cL_law 1950 = .ok (.iadd, 1) := by decide +kernel
theorem dL_law_1951 : decode cL_law 1951 = .ok (.iaload, 1) := by decide +kernel
theorem dL_law_1952 : decode cL_law 1952 = .ok (.aload_n 0, 1) := by decide +kernel
theorem dL_law_1953 : decode cL_law 1953 = .ok (.iload 4, 2) := by decide +kernel
theorem dL_law_1955 : decode cL_law 1955 = .ok (.iconst 3, 1) := by decide +kernel
theorem dL_law_1956 : decode cL_law 1956 = .ok (.iadd, 1) := by decide +kernel
theorem dL_law_1957 : decode cL_law 1957 = .ok (.iaload, 1) := by decide +kernel
theorem dL_law_1958 : decode cL_law 1958 = .ok (.aload_n 3, 1) := by decide +kernel
theorem dL_law_1959 : decode cL_law 1959 = .ok (.invokestatic 229, 3) := by decide +kernel
theorem dL_law_1962 : decode cL_law 1962 = .ok (.istore 5, 2) := by decide +kernel
theorem dL_law_1964 : decode cL_law 1964 = .ok (.aload_n 2, 1) := by decide +kernel
theorem dL_law_1965 : decode cL_law 1965 = .ok (.aload_n 0, 1) := by decide +kernel
theorem dL_law_1966 : decode cL_law 1966 = .ok (.iload 4, 2) := by decide +kernel
theorem dL_law_1968 : decode cL_law 1968 = .ok (.iconst 1, 1) := by decide +kernel
theorem dL_law_1969 : decode cL_law 1969 = .ok (.iadd, 1) := by decide +kernel
theorem dL_law_1970 : decode cL_law 1970 = .ok (.iaload, 1) := by decide +kernel
theorem dL_law_1971 : decode cL_law 1971 = .ok (.aload_n 0, 1) := by decide +kernel
theorem dL_law_1972 : decode cL_law 1972 = .ok (.iload 4, 2) := by decide +kernel
theorem dL_law_1974 : decode cL_law 1974 = .ok (.iconst 2, 1) := by decide +kernel
theorem dL_law_1975 : decode cL_law 1975 = .ok (.iadd, 1) := by decide +kernel
theorem dL_law_1976 : decode cL_law 1976 = .ok (.iaload, 1) := by decide +kernel
theorem dL_law_1977 : decode cL_law 1977 = .ok (.aload_n 0, 1) := by decide +kernel
theorem dL_law_1978 : decode cL_law 1978 = .ok (.iload 4, 2) := by decide +kernel
theorem dL_law_1980 : decode cL_law 1980 = .ok (.iconst 3, 1) := by decide +kernel
theorem dL_law_1981 : decode cL_law 1981 = .ok (.iadd, 1) := by decide +kernel
theorem dL_law_1982 : decode cL_law 1982 = .ok (.iaload, 1) := by decide +kernel
theorem dL_law_1983 : decode cL_law 1983 = .ok (.invokevirtual 231, 3) := by decide +kernel
theorem dL_law_1986 : decode cL_law 1986 = .ok (.istore 6, 2) := by decide +kernel
theorem dL_law_1988 : decode cL_law 1988 = .ok (.aload_n 2, 1) := by decide +kernel
theorem dL_law_1989 : decode cL_law 1989 = .ok (.invokevirtual 135, 3) := by decide +kernel
theorem dL_law_1992 : decode cL_law 1992 = .ok (.iload 5, 2) := by decide +kernel
theorem dL_law_1994 : decode cL_law 1994 = .ok (.if_icmp .eq 5, 3) := by decide +kernel
theorem dL_law_1997 : decode cL_law 1997 = .ok (.iconst 0, 1) := by decide +kernel
theorem dL_law_1998 : decode cL_law 1998 = .ok (.ireturn, 1) := by decide +kernel
theorem dL_law_1999 : decode cL_law 1999 = .ok (.iload 5, 2) := by decide +kernel
theorem dL_law_2001 : decode cL_law 2001 = .ok (.ifCond .ne 15, 3) := by decide +kernel
theorem dL_law_2004 : decode cL_law 2004 = .ok (.aload_n 3, 1) := by decide +kernel
theorem dL_law_2005 : decode cL_law 2005 = .ok (.iconst 0, 1) := by decide +kernel
theorem dL_law_2006 : decode cL_law 2006 = .ok (.laload, 1) := by decide +kernel
theorem dL_law_2007 : decode cL_law 2007 = .ok (.iload 6, 2) := by decide +kernel
theorem dL_law_2009 : decode cL_law 2009 = .ok (.i2l, 1) := by decide +kernel
theorem dL_law_2010 : decode cL_law 2010 = .ok (.lcmp, 1) := by decide +kernel
theorem dL_law_2011 : decode cL_law 2011 = .ok (.ifCond .eq 5, 3) := by decide +kernel
theorem dL_law_2014 : decode cL_law 2014 = .ok (.iconst 0, 1) := by decide +kernel
theorem dL_law_2015 : decode cL_law 2015 = .ok (.ireturn, 1) := by decide +kernel
theorem dL_law_2016 : decode cL_law 2016 = .ok (.goto 514, 3) := by decide +kernel
theorem dL_law_2019 : decode cL_law 2019 = .ok (.aload_n 1, 1) := by decide +kernel
theorem dL_law_2020 : decode cL_law 2020 = .ok (.aload_n 0, 1) := by decide +kernel
theorem dL_law_2021 : decode cL_law 2021 = .ok (.iload 4, 2) := by decide +kernel
theorem dL_law_2023 : decode cL_law 2023 = .ok (.iconst 1, 1) := by decide +kernel
theorem dL_law_2024 : decode cL_law 2024 = .ok (.iadd, 1) := by decide +kernel
theorem dL_law_2025 : decode cL_law 2025 = .ok (.iaload, 1) := by decide +kernel
theorem dL_law_2026 : decode cL_law 2026 = .ok (.aload_n 0, 1) := by decide +kernel
theorem dL_law_2027 : decode cL_law 2027 = .ok (.iload 4, 2) := by decide +kernel
theorem dL_law_2029 : decode cL_law 2029 = .ok (.iconst 2, 1) := by decide +kernel
theorem dL_law_2030 : decode cL_law 2030 = .ok (.iadd, 1) := by decide +kernel
theorem dL_law_2031 : decode cL_law 2031 = .ok (.iaload, 1) := by decide +kernel
theorem dL_law_2032 : decode cL_law 2032 = .ok (.aload_n 3, 1) := by decide +kernel
theorem dL_law_2033 : decode cL_law 2033 = .ok (.invokestatic 232, 3) := by decide +kernel
theorem dL_law_2036 : decode cL_law 2036 = .ok (.istore 5, 2) := by decide +kernel
theorem dL_law_2038 : decode cL_law 2038 = .ok (.aload_n 2, 1) := by decide +kernel
theorem dL_law_2039 : decode cL_law 2039 = .ok (.aload_n 0, 1) := by decide +kernel
theorem dL_law_2040 : decode cL_law 2040 = .ok (.iload 4, 2) := by decide +kernel
theorem dL_law_2042 : decode cL_law 2042 = .ok (.iconst 1, 1) := by decide +kernel
theorem dL_law_2043 : decode cL_law 2043 = .ok (.iadd, 1) := by decide +kernel
theorem dL_law_2044 : decode cL_law 2044 = .ok (.iaload, 1) := by decide +kernel
theorem dL_law_2045 : decode cL_law 2045 = .ok (.aload_n 0, 1) := by decide +kernel
theorem dL_law_2046 : decode cL_law 2046 = .ok (.iload 4, 2) := by decide +kernel
theorem dL_law_2048 : decode cL_law 2048 = .ok (.iconst 2, 1) := by decide +kernel
theorem dL_law_2049 : decode cL_law 2049 = .ok (.iadd, 1) := by decide +kernel
theorem dL_law_2050 : decode cL_law 2050 = .ok (.iaload, 1) := by decide +kernel
theorem dL_law_2051 : decode cL_law 2051 = .ok (.invokevirtual 234, 3) := by decide +kernel
theorem dL_law_2054 : decode cL_law 2054 = .ok (.istore 6, 2) := by decide +kernel
theorem dL_law_2056 : decode cL_law 2056 = .ok (.aload_n 2, 1) := by decide +kernel
theorem dL_law_2057 : decode cL_law 2057 = .ok (.invokevirtual 135, 3) := by decide +kernel
theorem dL_law_2060 : decode cL_law 2060 = .ok (.iload 5, 2) := by decide +kernel
theorem dL_law_2062 : decode cL_law 2062 = .ok (.if_icmp .eq 5, 3) := by decide +kernel
theorem dL_law_2065 : decode cL_law 2065 = .ok (.iconst 0, 1) := by decide +kernel
theorem dL_law_2066 : decode cL_law 2066 = .ok (.ireturn, 1) := by decide +kernel
theorem dL_law_2067 : decode cL_law 2067 = .ok (.iload 5, 2) := by decide +kernel
theorem dL_law_2069 : decode cL_law 2069 = .ok (.ifCond .ne 22, 3) := by decide +kernel
theorem dL_law_2072 : decode cL_law 2072 = .ok (.aload_n 3, 1) := by decide +kernel
theorem dL_law_2073 : decode cL_law 2073 = .ok (.iconst 0, 1) := by decide +kernel
theorem dL_law_2074 : decode cL_law 2074 = .ok (.laload, 1) := by decide +kernel
theorem dL_law_2075 : decode cL_law 2075 = .ok (.iload 6, 2) := by decide +kernel
theorem dL_law_2077 : decode cL_law 2077 = .ok (.ifCond .eq 7, 3) := by decide +kernel
theorem dL_law_2080 : decode cL_law 2080 = .ok (.lconst 1, 1) := by decide +kernel
theorem dL_law_2081 : decode cL_law 2081 = .ok (.goto 4, 3) := by decide +kernel
theorem dL_law_2084 : decode cL_law 2084 = .ok (.lconst 0, 1) := by decide +kernel
theorem dL_law_2085 : decode cL_law 2085 = .ok (.lcmp, 1) := by decide +kernel
theorem dL_law_2086 : decode cL_law 2086 = .ok (.ifCond .eq 5, 3) := by decide +kernel
theorem dL_law_2089 : decode cL_law 2089 = .ok (.iconst 0, 1) := by decide +kernel
theorem dL_law_2090 : decode cL_law 2090 = .ok (.ireturn, 1) := by decide +kernel
theorem dL_law_2091 : decode cL_law 2091 = .ok (.goto 439, 3) := by decide +kernel
theorem dL_law_2094 : decode cL_law 2094 = .ok (.aload_n 1, 1) := by decide +kernel
theorem dL_law_2095 : decode cL_law 2095 = .ok (.aload_n 0, 1) := by decide +kernel
theorem dL_law_2096 : decode cL_law 2096 = .ok (.iload 4, 2) := by decide +kernel
theorem dL_law_2098 : decode cL_law 2098 = .ok (.iconst 1, 1) := by decide +kernel
theorem dL_law_2099 : decode cL_law 2099 = .ok (.iadd, 1) := by decide +kernel
theorem dL_law_2100 : decode cL_law 2100 = .ok (.iaload, 1) := by decide +kernel
theorem dL_law_2101 : decode cL_law 2101 = .ok (.aload_n 0, 1) := by decide +kernel
theorem dL_law_2102 : decode cL_law 2102 = .ok (.iload 4, 2) := by decide +kernel
theorem dL_law_2104 : decode cL_law 2104 = .ok (.iconst 2, 1) := by decide +kernel
theorem dL_law_2105 : decode cL_law 2105 = .ok (.iadd, 1) := by decide +kernel
theorem dL_law_2106 : decode cL_law 2106 = .ok (.iaload, 1) := by decide +kernel
theorem dL_law_2107 : decode cL_law 2107 = .ok (.aload_n 3, 1) := by decide +kernel
theorem dL_law_2108 : decode cL_law 2108 = .ok (.invokestatic 235, 3) := by decide +kernel
theorem dL_law_2111 : decode cL_law 2111 = .ok (.istore 5, 2) := by decide +kernel
theorem dL_law_2113 : decode cL_law 2113 = .ok (.aload_n 2, 1) := by decide +kernel
theorem dL_law_2114 : decode cL_law 2114 = .ok (.aload_n 0, 1) := by decide +kernel
theorem dL_law_2115 : decode cL_law 2115 = .ok (.iload 4, 2) := by decide +kernel
theorem dL_law_2117 : decode cL_law 2117 = .ok (.iconst 1, 1) := by decide +kernel
theorem dL_law_2118 : decode cL_law 2118 = .ok (.iadd, 1) := by decide +kernel
theorem dL_law_2119 : decode cL_law 2119 = .ok (.iaload, 1) := by decide +kernel
theorem dL_law_2120 : decode cL_law 2120 = .ok (.aload_n 0, 1) := by decide +kernel
theorem dL_law_2121 : decode cL_law 2121 = .ok (.iload 4, 2) := by decide +kernel
theorem dL_law_2123 : decode cL_law 2123 = .ok (.iconst 2, 1) := by decide +kernel
theorem dL_law_2124 : decode cL_law 2124 = .ok (.iadd, 1) := by decide +kernel
theorem dL_law_2125 : decode cL_law 2125 = .ok (.iaload, 1) := by decide +kernel
theorem dL_law_2126 : decode cL_law 2126 = .ok (.invokevirtual 237, 3) := by decide +kernel
theorem dL_law_2129 : decode cL_law 2129 = .ok (.istore 6, 2) := by decide +kernel
theorem dL_law_2131 : decode cL_law 2131 = .ok (.aload_n 2, 1) := by decide +kernel
theorem dL_law_2132 : decode cL_law 2132 = .ok (.invokevirtual 135, 3) := by decide +kernel
theorem dL_law_2135 : decode cL_law 2135 = .ok (.iload 5, 2) := by decide +kernel
theorem dL_law_2137 : decode cL_law 2137 = .ok (.if_icmp .eq 5, 3) := by decide +kernel
theorem dL_law_2140 : decode cL_law 2140 = .ok (.iconst 0, 1) := by decide +kernel
theorem dL_law_2141 : decode cL_law 2141 = .ok (.ireturn, 1) := by decide +kernel
theorem dL_law_2142 : decode cL_law 2142 = .ok (.iload 5, 2) := by decide +kernel
theorem dL_law_2144 : decode cL_law 2144 = .ok (.ifCond .ne 15, 3) := by decide +kernel
theorem dL_law_2147 : decode cL_law 2147 = .ok (.aload_n 3, 1) := by decide +kernel
theorem dL_law_2148 : decode cL_law 2148 = .ok (.iconst 0, 1) := by decide +kernel
theorem dL_law_2149 : decode cL_law 2149 = .ok (.laload, 1) := by decide +kernel
theorem dL_law_2150 : decode cL_law 2150 = .ok (.iload 6, 2) := by decide +kernel
theorem dL_law_2152 : decode cL_law 2152 = .ok (.i2l, 1) := by decide +kernel
theorem dL_law_2153 : decode cL_law 2153 = .ok (.lcmp, 1) := by decide +kernel
theorem dL_law_2154 : decode cL_law 2154 = .ok (.ifCond .eq 5, 3) := by decide +kernel
theorem dL_law_2157 : decode cL_law 2157 = .ok (.iconst 0, 1) := by decide +kernel
theorem dL_law_2158 : decode cL_law 2158 = .ok (.ireturn, 1) := by decide +kernel
theorem dL_law_2159 : decode cL_law 2159 = .ok (.goto 371, 3) := by decide +kernel
theorem dL_law_2162 : decode cL_law 2162 = .ok (.aload_n 1, 1) := by decide +kernel
theorem dL_law_2163 : decode cL_law 2163 = .ok (.aload_n 0, 1) := by decide +kernel
theorem dL_law_2164 : decode cL_law 2164 = .ok (.iload 4, 2) := by decide +kernel
theorem dL_law_2166 : decode cL_law 2166 = .ok (.iconst 1, 1) := by decide +kernel
theorem dL_law_2167 : decode cL_law 2167 = .ok (.iadd, 1) := by decide +kernel
theorem dL_law_2168 : decode cL_law 2168 = .ok (.iaload, 1) := by decide +kernel
theorem dL_law_2169 : decode cL_law 2169 = .ok (.aload_n 3, 1) := by decide +kernel
theorem dL_law_2170 : decode cL_law 2170 = .ok (.invokestatic 238, 3) := by decide +kernel
theorem dL_law_2173 : decode cL_law 2173 = .ok (.istore 5, 2) := by decide +kernel
theorem dL_law_2175 : decode cL_law 2175 = .ok (.aload_n 2, 1) := by decide +kernel
theorem dL_law_2176 : decode cL_law 2176 = .ok (.aload_n 0, 1) := by decide +kernel
theorem dL_law_2177 : decode cL_law 2177 = .ok (.iload 4, 2) := by decide +kernel
theorem dL_law_2179 : decode cL_law 2179 = .ok (.iconst 1, 1) := by decide +kernel
theorem dL_law_2180 : decode cL_law 2180 = .ok (.iadd, 1) := by decide +kernel
theorem dL_law_2181 : decode cL_law 2181 = .ok (.iaload, 1) := by decide +kernel
theorem dL_law_2182 : decode cL_law 2182 = .ok (.invokevirtual 240, 3) := by decide +kernel
theorem dL_law_2185 : decode cL_law 2185 = .ok (.istore 6, 2) := by decide +kernel
theorem dL_law_2187 : decode cL_law 2187 = .ok (.aload_n 2, 1) := by decide +kernel
theorem dL_law_2188 : decode cL_law 2188 = .ok (.invokevirtual 135, 3) := by decide +kernel
theorem dL_law_2191 : decode cL_law 2191 = .ok (.iload 5, 2) := by decide +kernel
theorem dL_law_2193 : decode cL_law 2193 = .ok (.if_icmp .eq 5, 3) := by decide +kernel
theorem dL_law_2196 : decode cL_law 2196 = .ok (.iconst 0, 1) := by decide +kernel
theorem dL_law_2197 : decode cL_law 2197 = .ok (.ireturn, 1) := by decide +kernel
theorem dL_law_2198 : decode cL_law 2198 = .ok (.iload 5, 2) := by decide +kernel
theorem dL_law_2200 : decode cL_law 2200 = .ok (.ifCond .ne 15, 3) := by decide +kernel
theorem dL_law_2203 : decode cL_law 2203 = .ok (.aload_n 3, 1) := by decide +kernel
theorem dL_law_2204 : decode cL_law 2204 = .ok (.iconst 0, 1) := by decide +kernel
theorem dL_law_2205 : decode cL_law 2205 = .ok (.laload, 1) := by decide +kernel
theorem dL_law_2206 : decode cL_law 2206 = .ok (.iload 6, 2) := by decide +kernel
theorem dL_law_2208 : decode cL_law 2208 = .ok (.i2l, 1) := by decide +kernel
theorem dL_law_2209 : decode cL_law 2209 = .ok (.lcmp, 1) := by decide +kernel
theorem dL_law_2210 : decode cL_law 2210 = .ok (.ifCond .eq 5, 3) := by decide +kernel
theorem dL_law_2213 : decode cL_law 2213 = .ok (.iconst 0, 1) := by decide +kernel
theorem dL_law_2214 : decode cL_law 2214 = .ok (.ireturn, 1) := by decide +kernel
theorem dL_law_2215 : decode cL_law 2215 = .ok (.goto 315, 3) := by decide +kernel
theorem dL_law_2218 : decode cL_law 2218 = .ok (.aload_n 1, 1) := by decide +kernel
theorem dL_law_2219 : decode cL_law 2219 = .ok (.aload_n 0, 1) := by decide +kernel
theorem dL_law_2220 : decode cL_law 2220 = .ok (.iload 4, 2) := by decide +kernel
theorem dL_law_2222 : decode cL_law 2222 = .ok (.iconst 1, 1) := by decide +kernel
theorem dL_law_2223 : decode cL_law 2223 = .ok (.iadd, 1) := by decide +kernel
theorem dL_law_2224 : decode cL_law 2224 = .ok (.iaload, 1) := by decide +kernel
theorem dL_law_2225 : decode cL_law 2225 = .ok (.aload_n 0, 1) := by decide +kernel
theorem dL_law_2226 : decode cL_law 2226 = .ok (.iload 4, 2) := by decide +kernel
theorem dL_law_2228 : decode cL_law 2228 = .ok (.iconst 2, 1) := by decide +kernel
theorem dL_law_2229 : decode cL_law 2229 = .ok (.iadd, 1) := by decide +kernel
theorem dL_law_2230 : decode cL_law 2230 = .ok (.iaload, 1) := by decide +kernel
theorem dL_law_2231 : decode cL_law 2231 = .ok (.i2l, 1) := by decide +kernel
theorem dL_law_2232 : decode cL_law 2232 = .ok (.bipush 32, 2) := by decide +kernel
theorem dL_law_2234 : decode cL_law 2234 = .ok (.lshl, 1) := by decide +kernel
theorem dL_law_2235 : decode cL_law 2235 = .ok (.aload_n 0, 1) := by decide +kernel
theorem dL_law_2236 : decode cL_law 2236 = .ok (.iload 4, 2) := by decide +kernel
theorem dL_law_2238 : decode cL_law 2238 = .ok (.iconst 3, 1) := by decide +kernel
theorem dL_law_2239 : decode cL_law 2239 = .ok (.iadd, 1) := by decide +kernel
theorem dL_law_2240 : decode cL_law 2240 = .ok (.iaload, 1) := by decide +kernel
theorem dL_law_2241 : decode cL_law 2241 = .ok (.i2l, 1) := by decide +kernel
theorem dL_law_2242 : decode cL_law 2242 = .ok (.ldc2_w 241, 3) := by decide +kernel
theorem dL_law_2245 : decode cL_law 2245 = .ok (.land, 1) := by decide +kernel
theorem dL_law_2246 : decode cL_law 2246 = .ok (.lor, 1) := by decide +kernel
theorem dL_law_2247 : decode cL_law 2247 = .ok (.aload_n 3, 1) := by decide +kernel
theorem dL_law_2248 : decode cL_law 2248 = .ok (.invokestatic 243, 3) := by decide +kernel
theorem dL_law_2251 : decode cL_law 2251 = .ok (.istore 5, 2) := by decide +kernel
theorem dL_law_2253 : decode cL_law 2253 = .ok (.aload_n 2, 1) := by decide +kernel
theorem dL_law_2254 : decode cL_law 2254 = .ok (.aload_n 0, 1) := by decide +kernel
theorem dL_law_2255 : decode cL_law 2255 = .ok (.iload 4, 2) := by decide +kernel
theorem dL_law_2257 : decode cL_law 2257 = .ok (.iconst 1, 1) := by decide +kernel
theorem dL_law_2258 : decode cL_law 2258 = .ok (.iadd, 1) := by decide +kernel
theorem dL_law_2259 : decode cL_law 2259 = .ok (.iaload, 1) := by decide +kernel
theorem dL_law_2260 : decode cL_law 2260 = .ok (.aload_n 0, 1) := by decide +kernel
theorem dL_law_2261 : decode cL_law 2261 = .ok (.iload 4, 2) := by decide +kernel
theorem dL_law_2263 : decode cL_law 2263 = .ok (.iconst 2, 1) := by decide +kernel
theorem dL_law_2264 : decode cL_law 2264 = .ok (.iadd, 1) := by decide +kernel
theorem dL_law_2265 : decode cL_law 2265 = .ok (.iaload, 1) := by decide +kernel
theorem dL_law_2266 : decode cL_law 2266 = .ok (.i2l, 1) := by decide +kernel
theorem dL_law_2267 : decode cL_law 2267 = .ok (.bipush 32, 2) := by decide +kernel
theorem dL_law_2269 : decode cL_law 2269 = .ok (.lshl, 1) := by decide +kernel
theorem dL_law_2270 : decode cL_law 2270 = .ok (.aload_n 0, 1) := by decide +kernel
theorem dL_law_2271 : decode cL_law 2271 = .ok (.iload 4, 2) := by decide +kernel
theorem dL_law_2273 : decode cL_law 2273 = .ok (.iconst 3, 1) := by decide +kernel
theorem dL_law_2274 : decode cL_law 2274 = .ok (.iadd, 1) := by decide +kernel
theorem dL_law_2275 : decode cL_law 2275 = .ok (.iaload, 1) := by decide +kernel
theorem dL_law_2276 : decode cL_law 2276 = .ok (.i2l, 1) := by decide +kernel
theorem dL_law_2277 : decode cL_law 2277 = .ok (.ldc2_w 241, 3) := by decide +kernel
theorem dL_law_2280 : decode cL_law 2280 = .ok (.land, 1) := by decide +kernel
theorem dL_law_2281 : decode cL_law 2281 = .ok (.lor, 1) := by decide +kernel
theorem dL_law_2282 : decode cL_law 2282 = .ok (.invokevirtual 246, 3) := by decide +kernel
theorem dL_law_2285 : decode cL_law 2285 = .ok (.istore 6, 2) := by decide +kernel
theorem dL_law_2287 : decode cL_law 2287 = .ok (.aload_n 2, 1) := by decide +kernel
theorem dL_law_2288 : decode cL_law 2288 = .ok (.invokevirtual 135, 3) := by decide +kernel
theorem dL_law_2291 : decode cL_law 2291 = .ok (.iload 5, 2) := by decide +kernel
theorem dL_law_2293 : decode cL_law 2293 = .ok (.if_icmp .eq 5, 3) := by decide +kernel
theorem dL_law_2296 : decode cL_law 2296 = .ok (.iconst 0, 1) := by decide +kernel
theorem dL_law_2297 : decode cL_law 2297 = .ok (.ireturn, 1) := by decide +kernel
theorem dL_law_2298 : decode cL_law 2298 = .ok (.iload 5, 2) := by decide +kernel
theorem dL_law_2300 : decode cL_law 2300 = .ok (.ifCond .ne 15, 3) := by decide +kernel
theorem dL_law_2303 : decode cL_law 2303 = .ok (.aload_n 3, 1) := by decide +kernel
theorem dL_law_2304 : decode cL_law 2304 = .ok (.iconst 0, 1) := by decide +kernel
theorem dL_law_2305 : decode cL_law 2305 = .ok (.laload, 1) := by decide +kernel
theorem dL_law_2306 : decode cL_law 2306 = .ok (.iload 6, 2) := by decide +kernel
theorem dL_law_2308 : decode cL_law 2308 = .ok (.i2l, 1) := by decide +kernel
theorem dL_law_2309 : decode cL_law 2309 = .ok (.lcmp, 1) := by decide +kernel
theorem dL_law_2310 : decode cL_law 2310 = .ok (.ifCond .eq 5, 3) := by decide +kernel
theorem dL_law_2313 : decode cL_law 2313 = .ok (.iconst 0, 1) := by decide +kernel
theorem dL_law_2314 : decode cL_law 2314 = .ok (.ireturn, 1) := by decide +kernel
theorem dL_law_2315 : decode cL_law 2315 = .ok (.goto 215, 3) := by decide +kernel
theorem dL_law_2318 : decode cL_law 2318 = .ok (.aload_n 1, 1) := by decide +kernel
theorem dL_law_2319 : decode cL_law 2319 = .ok (.aload_n 0, 1) := by decide +kernel
theorem dL_law_2320 : decode cL_law 2320 = .ok (.iload 4, 2) := by decide +kernel
theorem dL_law_2322 : decode cL_law 2322 = .ok (.iconst 1, 1) := by decide +kernel
theorem dL_law_2323 : decode cL_law 2323 = .ok (.iadd, 1) := by decide +kernel
theorem dL_law_2324 : decode cL_law 2324 = .ok (.iaload, 1) := by decide +kernel
theorem dL_law_2325 : decode cL_law 2325 = .ok (.i2l, 1) := by decide +kernel
theorem dL_law_2326 : decode cL_law 2326 = .ok (.bipush 32, 2) := by decide +kernel
theorem dL_law_2328 : decode cL_law 2328 = .ok (.lshl, 1) := by decide +kernel
theorem dL_law_2329 : decode cL_law 2329 = .ok (.aload_n 0, 1) := by decide +kernel
theorem dL_law_2330 : decode cL_law 2330 = .ok (.iload 4, 2) := by decide +kernel
theorem dL_law_2332 : decode cL_law 2332 = .ok (.iconst 2, 1) := by decide +kernel
theorem dL_law_2333 : decode cL_law 2333 = .ok (.iadd, 1) := by decide +kernel
theorem dL_law_2334 : decode cL_law 2334 = .ok (.iaload, 1) := by decide +kernel
theorem dL_law_2335 : decode cL_law 2335 = .ok (.i2l, 1) := by decide +kernel
theorem dL_law_2336 : decode cL_law 2336 = .ok (.ldc2_w 241, 3) := by decide +kernel
theorem dL_law_2339 : decode cL_law 2339 = .ok (.land, 1) := by decide +kernel
theorem dL_law_2340 : decode cL_law 2340 = .ok (.lor, 1) := by decide +kernel
theorem dL_law_2341 : decode cL_law 2341 = .ok (.aload_n 0, 1) := by decide +kernel
theorem dL_law_2342 : decode cL_law 2342 = .ok (.iload 4, 2) := by decide +kernel
theorem dL_law_2344 : decode cL_law 2344 = .ok (.iconst 3, 1) := by decide +kernel
theorem dL_law_2345 : decode cL_law 2345 = .ok (.iadd, 1) := by decide +kernel
theorem dL_law_2346 : decode cL_law 2346 = .ok (.iaload, 1) := by decide +kernel
theorem dL_law_2347 : decode cL_law 2347 = .ok (.aload_n 3, 1) := by decide +kernel
theorem dL_law_2348 : decode cL_law 2348 = .ok (.invokestatic 247, 3) := by decide +kernel
theorem dL_law_2351 : decode cL_law 2351 = .ok (.istore 5, 2) := by decide +kernel
theorem dL_law_2353 : decode cL_law 2353 = .ok (.aload_n 2, 1) := by decide +kernel
theorem dL_law_2354 : decode cL_law 2354 = .ok (.aload_n 0, 1) := by decide +kernel
theorem dL_law_2355 : decode cL_law 2355 = .ok (.iload 4, 2) := by decide +kernel
theorem dL_law_2357 : decode cL_law 2357 = .ok (.iconst 1, 1) := by decide +kernel
theorem dL_law_2358 : decode cL_law 2358 = .ok (.iadd, 1) := by decide +kernel
theorem dL_law_2359 : decode cL_law 2359 = .ok (.iaload, 1) := by decide +kernel
theorem dL_law_2360 : decode cL_law 2360 = .ok (.i2l, 1) := by decide +kernel
theorem dL_law_2361 : decode cL_law 2361 = .ok (.bipush 32, 2) := by decide +kernel
theorem dL_law_2363 : decode cL_law 2363 = .ok (.lshl, 1) := by decide +kernel
theorem dL_law_2364 : decode cL_law 2364 = .ok (.aload_n 0, 1) := by decide +kernel
theorem dL_law_2365 : decode cL_law 2365 = .ok (.iload 4, 2) := by decide +kernel
theorem dL_law_2367 : decode cL_law 2367 = .ok (.iconst 2, 1) := by decide +kernel
theorem dL_law_2368 : decode cL_law 2368 = .ok (.iadd, 1) := by decide +kernel
theorem dL_law_2369 : decode cL_law 2369 = .ok (.iaload, 1) := by decide +kernel
theorem dL_law_2370 : decode cL_law 2370 = .ok (.i2l, 1) := by decide +kernel
theorem dL_law_2371 : decode cL_law 2371 = .ok (.ldc2_w 241, 3) := by decide +kernel
theorem dL_law_2374 : decode cL_law 2374 = .ok (.land, 1) := by decide +kernel
theorem dL_law_2375 : decode cL_law 2375 = .ok (.lor, 1) := by decide +kernel
theorem dL_law_2376 : decode cL_law 2376 = .ok (.aload_n 0, 1) := by decide +kernel
theorem dL_law_2377 : decode cL_law 2377 = .ok (.iload 4, 2) := by decide +kernel
theorem dL_law_2379 : decode cL_law 2379 = .ok (.iconst 3, 1) := by decide +kernel
theorem dL_law_2380 : decode cL_law 2380 = .ok (.iadd, 1) := by decide +kernel
theorem dL_law_2381 : decode cL_law 2381 = .ok (.iaload, 1) := by decide +kernel
theorem dL_law_2382 : decode cL_law 2382 = .ok (.invokevirtual 250, 3) := by decide +kernel
theorem dL_law_2385 : decode cL_law 2385 = .ok (.istore 6, 2) := by decide +kernel
theorem dL_law_2387 : decode cL_law 2387 = .ok (.aload_n 2, 1) := by decide +kernel
theorem dL_law_2388 : decode cL_law 2388 = .ok (.invokevirtual 135, 3) := by decide +kernel
theorem dL_law_2391 : decode cL_law 2391 = .ok (.iload 5, 2) := by decide +kernel
theorem dL_law_2393 : decode cL_law 2393 = .ok (.if_icmp .eq 5, 3) := by decide +kernel
theorem dL_law_2396 : decode cL_law 2396 = .ok (.iconst 0, 1) := by decide +kernel
theorem dL_law_2397 : decode cL_law 2397 = .ok (.ireturn, 1) := by decide +kernel
theorem dL_law_2398 : decode cL_law 2398 = .ok (.iload 5, 2) := by decide +kernel
theorem dL_law_2400 : decode cL_law 2400 = .ok (.ifCond .ne 15, 3) := by decide +kernel
theorem dL_law_2403 : decode cL_law 2403 = .ok (.aload_n 3, 1) := by decide +kernel
theorem dL_law_2404 : decode cL_law 2404 = .ok (.iconst 0, 1) := by decide +kernel
theorem dL_law_2405 : decode cL_law 2405 = .ok (.laload, 1) := by decide +kernel
theorem dL_law_2406 : decode cL_law 2406 = .ok (.iload 6, 2) := by decide +kernel
theorem dL_law_2408 : decode cL_law 2408 = .ok (.i2l, 1) := by decide +kernel
theorem dL_law_2409 : decode cL_law 2409 = .ok (.lcmp, 1) := by decide +kernel
theorem dL_law_2410 : decode cL_law 2410 = .ok (.ifCond .eq 5, 3) := by decide +kernel
theorem dL_law_2413 : decode cL_law 2413 = .ok (.iconst 0, 1) := by decide +kernel
theorem dL_law_2414 : decode cL_law 2414 = .ok (.ireturn, 1) := by decide +kernel
theorem dL_law_2415 : decode cL_law 2415 = .ok (.goto 115, 3) := by decide +kernel
theorem dL_law_2418 : decode cL_law 2418 = .ok (.aload_n 1, 1) := by decide +kernel
theorem dL_law_2419 : decode cL_law 2419 = .ok (.aload_n 0, 1) := by decide +kernel
theorem dL_law_2420 : decode cL_law 2420 = .ok (.iload 4, 2) := by decide +kernel
theorem dL_law_2422 : decode cL_law 2422 = .ok (.iconst 1, 1) := by decide +kernel
theorem dL_law_2423 : decode cL_law 2423 = .ok (.iadd, 1) := by decide +kernel
theorem dL_law_2424 : decode cL_law 2424 = .ok (.iaload, 1) := by decide +kernel
theorem dL_law_2425 : decode cL_law 2425 = .ok (.aload_n 3, 1) := by decide +kernel
theorem dL_law_2426 : decode cL_law 2426 = .ok (.invokestatic 251, 3) := by decide +kernel
theorem dL_law_2429 : decode cL_law 2429 = .ok (.istore 5, 2) := by decide +kernel
theorem dL_law_2431 : decode cL_law 2431 = .ok (.aload_n 2, 1) := by decide +kernel
theorem dL_law_2432 : decode cL_law 2432 = .ok (.aload_n 0, 1) := by decide +kernel
theorem dL_law_2433 : decode cL_law 2433 = .ok (.iload 4, 2) := by decide +kernel
theorem dL_law_2435 : decode cL_law 2435 = .ok (.iconst 1, 1) := by decide +kernel
theorem dL_law_2436 : decode cL_law 2436 = .ok (.iadd, 1) := by decide +kernel
theorem dL_law_2437 : decode cL_law 2437 = .ok (.iaload, 1) := by decide +kernel
theorem dL_law_2438 : decode cL_law 2438 = .ok (.invokevirtual 253, 3) := by decide +kernel
theorem dL_law_2441 : decode cL_law 2441 = .ok (.istore 6, 2) := by decide +kernel
theorem dL_law_2443 : decode cL_law 2443 = .ok (.aload_n 2, 1) := by decide +kernel
theorem dL_law_2444 : decode cL_law 2444 = .ok (.invokevirtual 135, 3) := by decide +kernel
theorem dL_law_2447 : decode cL_law 2447 = .ok (.iload 5, 2) := by decide +kernel
theorem dL_law_2449 : decode cL_law 2449 = .ok (.if_icmp .eq 5, 3) := by decide +kernel
theorem dL_law_2452 : decode cL_law 2452 = .ok (.iconst 0, 1) := by decide +kernel
theorem dL_law_2453 : decode cL_law 2453 = .ok (.ireturn, 1) := by decide +kernel
theorem dL_law_2454 : decode cL_law 2454 = .ok (.iload 5, 2) := by decide +kernel
theorem dL_law_2456 : decode cL_law 2456 = .ok (.ifCond .ne 15, 3) := by decide +kernel
theorem dL_law_2459 : decode cL_law 2459 = .ok (.aload_n 3, 1) := by decide +kernel
theorem dL_law_2460 : decode cL_law 2460 = .ok (.iconst 0, 1) := by decide +kernel
theorem dL_law_2461 : decode cL_law 2461 = .ok (.laload, 1) := by decide +kernel
theorem dL_law_2462 : decode cL_law 2462 = .ok (.iload 6, 2) := by decide +kernel
theorem dL_law_2464 : decode cL_law 2464 = .ok (.i2l, 1) := by decide +kernel
theorem dL_law_2465 : decode cL_law 2465 = .ok (.lcmp, 1) := by decide +kernel
theorem dL_law_2466 : decode cL_law 2466 = .ok (.ifCond .eq 5, 3) := by decide +kernel
theorem dL_law_2469 : decode cL_law 2469 = .ok (.iconst 0, 1) := by decide +kernel
theorem dL_law_2470 : decode cL_law 2470 = .ok (.ireturn, 1) := by decide +kernel
theorem dL_law_2471 : decode cL_law 2471 = .ok (.goto 59, 3) := by decide +kernel
theorem dL_law_2474 : decode cL_law 2474 = .ok (.aload_n 1, 1) := by decide +kernel
theorem dL_law_2475 : decode cL_law 2475 = .ok (.aload_n 0, 1) := by decide +kernel
theorem dL_law_2476 : decode cL_law 2476 = .ok (.iload 4, 2) := by decide +kernel
theorem dL_law_2478 : decode cL_law 2478 = .ok (.iconst 1, 1) := by decide +kernel
theorem dL_law_2479 : decode cL_law 2479 = .ok (.iadd, 1) := by decide +kernel
theorem dL_law_2480 : decode cL_law 2480 = .ok (.iaload, 1) := by decide +kernel
theorem dL_law_2481 : decode cL_law 2481 = .ok (.aload_n 3, 1) := by decide +kernel
theorem dL_law_2482 : decode cL_law 2482 = .ok (.invokestatic 254, 3) := by decide +kernel
theorem dL_law_2485 : decode cL_law 2485 = .ok (.istore 5, 2) := by decide +kernel
theorem dL_law_2487 : decode cL_law 2487 = .ok (.aload_n 2, 1) := by decide +kernel
theorem dL_law_2488 : decode cL_law 2488 = .ok (.aload_n 0, 1) := by decide +kernel
theorem dL_law_2489 : decode cL_law 2489 = .ok (.iload 4, 2) := by decide +kernel
theorem dL_law_2491 : decode cL_law 2491 = .ok (.iconst 1, 1) := by decide +kernel
theorem dL_law_2492 : decode cL_law 2492 = .ok (.iadd, 1) := by decide +kernel
theorem dL_law_2493 : decode cL_law 2493 = .ok (.iaload, 1) := by decide +kernel
theorem dL_law_2494 : decode cL_law 2494 = .ok (.invokevirtual 256, 3) := by decide +kernel
theorem dL_law_2497 : decode cL_law 2497 = .ok (.istore 6, 2) := by decide +kernel
theorem dL_law_2499 : decode cL_law 2499 = .ok (.aload_n 2, 1) := by decide +kernel
theorem dL_law_2500 : decode cL_law 2500 = .ok (.invokevirtual 135, 3) := by decide +kernel
theorem dL_law_2503 : decode cL_law 2503 = .ok (.iload 5, 2) := by decide +kernel
theorem dL_law_2505 : decode cL_law 2505 = .ok (.if_icmp .eq 5, 3) := by decide +kernel
theorem dL_law_2508 : decode cL_law 2508 = .ok (.iconst 0, 1) := by decide +kernel
theorem dL_law_2509 : decode cL_law 2509 = .ok (.ireturn, 1) := by decide +kernel
theorem dL_law_2510 : decode cL_law 2510 = .ok (.iload 5, 2) := by decide +kernel
theorem dL_law_2512 : decode cL_law 2512 = .ok (.ifCond .ne 15, 3) := by decide +kernel
theorem dL_law_2515 : decode cL_law 2515 = .ok (.aload_n 3, 1) := by decide +kernel
theorem dL_law_2516 : decode cL_law 2516 = .ok (.iconst 0, 1) := by decide +kernel
theorem dL_law_2517 : decode cL_law 2517 = .ok (.laload, 1) := by decide +kernel
theorem dL_law_2518 : decode cL_law 2518 = .ok (.iload 6, 2) := by decide +kernel
theorem dL_law_2520 : decode cL_law 2520 = .ok (.i2l, 1) := by decide +kernel
theorem dL_law_2521 : decode cL_law 2521 = .ok (.lcmp, 1) := by decide +kernel
theorem dL_law_2522 : decode cL_law 2522 = .ok (.ifCond .eq 5, 3) := by decide +kernel
theorem dL_law_2525 : decode cL_law 2525 = .ok (.iconst 0, 1) := by decide +kernel
theorem dL_law_2526 : decode cL_law 2526 = .ok (.ireturn, 1) := by decide +kernel
theorem dL_law_2527 : decode cL_law 2527 = .ok (.goto 3, 3) := by decide +kernel
theorem dL_law_2530 : decode cL_law 2530 = .ok (.iinc 4 4, 3) := by decide +kernel
theorem dL_law_2533 : decode cL_law 2533 = .ok (.goto (-2510), 3) := by decide +kernel
theorem dL_law_2536 : decode cL_law 2536 = .ok (.iconst 1, 1) := by decide +kernel
theorem dL_law_2537 : decode cL_law 2537 = .ok (.ireturn, 1) := by decide +kernel
