theorem dL_law_1488 : decode cL_law 1488 = .ok (.iadd, 1) := by decide +kernel
theorem dL_law_1489 : decode cL_law 1489 = .ok (.iaload, 1) := by decide +kernel
theorem dL_law_1490 : decode cL_law 1490 = .ok (.aload_n 0, 1) := by decide +kernel
theorem dL_law_1491 : decode cL_law 1491 = .ok (.iload_n 3, 1) := by decide +kernel
theorem dL_law_1492 : decode cL_law 1492 = .ok (.iconst 2, 1) := by decide +kernel
theorem dL_law_1493 : decode cL_law 1493 = .ok (.iadd, 1) := by decide +kernel
theorem dL_law_1494 : decode cL_law 1494 = .ok (.iaload, 1) := by decide +kernel
theorem dL_law_1495 : decode cL_law 1495 = .ok (.invokevirtual 175, 3) := by decide +kernel
theorem dL_law_1498 : decode cL_law 1498 = .ok (.if_icmp .eq 324, 3) := by decide +kernel
theorem dL_law_1501 : decode cL_law 1501 = .ok (.iconst 0, 1) := by decide +kernel
theorem dL_law_1502 : decode cL_law 1502 = .ok (.ireturn, 1) := by decide +kernel
theorem dL_law_1503 : decode cL_law 1503 = .ok (.aload_n 1, 1) := by decide +kernel
theorem dL_law_1504 : decode cL_law 1504 = .ok (.aload_n 0, 1) := by decide +kernel
theorem dL_law_1505 : decode cL_law 1505 = .ok (.iload_n 3, 1) := by decide +kernel
theorem dL_law_1506 : decode cL_law 1506 = .ok (.iconst 1, 1) := by decide +kernel
theorem dL_law_1507 : decode cL_law 1507 = .ok (.iadd, 1) := by decide +kernel
theorem dL_law_1508 : decode cL_law 1508 = .ok (.iaload, 1) := by decide +kernel
theorem dL_law_1509 : decode cL_law 1509 = .ok (.aload_n 0, 1) := by decide +kernel
theorem dL_law_1510 : decode cL_law 1510 = .ok (.iload_n 3, 1) := by decide +kernel
theorem dL_law_1511 : decode cL_law 1511 = .ok (.iconst 2, 1) := by decide +kernel
theorem dL_law_1512 : decode cL_law 1512 = .ok (.iadd, 1) := by decide +kernel
theorem dL_law_1513 : decode cL_law 1513 = .ok (.iaload, 1) := by decide +kernel
theorem dL_law_1514 : decode cL_law 1514 = .ok (.aload_n 0, 1) := by decide +kernel
theorem dL_law_1515 : decode cL_law 1515 = .ok (.iload_n 3, 1) := by decide +kernel
theorem dL_law_1516 : decode cL_law 1516 = .ok (.iconst 3, 1) := by decide +kernel
theorem dL_law_1517 : decode cL_law 1517 = .ok (.iadd, 1) := by decide +kernel
theorem dL_law_1518 : decode cL_law 1518 = .ok (.iaload, 1) := by decide +kernel
theorem dL_law_1519 : decode cL_law 1519 = .ok (.invokevirtual 176, 3) := by decide +kernel
theorem dL_law_1522 : decode cL_law 1522 = .ok (.aload_n 2, 1) := by decide +kernel
theorem dL_law_1523 : decode cL_law 1523 = .ok (.aload_n 0, 1) := by decide +kernel
theorem dL_law_1524 : decode cL_law 1524 = .ok (.iload_n 3, 1) := by decide +kernel
theorem dL_law_1525 : decode cL_law 1525 = .ok (.iconst 1, 1) := by decide +kernel
theorem dL_law_1526 : decode cL_law 1526 = .ok (.iadd, 1) := by decide +kernel
theorem dL_law_1527 : decode cL_law 1527 = .ok (.iaload, 1) := by decide +kernel
theorem dL_law_1528 : decode cL_law 1528 = .ok (.aload_n 0, 1) := by decide +kernel
theorem dL_law_1529 : decode cL_law 1529 = .ok (.iload_n 3, 1) := by decide +kernel
theorem dL_law_1530 : decode cL_law 1530 = .ok (.iconst 2, 1) := by decide +kernel
theorem dL_law_1531 : decode cL_law 1531 = .ok (.iadd, 1) := by decide +kernel
theorem dL_law_1532 : decode cL_law 1532 = .ok (.iaload, 1) := by decide +kernel
theorem dL_law_1533 : decode cL_law 1533 = .ok (.aload_n 0, 1) := by decide +kernel
theorem dL_law_1534 : decode cL_law 1534 = .ok (.iload_n 3, 1) := by decide +kernel
theorem dL_law_1535 : decode cL_law 1535 = .ok (.iconst 3, 1) := by decide +kernel
theorem dL_law_1536 : decode cL_law 1536 = .ok (.iadd, 1) := by decide +kernel
theorem dL_law_1537 : decode cL_law 1537 = .ok (.iaload, 1) := by decide +kernel
theorem dL_law_1538 : decode cL_law 1538 = .ok (.invokevirtual 179, 3) := by decide +kernel
theorem dL_law_1541 : decode cL_law 1541 = .ok (.if_icmp .eq 281, 3) := by decide +kernel
theorem dL_law_1544 : decode cL_law 1544 = .ok (.iconst 0, 1) := by decide +kernel
theorem dL_law_1545 : decode cL_law 1545 = .ok (.ireturn, 1) := by decide +kernel
theorem dL_law_1546 : decode cL_law 1546 = .ok (.aload_n 1, 1) := by decide +kernel
theorem dL_law_1547 : decode cL_law 1547 = .ok (.aload_n 0, 1) := by decide +kernel
theorem dL_law_1548 : decode cL_law 1548 = .ok (.iload_n 3, 1) := by decide +kernel
theorem dL_law_1549 : decode cL_law 1549 = .ok (.iconst 1, 1) := by decide +kernel
theorem dL_law_1550 : decode cL_law 1550 = .ok (.iadd, 1) := by decide +kernel
theorem dL_law_1551 : decode cL_law 1551 = .ok (.iaload, 1) := by decide +kernel
theorem dL_law_1552 : decode cL_law 1552 = .ok (.invokevirtual 180, 3) := by decide +kernel
theorem dL_law_1555 : decode cL_law 1555 = .ok (.aload_n 2, 1) := by decide +kernel
theorem dL_law_1556 : decode cL_law 1556 = .ok (.aload_n 0, 1) := by decide +kernel
theorem dL_law_1557 : decode cL_law 1557 = .ok (.iload_n 3, 1) := by decide +kernel
theorem dL_law_1558 : decode cL_law 1558 = .ok (.iconst 1, 1) := by decide +kernel
theorem dL_law_1559 : decode cL_law 1559 = .ok (.iadd, 1) := by decide +kernel
theorem dL_law_1560 : decode cL_law 1560 = .ok (.iaload, 1) := by decide +kernel
theorem dL_law_1561 : decode cL_law 1561 = .ok (.invokevirtual 183, 3) := by decide +kernel
theorem dL_law_1564 : decode cL_law 1564 = .ok (.if_icmp .eq 258, 3) := by decide +kernel
theorem dL_law_1567 : decode cL_law 1567 = .ok (.iconst 0, 1) := by decide +kernel
theorem dL_law_1568 : decode cL_law 1568 = .ok (.ireturn, 1) := by decide +kernel
theorem dL_law_1569 : decode cL_law 1569 = .ok (.aload_n 1, 1) := by decide +kernel
theorem dL_law_1570 : decode cL_law 1570 = .ok (.aload_n 0, 1) := by decide +kernel
theorem dL_law_1571 : decode cL_law 1571 = .ok (.iload_n 3, 1) := by decide +kernel
theorem dL_law_1572 : decode cL_law 1572 = .ok (.iconst 1, 1) := by decide +kernel
theorem dL_law_1573 : decode cL_law 1573 = .ok (.iadd, 1) := by decide +kernel
theorem dL_law_1574 : decode cL_law 1574 = .ok (.iaload, 1) := by decide +kernel
theorem dL_law_1575 : decode cL_law 1575 = .ok (.invokevirtual 184, 3) := by decide +kernel
theorem dL_law_1578 : decode cL_law 1578 = .ok (.aload_n 2, 1) := by decide +kernel
theorem dL_law_1579 : decode cL_law 1579 = .ok (.aload_n 0, 1) := by decide +kernel
theorem dL_law_1580 : decode cL_law 1580 = .ok (.iload_n 3, 1) := by decide +kernel
theorem dL_law_1581 : decode cL_law 1581 = .ok (.iconst 1, 1) := by decide +kernel
theorem dL_law_1582 : decode cL_law 1582 = .ok (.iadd, 1) := by decide +kernel
theorem dL_law_1583 : decode cL_law 1583 = .ok (.iaload, 1) := by decide +kernel
theorem dL_law_1584 : decode cL_law 1584 = .ok (.invokevirtual 187, 3) := by decide +kernel
theorem dL_law_1587 : decode cL_law 1587 = .ok (.if_icmp .eq 235, 3) := by decide +kernel
theorem dL_law_1590 : decode cL_law 1590 = .ok (.iconst 0, 1) := by decide +kernel
theorem dL_law_1591 : decode cL_law 1591 = .ok (.ireturn, 1) := by decide +kernel
theorem dL_law_1592 : decode cL_law 1592 = .ok (.aload_n 1, 1) := by decide +kernel
theorem dL_law_1593 : decode cL_law 1593 = .ok (.aload_n 0, 1) := by decide +kernel
theorem dL_law_1594 : decode cL_law 1594 = .ok (.iload_n 3, 1) := by decide +kernel
theorem dL_law_1595 : decode cL_law 1595 = .ok (.iconst 1, 1) := by decide +kernel
theorem dL_law_1596 : decode cL_law 1596 = .ok (.iadd, 1) := by decide +kernel
theorem dL_law_1597 : decode cL_law 1597 = .ok (.iaload, 1) := by decide +kernel
theorem dL_law_1598 : decode cL_law 1598 = .ok (.invokevirtual 188, 3) := by decide +kernel
theorem dL_law_1601 : decode cL_law 1601 = .ok (.aload_n 2, 1) := by decide +kernel
theorem dL_law_1602 : decode cL_law 1602 = .ok (.aload_n 0, 1) := by decide +kernel
theorem dL_law_1603 : decode cL_law 1603 = .ok (.iload_n 3, 1) := by decide +kernel
theorem dL_law_1604 : decode cL_law 1604 = .ok (.iconst 1, 1) := by decide +kernel
theorem dL_law_1605 : decode cL_law 1605 = .ok (.iadd, 1) := by decide +kernel
theorem dL_law_1606 : decode cL_law 1606 = .ok (.iaload, 1) := by decide +kernel
theorem dL_law_1607 : decode cL_law 1607 = .ok (.invokevirtual 191, 3) := by decide +kernel
theorem dL_law_1610 : decode cL_law 1610 = .ok (.if_icmp .eq 212, 3) := by decide +kernel
theorem dL_law_1613 : decode cL_law 1613 = .ok (.iconst 0, 1) := by decide +kernel
theorem dL_law_1614 : decode cL_law 1614 = .ok (.ireturn, 1) := by decide +kernel
theorem dL_law_1615 : decode cL_law 1615 = .ok (.aload_n 1, 1) := by decide +kernel
theorem dL_law_1616 : decode cL_law 1616 = .ok (.aload_n 0, 1) := by decide +kernel
theorem dL_law_1617 : decode cL_law 1617 = .ok (.iload_n 3, 1) := by decide +kernel
theorem dL_law_1618 : decode cL_law 1618 = .ok (.iconst 1, 1) := by decide +kernel
theorem dL_law_1619 : decode cL_law 1619 = .ok (.iadd, 1) := by decide +kernel
theorem dL_law_1620 : decode cL_law 1620 = .ok (.iaload, 1) := by decide +kernel
theorem dL_law_1621 : decode cL_law 1621 = .ok (.aload_n 0, 1) := by decide +kernel
theorem dL_law_1622 : decode cL_law 1622 = .ok (.iload_n 3, 1) := by decide +kernel
theorem dL_law_1623 : decode cL_law 1623 = .ok (.iconst 2, 1) := by decide +kernel
theorem dL_law_1624 : decode cL_law 1624 = .ok (.iadd, 1) := by decide +kernel
theorem dL_law_1625 : decode cL_law 1625 = .ok (.iaload, 1) := by decide +kernel
theorem dL_law_1626 : decode cL_law 1626 = .ok (.invokevirtual 192, 3) := by decide +kernel
theorem dL_law_1629 : decode cL_law 1629 = .ok (.aload_n 2, 1) := by decide +kernel
theorem dL_law_1630 : decode cL_law 1630 = .ok (.aload_n 0, 1) := by decide +kernel
theorem dL_law_1631 : decode cL_law 1631 = .ok (.iload_n 3, 1) := by decide +kernel
theorem dL_law_1632 : decode cL_law 1632 = .ok (.iconst 1, 1) := by decide +kernel
theorem dL_law_1633 : decode cL_law 1633 = .ok (.iadd, 1) := by decide +kernel
theorem dL_law_1634 : decode cL_law 1634 = .ok (.iaload, 1) := by decide +kernel
theorem dL_law_1635 : decode cL_law 1635 = .ok (.aload_n 0, 1) := by decide +kernel
theorem dL_law_1636 : decode cL_law 1636 = .ok (.iload_n 3, 1) := by decide +kernel
theorem dL_law_1637 : decode cL_law 1637 = .ok (.iconst 2, 1) := by decide +kernel
theorem dL_law_1638 : decode cL_law 1638 = .ok (.iadd, 1) := by decide +kernel
theorem dL_law_1639 : decode cL_law 1639 = .ok (.iaload, 1) := by decide +kernel
theorem dL_law_1640 : decode cL_law 1640 = .ok (.invokevirtual 195, 3) := by decide +kernel
theorem dL_law_1643 : decode cL_law 1643 = .ok (.if_icmp .eq 179, 3) := by decide +kernel
theorem dL_law_1646 : decode cL_law 1646 = .ok (.iconst 0, 1) := by decide +kernel
theorem dL_law_1647 : decode cL_law 1647 = .ok (.ireturn, 1) := by decide +kernel
theorem dL_law_1648 : decode cL_law 1648 = .ok (.aload_n 1, 1) := by decide +kernel
theorem dL_law_1649 : decode cL_law 1649 = .ok (.aload_n 0, 1) := by decide +kernel
theorem dL_law_1650 : decode cL_law 1650 = .ok (.iload_n 3, 1) := by decide +kernel
theorem dL_law_1651 : decode cL_law 1651 = .ok (.iconst 1, 1) := by decide +kernel
theorem dL_law_1652 : decode cL_law 1652 = .ok (.iadd, 1) := by decide +kernel
theorem dL_law_1653 : decode cL_law 1653 = .ok (.iaload, 1) := by decide +kernel
theorem dL_law_1654 : decode cL_law 1654 = .ok (.invokevirtual 196, 3) := by decide +kernel
theorem dL_law_1657 : decode cL_law 1657 = .ok (.aload_n 2, 1) := by decide +kernel
theorem dL_law_1658 : decode cL_law 1658 = .ok (.aload_n 0, 1) := by decide +kernel
theorem dL_law_1659 : decode cL_law 1659 = .ok (.iload_n 3, 1) := by decide +kernel
theorem dL_law_1660 : decode cL_law 1660 = .ok (.iconst 1, 1) := by decide +kernel
theorem dL_law_1661 : decode cL_law 1661 = .ok (.iadd, 1) := by decide +kernel
theorem dL_law_1662 : decode cL_law 1662 = .ok (.iaload, 1) := by decide +kernel
theorem dL_law_1663 : decode cL_law 1663 = .ok (.invokevirtual 199, 3) := by decide +kernel
theorem dL_law_1666 : decode cL_law 1666 = .ok (.if_icmp .eq 156, 3) := by decide +kernel
theorem dL_law_1669 : decode cL_law 1669 = .ok (.iconst 0, 1) := by decide +kernel
theorem dL_law_1670 : decode cL_law 1670 = .ok (.ireturn, 1) := by decide +kernel
theorem dL_law_1671 : decode cL_law 1671 = .ok (.aload_n 1, 1) := by decide +kernel
theorem dL_law_1672 : decode cL_law 1672 = .ok (.aload_n 0, 1) := by decide +kernel
theorem dL_law_1673 : decode cL_law 1673 = .ok (.iload_n 3, 1) := by decide +kernel
theorem dL_law_1674 : decode cL_law 1674 = .ok (.iconst 1, 1) := by decide +kernel
theorem dL_law_1675 : decode cL_law 1675 = .ok (.iadd, 1) := by decide +kernel
theorem dL_law_1676 : decode cL_law 1676 = .ok (.iaload, 1) := by decide +kernel
theorem dL_law_1677 : decode cL_law 1677 = .ok (.aload_n 0, 1) := by decide +kernel
theorem dL_law_1678 : decode cL_law 1678 = .ok (.iload_n 3, 1) := by decide +kernel
theorem dL_law_1679 : decode cL_law 1679 = .ok (.iconst 2, 1) := by decide +kernel
theorem dL_law_1680 : decode cL_law 1680 = .ok (.iadd, 1) := by decide +kernel
theorem dL_law_1681 : decode cL_law 1681 = .ok (.iaload, 1) := by decide +kernel
theorem dL_law_1682 : decode cL_law 1682 = .ok (.invokevirtual 200, 3) := by decide +kernel
theorem dL_law_1685 : decode cL_law 1685 = .ok (.aload_n 2, 1) := by decide +kernel
theorem dL_law_1686 : decode cL_law 1686 = .ok (.aload_n 0, 1) := by decide +kernel
theorem dL_law_1687 : decode cL_law 1687 = .ok (.iload_n 3, 1) := by decide +kernel
theorem dL_law_1688 : decode cL_law 1688 = .ok (.iconst 1, 1) := by decide +kernel
theorem dL_law_1689 : decode cL_law 1689 = .ok (.iadd, 1) := by decide +kernel
theorem dL_law_1690 : decode cL_law 1690 = .ok (.iaload, 1) := by decide +kernel
theorem dL_law_1691 : decode cL_law 1691 = .ok (.aload_n 0, 1) := by decide +kernel
theorem dL_law_1692 : decode cL_law 1692 = .ok (.iload_n 3, 1) := by decide +kernel
theorem dL_law_1693 : decode cL_law 1693 = .ok (.iconst 2, 1) := by decide +kernel
theorem dL_law_1694 : decode cL_law 1694 = .ok (.iadd, 1) := by decide +kernel
theorem dL_law_1695 : decode cL_law 1695 = .ok (.iaload, 1) := by decide +kernel
theorem dL_law_1696 : decode cL_law 1696 = .ok (.invokevirtual 203, 3) := by decide +kernel
theorem dL_law_1699 : decode cL_law 1699 = .ok (.if_icmp .eq 123, 3) := by decide +kernel
theorem dL_law_1702 : decode cL_law 1702 = .ok (.iconst 0, 1) := by decide +kernel
theorem dL_law_1703 : decode cL_law 1703 = .ok (.ireturn, 1) := by decide +kernel
theorem dL_law_1704 : decode cL_law 1704 = .ok (.aload_n 1, 1) := by decide +kernel
theorem dL_law_1705 : decode cL_law 1705 = .ok (.invokevirtual 204, 3) := by decide +kernel
theorem dL_law_1708 : decode cL_law 1708 = .ok (.aload_n 2, 1) := by decide +kernel
theorem dL_law_1709 : decode cL_law 1709 = .ok (.invokevirtual 207, 3) := by decide +kernel
theorem dL_law_1712 : decode cL_law 1712 = .ok (.if_icmp .eq 110, 3) := by decide +kernel
theorem dL_law_1715 : decode cL_law 1715 = .ok (.iconst 0, 1) := by decide +kernel
theorem dL_law_1716 : decode cL_law 1716 = .ok (.ireturn, 1) := by decide +kernel
theorem dL_law_1717 : decode cL_law 1717 = .ok (.aload_n 1, 1) := by decide +kernel
theorem dL_law_1718 : decode cL_law 1718 = .ok (.aload_n 0, 1) := by decide +kernel
theorem dL_law_1719 : decode cL_law 1719 = .ok (.iload_n 3, 1) := by decide +kernel
theorem dL_law_1720 : decode cL_law 1720 = .ok (.iconst 1, 1) := by decide +kernel
theorem dL_law_1721 : decode cL_law 1721 = .ok (.iadd, 1) := by decide +kernel
theorem dL_law_1722 : decode cL_law 1722 = .ok (.iaload, 1) := by decide +kernel
theorem dL_law_1723 : decode cL_law 1723 = .ok (.invokevirtual 208, 3) := by decide +kernel
theorem dL_law_1726 : decode cL_law 1726 = .ok (.aload_n 2, 1) := by decide +kernel
theorem dL_law_1727 : decode cL_law 1727 = .ok (.aload_n 0, 1) := by decide +kernel
theorem dL_law_1728 : decode cL_law 1728 = .ok (.iload_n 3, 1) := by decide +kernel
theorem dL_law_1729 : decode cL_law 1729 = .ok (.iconst 1, 1) := by decide +kernel
theorem dL_law_1730 : decode cL_law 1730 = .ok (.iadd, 1) := by decide +kernel
theorem dL_law_1731 : decode cL_law 1731 = .ok (.iaload, 1) := by decide +kernel
theorem dL_law_1732 : decode cL_law 1732 = .ok (.invokevirtual 211, 3) := by decide +kernel
theorem dL_law_1735 : decode cL_law 1735 = .ok (.if_icmp .eq 87, 3) := by decide +kernel
theorem dL_law_1738 : decode cL_law 1738 = .ok (.iconst 0, 1) := by decide +kernel
theorem dL_law_1739 : decode cL_law 1739 = .ok (.ireturn, 1) := by decide +kernel
theorem dL_law_1740 : decode cL_law 1740 = .ok (.aload_n 1, 1) := by decide +kernel
theorem dL_law_1741 : decode cL_law 1741 = .ok (.aload_n 0, 1) := by decide +kernel
theorem dL_law_1742 : decode cL_law 1742 = .ok (.iload_n 3, 1) := by decide +kernel
theorem dL_law_1743 : decode cL_law 1743 = .ok (.iconst 1, 1) := by decide +kernel
theorem dL_law_1744 : decode cL_law 1744 = .ok (.iadd, 1) := by decide +kernel
theorem dL_law_1745 : decode cL_law 1745 = .ok (.iaload, 1) := by decide +kernel
theorem dL_law_1746 : decode cL_law 1746 = .ok (.invokevirtual 212, 3) := by decide +kernel
theorem dL_law_1749 : decode cL_law 1749 = .ok (.aload_n 2, 1) := by decide +kernel
theorem dL_law_1750 : decode cL_law 1750 = .ok (.aload_n 0, 1) := by decide +kernel
theorem dL_law_1751 : decode cL_law 1751 = .ok (.iload_n 3, 1) := by decide +kernel
theorem dL_law_1752 : decode cL_law 1752 = .ok (.iconst 1, 1) := by decide +kernel
theorem dL_law_1753 : decode cL_law 1753 = .ok (.iadd, 1) := by decide +kernel
theorem dL_law_1754 : decode cL_law 1754 = .ok (.iaload, 1) := by decide +kernel
theorem dL_law_1755 : decode cL_law 1755 = .ok (.invokevirtual 215, 3) := by decide +kernel
theorem dL_law_1758 : decode cL_law 1758 = .ok (.if_icmp .eq 64, 3) := by decide +kernel
theorem dL_law_1761 : decode cL_law 1761 = .ok (.iconst 0, 1) := by decide +kernel
theorem dL_law_1762 : decode cL_law 1762 = .ok (.ireturn, 1) := by decide +kernel
theorem dL_law_1763 : decode cL_law 1763 = .ok (.aload_n 1, 1) := by decide +kernel
theorem dL_law_1764 : decode cL_law 1764 = .ok (.invokevirtual 216, 3) := by decide +kernel
theorem dL_law_1767 : decode cL_law 1767 = .ok (.aload_n 2, 1) := by decide +kernel
theorem dL_law_1768 : decode cL_law 1768 = .ok (.invokevirtual 219, 3) := by decide +kernel
theorem dL_law_1771 : decode cL_law 1771 = .ok (.if_icmp .eq 51, 3) := by decide +kernel
theorem dL_law_1774 : decode cL_law 1774 = .ok (.iconst 0, 1) := by decide +kernel
theorem dL_law_1775 : decode cL_law 1775 = .ok (.ireturn, 1) := by decide +kernel
theorem dL_law_1776 : decode cL_law 1776 = .ok (.aload_n 1, 1) := by decide +kernel
theorem dL_law_1777 : decode cL_law 1777 = .ok (.aload_n 0, 1) := by decide +kernel
theorem dL_law_1778 : decode cL_law 1778 = .ok (.iload_n 3, 1) := by decide +kernel
theorem dL_law_1779 : decode cL_law 1779 = .ok (.iconst 1, 1) := by decide +kernel
theorem dL_law_1780 : decode cL_law 1780 = .ok (.iadd, 1) := by decide +kernel
theorem dL_law_1781 : decode cL_law 1781 = .ok (.iaload, 1) := by decide +kernel
theorem dL_law_1782 : decode cL_law 1782 = .ok (.invokevirtual 220, 3) := by decide +kernel
theorem dL_law_1785 : decode cL_law 1785 = .ok (.aload_n 2, 1) := by decide +kernel
theorem dL_law_1786 : decode cL_law 1786 = .ok (.aload_n 0, 1) := by decide +kernel
theorem dL_law_1787 : decode cL_law 1787 = .ok (.iload_n 3, 1) := by decide +kernel
theorem dL_law_1788 : decode cL_law 1788 = .ok (.iconst 1, 1) := by decide +kernel
theorem dL_law_1789 : decode cL_law 1789 = .ok (.iadd, 1) := by decide +kernel
theorem dL_law_1790 : decode cL_law 1790 = .ok (.iaload, 1) := by decide +kernel
theorem dL_law_1791 : decode cL_law 1791 = .ok (.invokevirtual 223, 3) := by decide +kernel
theorem dL_law_1794 : decode cL_law 1794 = .ok (.if_icmp .eq 28, 3) := by decide +kernel
theorem dL_law_1797 : decode cL_law 1797 = .ok (.iconst 0, 1) := by decide +kernel
theorem dL_law_1798 : decode cL_law 1798 = .ok (.ireturn, 1) := by decide +kernel
theorem dL_law_1799 : decode cL_law 1799 = .ok (.aload_n 1, 1) := by decide +kernel
theorem dL_law_1800 : decode cL_law 1800 = .ok (.aload_n 0, 1) := by decide +kernel
theorem dL_law_1801 : decode cL_law 1801 = .ok (.iload_n 3, 1) := by decide +kernel
theorem dL_law_1802 : decode cL_law 1802 = .ok (.iconst 1, 1) := by decide +kernel
theorem dL_law_1803 : decode cL_law 1803 = .ok (.iadd, 1) := by decide +kernel
theorem dL_law_1804 : decode cL_law 1804 = .ok (.iaload, 1) := by decide +kernel
theorem dL_law_1805 : decode cL_law 1805 = .ok (.invokevirtual 224, 3) := by decide +kernel
theorem dL_law_1808 : decode cL_law 1808 = .ok (.aload_n 2, 1) := by decide +kernel
theorem dL_law_1809 : decode cL_law 1809 = .ok (.aload_n 0, 1) := by decide +kernel
theorem dL_law_1810 : decode cL_law 1810 = .ok (.iload_n 3, 1) := by decide +kernel
theorem dL_law_1811 : decode cL_law 1811 = .ok (.iconst 1, 1) := by decide +kernel
theorem dL_law_1812 : decode cL_law 1812 = .ok (.iadd, 1) := by decide +kernel
theorem dL_law_1813 : decode cL_law 1813 = .ok (.iaload, 1) := by decide +kernel
theorem dL_law_1814 : decode cL_law 1814 = .ok (.invokevirtual 227, 3) := by decide +kernel
theorem dL_law_1817 : decode cL_law 1817 = .ok (.if_icmp .eq 5, 3) := by decide +kernel
theorem dL_law_1820 : decode cL_law 1820 = .ok (.iconst 0, 1) := by decide +kernel
theorem dL_law_1821 : decode cL_law 1821 = .ok (.ireturn, 1) := by decide +kernel
theorem dL_law_1822 : decode cL_law 1822 = .ok (.iinc 3 6, 3) := by decide +kernel
theorem dL_law_1825 : decode cL_law 1825 = .ok (.goto (-1807), 3) := by decide +kernel
theorem dL_law_1828 : decode cL_law 1828 = .ok (.iconst 1, 1) := by decide +kernel
theorem dL_law_1829 : decode cL_law 1829 = .ok (.ireturn, 1) := by decide +kernel
