/-! ===== the law: its instructions, further ===== -/
theorem n_276_1572 : ∀ l, xpr 276 1572 l = l := xpr_no (by decide +kernel)
theorem r_276_1574 : xfetch 276 1574 = some (.iconst 2, 1) := by decide +kernel
theorem n_276_1574 : ∀ l, xpr 276 1574 l = l := xpr_no (by decide +kernel)
theorem r_276_1575 : xfetch 276 1575 = some (.iadd, 1) := by decide +kernel
theorem n_276_1575 : ∀ l, xpr 276 1575 l = l := xpr_no (by decide +kernel)
theorem r_276_1576 : xfetch 276 1576 = some (.iaload, 1) := by decide +kernel
theorem n_276_1576 : ∀ l, xpr 276 1576 l = l := xpr_no (by decide +kernel)
theorem r_276_1577 : xfetch 276 1577 = some (.invokevirtual 207, 3) := by decide +kernel
theorem n_276_1577 : ∀ l, xpr 276 1577 l = l := xpr_no (by decide +kernel)
theorem r_276_1580 : xfetch 276 1580 = some (.istore 6, 2) := by decide +kernel
theorem n_276_1580 : ∀ l, xpr 276 1580 l = l := xpr_no (by decide +kernel)
theorem r_276_1582 : xfetch 276 1582 = some (.aload_n 2, 1) := by decide +kernel
theorem n_276_1582 : ∀ l, xpr 276 1582 l = l := xpr_no (by decide +kernel)
theorem r_276_1583 : xfetch 276 1583 = some (.invokevirtual 133, 3) := by decide +kernel
theorem n_276_1583 : ∀ l, xpr 276 1583 l = l := xpr_no (by decide +kernel)
theorem r_276_1586 : xfetch 276 1586 = some (.iload 5, 2) := by decide +kernel
theorem n_276_1586 : ∀ l, xpr 276 1586 l = l := xpr_no (by decide +kernel)
theorem r_276_1588 : xfetch 276 1588 = some (.if_icmp .eq 5, 3) := by decide +kernel
theorem n_276_1588 : ∀ l, xpr 276 1588 l = l := xpr_no (by decide +kernel)
theorem r_276_1591 : xfetch 276 1591 = some (.iconst 0, 1) := by decide +kernel
theorem n_276_1591 : ∀ l, xpr 276 1591 l = l := xpr_no (by decide +kernel)
theorem r_276_1592 : xfetch 276 1592 = some (.ireturn, 1) := by decide +kernel
theorem n_276_1592 : ∀ l, xpr 276 1592 l = l := xpr_no (by decide +kernel)
theorem r_276_1593 : xfetch 276 1593 = some (.iload 5, 2) := by decide +kernel
theorem n_276_1593 : ∀ l, xpr 276 1593 l = l := xpr_no (by decide +kernel)
theorem r_276_1595 : xfetch 276 1595 = some (.ifCond .ne 15, 3) := by decide +kernel
theorem n_276_1595 : ∀ l, xpr 276 1595 l = l := xpr_no (by decide +kernel)
theorem r_276_1598 : xfetch 276 1598 = some (.aload_n 3, 1) := by decide +kernel
theorem n_276_1598 : ∀ l, xpr 276 1598 l = l := xpr_no (by decide +kernel)
theorem r_276_1599 : xfetch 276 1599 = some (.iconst 0, 1) := by decide +kernel
theorem n_276_1599 : ∀ l, xpr 276 1599 l = l := xpr_no (by decide +kernel)
theorem r_276_1600 : xfetch 276 1600 = some (.laload, 1) := by decide +kernel
theorem n_276_1600 : ∀ l, xpr 276 1600 l = l := xpr_no (by decide +kernel)
theorem r_276_1601 : xfetch 276 1601 = some (.iload 6, 2) := by decide +kernel
theorem n_276_1601 : ∀ l, xpr 276 1601 l = l := xpr_no (by decide +kernel)
theorem r_276_1603 : xfetch 276 1603 = some (.i2l, 1) := by decide +kernel
theorem n_276_1603 : ∀ l, xpr 276 1603 l = l := xpr_no (by decide +kernel)
theorem r_276_1604 : xfetch 276 1604 = some (.lcmp, 1) := by decide +kernel
theorem n_276_1604 : ∀ l, xpr 276 1604 l = l := xpr_no (by decide +kernel)
theorem r_276_1605 : xfetch 276 1605 = some (.ifCond .eq 5, 3) := by decide +kernel
theorem n_276_1605 : ∀ l, xpr 276 1605 l = l := xpr_no (by decide +kernel)
theorem r_276_1608 : xfetch 276 1608 = some (.iconst 0, 1) := by decide +kernel
theorem n_276_1608 : ∀ l, xpr 276 1608 l = l := xpr_no (by decide +kernel)
theorem r_276_1609 : xfetch 276 1609 = some (.ireturn, 1) := by decide +kernel
theorem n_276_1609 : ∀ l, xpr 276 1609 l = l := xpr_no (by decide +kernel)
theorem r_276_1610 : xfetch 276 1610 = some (.goto 1298, 3) := by decide +kernel
theorem n_276_1610 : ∀ l, xpr 276 1610 l = l := xpr_no (by decide +kernel)
theorem r_276_1613 : xfetch 276 1613 = some (.aload_n 1, 1) := by decide +kernel
theorem r_276_1614 : xfetch 276 1614 = some (.aload_n 0, 1) := by decide +kernel
theorem n_276_1614 : ∀ l, xpr 276 1614 l = l := xpr_no (by decide +kernel)
theorem r_276_1615 : xfetch 276 1615 = some (.iload 4, 2) := by decide +kernel
theorem n_276_1615 : ∀ l, xpr 276 1615 l = l := xpr_no (by decide +kernel)
theorem r_276_1617 : xfetch 276 1617 = some (.iconst 1, 1) := by decide +kernel
theorem n_276_1617 : ∀ l, xpr 276 1617 l = l := xpr_no (by decide +kernel)
theorem r_276_1618 : xfetch 276 1618 = some (.iadd, 1) := by decide +kernel
theorem n_276_1618 : ∀ l, xpr 276 1618 l = l := xpr_no (by decide +kernel)
theorem r_276_1619 : xfetch 276 1619 = some (.iaload, 1) := by decide +kernel
theorem n_276_1619 : ∀ l, xpr 276 1619 l = l := xpr_no (by decide +kernel)
theorem r_276_1620 : xfetch 276 1620 = some (.ifCond .eq 7, 3) := by decide +kernel
theorem n_276_1620 : ∀ l, xpr 276 1620 l = l := xpr_no (by decide +kernel)
theorem r_276_1623 : xfetch 276 1623 = some (.iconst 1, 1) := by decide +kernel
theorem n_276_1623 : ∀ l, xpr 276 1623 l = l := xpr_no (by decide +kernel)
theorem r_276_1624 : xfetch 276 1624 = some (.goto 4, 3) := by decide +kernel
theorem n_276_1624 : ∀ l, xpr 276 1624 l = l := xpr_no (by decide +kernel)
theorem r_276_1627 : xfetch 276 1627 = some (.iconst 0, 1) := by decide +kernel
theorem n_276_1627 : ∀ l, xpr 276 1627 l = l := xpr_no (by decide +kernel)
theorem r_276_1628 : xfetch 276 1628 = some (.invokevirtual 208, 3) := by decide +kernel
theorem n_276_1628 : ∀ l, xpr 276 1628 l = l := xpr_no (by decide +kernel)
theorem r_276_1631 : xfetch 276 1631 = some (.aload_n 2, 1) := by decide +kernel
theorem n_276_1631 : ∀ l, xpr 276 1631 l = l := xpr_no (by decide +kernel)
theorem r_276_1632 : xfetch 276 1632 = some (.aload_n 0, 1) := by decide +kernel
theorem n_276_1632 : ∀ l, xpr 276 1632 l = l := xpr_no (by decide +kernel)
theorem r_276_1633 : xfetch 276 1633 = some (.iload 4, 2) := by decide +kernel
theorem n_276_1633 : ∀ l, xpr 276 1633 l = l := xpr_no (by decide +kernel)
theorem r_276_1635 : xfetch 276 1635 = some (.iconst 1, 1) := by decide +kernel
theorem n_276_1635 : ∀ l, xpr 276 1635 l = l := xpr_no (by decide +kernel)
theorem r_276_1636 : xfetch 276 1636 = some (.iadd, 1) := by decide +kernel
theorem n_276_1636 : ∀ l, xpr 276 1636 l = l := xpr_no (by decide +kernel)
theorem r_276_1637 : xfetch 276 1637 = some (.iaload, 1) := by decide +kernel
theorem n_276_1637 : ∀ l, xpr 276 1637 l = l := xpr_no (by decide +kernel)
theorem r_276_1638 : xfetch 276 1638 = some (.ifCond .eq 7, 3) := by decide +kernel
theorem n_276_1638 : ∀ l, xpr 276 1638 l = l := xpr_no (by decide +kernel)
theorem r_276_1641 : xfetch 276 1641 = some (.iconst 1, 1) := by decide +kernel
theorem n_276_1641 : ∀ l, xpr 276 1641 l = l := xpr_no (by decide +kernel)
theorem r_276_1642 : xfetch 276 1642 = some (.goto 4, 3) := by decide +kernel
theorem n_276_1642 : ∀ l, xpr 276 1642 l = l := xpr_no (by decide +kernel)
theorem r_276_1645 : xfetch 276 1645 = some (.iconst 0, 1) := by decide +kernel
theorem n_276_1645 : ∀ l, xpr 276 1645 l = l := xpr_no (by decide +kernel)
theorem r_276_1646 : xfetch 276 1646 = some (.invokevirtual 212, 3) := by decide +kernel
theorem n_276_1646 : ∀ l, xpr 276 1646 l = l := xpr_no (by decide +kernel)
theorem r_276_1649 : xfetch 276 1649 = some (.if_icmp .eq 1259, 3) := by decide +kernel
theorem n_276_1649 : ∀ l, xpr 276 1649 l = l := xpr_no (by decide +kernel)
theorem r_276_1652 : xfetch 276 1652 = some (.iconst 0, 1) := by decide +kernel
theorem n_276_1652 : ∀ l, xpr 276 1652 l = l := xpr_no (by decide +kernel)
theorem r_276_1653 : xfetch 276 1653 = some (.ireturn, 1) := by decide +kernel
theorem n_276_1653 : ∀ l, xpr 276 1653 l = l := xpr_no (by decide +kernel)
theorem r_276_1654 : xfetch 276 1654 = some (.aload_n 1, 1) := by decide +kernel
theorem r_276_1655 : xfetch 276 1655 = some (.aload_n 0, 1) := by decide +kernel
theorem n_276_1655 : ∀ l, xpr 276 1655 l = l := xpr_no (by decide +kernel)
theorem r_276_1656 : xfetch 276 1656 = some (.iload 4, 2) := by decide +kernel
theorem n_276_1656 : ∀ l, xpr 276 1656 l = l := xpr_no (by decide +kernel)
theorem r_276_1658 : xfetch 276 1658 = some (.iconst 1, 1) := by decide +kernel
theorem n_276_1658 : ∀ l, xpr 276 1658 l = l := xpr_no (by decide +kernel)
theorem r_276_1659 : xfetch 276 1659 = some (.iadd, 1) := by decide +kernel
theorem n_276_1659 : ∀ l, xpr 276 1659 l = l := xpr_no (by decide +kernel)
theorem r_276_1660 : xfetch 276 1660 = some (.iaload, 1) := by decide +kernel
theorem n_276_1660 : ∀ l, xpr 276 1660 l = l := xpr_no (by decide +kernel)
theorem r_276_1661 : xfetch 276 1661 = some (.aload_n 0, 1) := by decide +kernel
theorem n_276_1661 : ∀ l, xpr 276 1661 l = l := xpr_no (by decide +kernel)
theorem r_276_1662 : xfetch 276 1662 = some (.iload 4, 2) := by decide +kernel
theorem n_276_1662 : ∀ l, xpr 276 1662 l = l := xpr_no (by decide +kernel)
theorem r_276_1664 : xfetch 276 1664 = some (.iconst 2, 1) := by decide +kernel
theorem n_276_1664 : ∀ l, xpr 276 1664 l = l := xpr_no (by decide +kernel)
theorem r_276_1665 : xfetch 276 1665 = some (.iadd, 1) := by decide +kernel
theorem n_276_1665 : ∀ l, xpr 276 1665 l = l := xpr_no (by decide +kernel)
theorem r_276_1666 : xfetch 276 1666 = some (.iaload, 1) := by decide +kernel
theorem n_276_1666 : ∀ l, xpr 276 1666 l = l := xpr_no (by decide +kernel)
theorem r_276_1667 : xfetch 276 1667 = some (.aload_n 0, 1) := by decide +kernel
theorem n_276_1667 : ∀ l, xpr 276 1667 l = l := xpr_no (by decide +kernel)
theorem r_276_1668 : xfetch 276 1668 = some (.iload 4, 2) := by decide +kernel
theorem n_276_1668 : ∀ l, xpr 276 1668 l = l := xpr_no (by decide +kernel)
theorem r_276_1670 : xfetch 276 1670 = some (.iconst 3, 1) := by decide +kernel
theorem n_276_1670 : ∀ l, xpr 276 1670 l = l := xpr_no (by decide +kernel)
theorem r_276_1671 : xfetch 276 1671 = some (.iadd, 1) := by decide +kernel
theorem n_276_1671 : ∀ l, xpr 276 1671 l = l := xpr_no (by decide +kernel)
theorem r_276_1672 : xfetch 276 1672 = some (.iaload, 1) := by decide +kernel
theorem n_276_1672 : ∀ l, xpr 276 1672 l = l := xpr_no (by decide +kernel)
theorem r_276_1673 : xfetch 276 1673 = some (.aload_n 3, 1) := by decide +kernel
theorem n_276_1673 : ∀ l, xpr 276 1673 l = l := xpr_no (by decide +kernel)
theorem r_276_1674 : xfetch 276 1674 = some (.invokestatic 213, 3) := by decide +kernel
theorem n_276_1674 : ∀ l, xpr 276 1674 l = l := xpr_no (by decide +kernel)
theorem r_276_1677 : xfetch 276 1677 = some (.istore 5, 2) := by decide +kernel
theorem n_276_1677 : ∀ l, xpr 276 1677 l = l := xpr_no (by decide +kernel)
theorem r_276_1679 : xfetch 276 1679 = some (.aload_n 2, 1) := by decide +kernel
theorem n_276_1679 : ∀ l, xpr 276 1679 l = l := xpr_no (by decide +kernel)
theorem r_276_1680 : xfetch 276 1680 = some (.aload_n 0, 1) := by decide +kernel
theorem n_276_1680 : ∀ l, xpr 276 1680 l = l := xpr_no (by decide +kernel)
theorem r_276_1681 : xfetch 276 1681 = some (.iload 4, 2) := by decide +kernel
theorem n_276_1681 : ∀ l, xpr 276 1681 l = l := xpr_no (by decide +kernel)
theorem r_276_1683 : xfetch 276 1683 = some (.iconst 1, 1) := by decide +kernel
theorem n_276_1683 : ∀ l, xpr 276 1683 l = l := xpr_no (by decide +kernel)
theorem r_276_1684 : xfetch 276 1684 = some (.iadd, 1) := by decide +kernel
theorem n_276_1684 : ∀ l, xpr 276 1684 l = l := xpr_no (by decide +kernel)
theorem r_276_1685 : xfetch 276 1685 = some (.iaload, 1) := by decide +kernel
theorem n_276_1685 : ∀ l, xpr 276 1685 l = l := xpr_no (by decide +kernel)
theorem r_276_1686 : xfetch 276 1686 = some (.aload_n 0, 1) := by decide +kernel
theorem n_276_1686 : ∀ l, xpr 276 1686 l = l := xpr_no (by decide +kernel)
theorem r_276_1687 : xfetch 276 1687 = some (.iload 4, 2) := by decide +kernel
theorem n_276_1687 : ∀ l, xpr 276 1687 l = l := xpr_no (by decide +kernel)
theorem r_276_1689 : xfetch 276 1689 = some (.iconst 2, 1) := by decide +kernel
theorem n_276_1689 : ∀ l, xpr 276 1689 l = l := xpr_no (by decide +kernel)
theorem r_276_1690 : xfetch 276 1690 = some (.iadd, 1) := by decide +kernel
theorem n_276_1690 : ∀ l, xpr 276 1690 l = l := xpr_no (by decide +kernel)
theorem r_276_1691 : xfetch 276 1691 = some (.iaload, 1) := by decide +kernel
theorem n_276_1691 : ∀ l, xpr 276 1691 l = l := xpr_no (by decide +kernel)
theorem r_276_1692 : xfetch 276 1692 = some (.aload_n 0, 1) := by decide +kernel
theorem n_276_1692 : ∀ l, xpr 276 1692 l = l := xpr_no (by decide +kernel)
theorem r_276_1693 : xfetch 276 1693 = some (.iload 4, 2) := by decide +kernel
theorem n_276_1693 : ∀ l, xpr 276 1693 l = l := xpr_no (by decide +kernel)
theorem r_276_1695 : xfetch 276 1695 = some (.iconst 3, 1) := by decide +kernel
theorem n_276_1695 : ∀ l, xpr 276 1695 l = l := xpr_no (by decide +kernel)
theorem r_276_1696 : xfetch 276 1696 = some (.iadd, 1) := by decide +kernel
theorem n_276_1696 : ∀ l, xpr 276 1696 l = l := xpr_no (by decide +kernel)
theorem r_276_1697 : xfetch 276 1697 = some (.iaload, 1) := by decide +kernel
theorem n_276_1697 : ∀ l, xpr 276 1697 l = l := xpr_no (by decide +kernel)
theorem r_276_1698 : xfetch 276 1698 = some (.invokevirtual 215, 3) := by decide +kernel
theorem n_276_1698 : ∀ l, xpr 276 1698 l = l := xpr_no (by decide +kernel)
theorem r_276_1701 : xfetch 276 1701 = some (.istore 6, 2) := by decide +kernel
theorem n_276_1701 : ∀ l, xpr 276 1701 l = l := xpr_no (by decide +kernel)
theorem r_276_1703 : xfetch 276 1703 = some (.aload_n 2, 1) := by decide +kernel
theorem n_276_1703 : ∀ l, xpr 276 1703 l = l := xpr_no (by decide +kernel)
theorem r_276_1704 : xfetch 276 1704 = some (.invokevirtual 133, 3) := by decide +kernel
theorem n_276_1704 : ∀ l, xpr 276 1704 l = l := xpr_no (by decide +kernel)
theorem r_276_1707 : xfetch 276 1707 = some (.iload 5, 2) := by decide +kernel
theorem n_276_1707 : ∀ l, xpr 276 1707 l = l := xpr_no (by decide +kernel)
theorem r_276_1709 : xfetch 276 1709 = some (.if_icmp .eq 5, 3) := by decide +kernel
theorem n_276_1709 : ∀ l, xpr 276 1709 l = l := xpr_no (by decide +kernel)
theorem r_276_1712 : xfetch 276 1712 = some (.iconst 0, 1) := by decide +kernel
theorem n_276_1712 : ∀ l, xpr 276 1712 l = l := xpr_no (by decide +kernel)
theorem r_276_1713 : xfetch 276 1713 = some (.ireturn, 1) := by decide +kernel
theorem n_276_1713 : ∀ l, xpr 276 1713 l = l := xpr_no (by decide +kernel)
theorem r_276_1714 : xfetch 276 1714 = some (.iload 5, 2) := by decide +kernel
theorem n_276_1714 : ∀ l, xpr 276 1714 l = l := xpr_no (by decide +kernel)
theorem r_276_1716 : xfetch 276 1716 = some (.ifCond .ne 15, 3) := by decide +kernel
theorem n_276_1716 : ∀ l, xpr 276 1716 l = l := xpr_no (by decide +kernel)
theorem r_276_1719 : xfetch 276 1719 = some (.aload_n 3, 1) := by decide +kernel
theorem n_276_1719 : ∀ l, xpr 276 1719 l = l := xpr_no (by decide +kernel)
theorem r_276_1720 : xfetch 276 1720 = some (.iconst 0, 1) := by decide +kernel
theorem n_276_1720 : ∀ l, xpr 276 1720 l = l := xpr_no (by decide +kernel)
theorem r_276_1721 : xfetch 276 1721 = some (.laload, 1) := by decide +kernel
theorem n_276_1721 : ∀ l, xpr 276 1721 l = l := xpr_no (by decide +kernel)
theorem r_276_1722 : xfetch 276 1722 = some (.iload 6, 2) := by decide +kernel
theorem n_276_1722 : ∀ l, xpr 276 1722 l = l := xpr_no (by decide +kernel)
theorem r_276_1724 : xfetch 276 1724 = some (.i2l, 1) := by decide +kernel
theorem n_276_1724 : ∀ l, xpr 276 1724 l = l := xpr_no (by decide +kernel)
theorem r_276_1725 : xfetch 276 1725 = some (.lcmp, 1) := by decide +kernel
theorem n_276_1725 : ∀ l, xpr 276 1725 l = l := xpr_no (by decide +kernel)
theorem r_276_1726 : xfetch 276 1726 = some (.ifCond .eq 5, 3) := by decide +kernel
theorem n_276_1726 : ∀ l, xpr 276 1726 l = l := xpr_no (by decide +kernel)
theorem r_276_1729 : xfetch 276 1729 = some (.iconst 0, 1) := by decide +kernel
theorem n_276_1729 : ∀ l, xpr 276 1729 l = l := xpr_no (by decide +kernel)
theorem r_276_1730 : xfetch 276 1730 = some (.ireturn, 1) := by decide +kernel
theorem n_276_1730 : ∀ l, xpr 276 1730 l = l := xpr_no (by decide +kernel)
theorem r_276_1731 : xfetch 276 1731 = some (.goto 1177, 3) := by decide +kernel
theorem n_276_1731 : ∀ l, xpr 276 1731 l = l := xpr_no (by decide +kernel)
theorem r_276_1734 : xfetch 276 1734 = some (.aload_n 1, 1) := by decide +kernel
theorem r_276_1735 : xfetch 276 1735 = some (.aload_n 0, 1) := by decide +kernel
theorem n_276_1735 : ∀ l, xpr 276 1735 l = l := xpr_no (by decide +kernel)
theorem r_276_1736 : xfetch 276 1736 = some (.iload 4, 2) := by decide +kernel
theorem n_276_1736 : ∀ l, xpr 276 1736 l = l := xpr_no (by decide +kernel)
theorem r_276_1738 : xfetch 276 1738 = some (.iconst 1, 1) := by decide +kernel
theorem n_276_1738 : ∀ l, xpr 276 1738 l = l := xpr_no (by decide +kernel)
theorem r_276_1739 : xfetch 276 1739 = some (.iadd, 1) := by decide +kernel
theorem n_276_1739 : ∀ l, xpr 276 1739 l = l := xpr_no (by decide +kernel)
theorem r_276_1740 : xfetch 276 1740 = some (.iaload, 1) := by decide +kernel
theorem n_276_1740 : ∀ l, xpr 276 1740 l = l := xpr_no (by decide +kernel)
theorem r_276_1741 : xfetch 276 1741 = some (.aload_n 0, 1) := by decide +kernel
theorem n_276_1741 : ∀ l, xpr 276 1741 l = l := xpr_no (by decide +kernel)
theorem r_276_1742 : xfetch 276 1742 = some (.iload 4, 2) := by decide +kernel
theorem n_276_1742 : ∀ l, xpr 276 1742 l = l := xpr_no (by decide +kernel)
theorem r_276_1744 : xfetch 276 1744 = some (.iconst 2, 1) := by decide +kernel
theorem n_276_1744 : ∀ l, xpr 276 1744 l = l := xpr_no (by decide +kernel)
theorem r_276_1745 : xfetch 276 1745 = some (.iadd, 1) := by decide +kernel
theorem n_276_1745 : ∀ l, xpr 276 1745 l = l := xpr_no (by decide +kernel)
theorem r_276_1746 : xfetch 276 1746 = some (.iaload, 1) := by decide +kernel
theorem n_276_1746 : ∀ l, xpr 276 1746 l = l := xpr_no (by decide +kernel)
theorem r_276_1747 : xfetch 276 1747 = some (.aload_n 0, 1) := by decide +kernel
theorem n_276_1747 : ∀ l, xpr 276 1747 l = l := xpr_no (by decide +kernel)
theorem r_276_1748 : xfetch 276 1748 = some (.iload 4, 2) := by decide +kernel
theorem n_276_1748 : ∀ l, xpr 276 1748 l = l := xpr_no (by decide +kernel)
theorem r_276_1750 : xfetch 276 1750 = some (.iconst 3, 1) := by decide +kernel
theorem n_276_1750 : ∀ l, xpr 276 1750 l = l := xpr_no (by decide +kernel)
theorem r_276_1751 : xfetch 276 1751 = some (.iadd, 1) := by decide +kernel
theorem n_276_1751 : ∀ l, xpr 276 1751 l = l := xpr_no (by decide +kernel)
theorem r_276_1752 : xfetch 276 1752 = some (.iaload, 1) := by decide +kernel
theorem n_276_1752 : ∀ l, xpr 276 1752 l = l := xpr_no (by decide +kernel)
theorem r_276_1753 : xfetch 276 1753 = some (.aload_n 3, 1) := by decide +kernel
theorem n_276_1753 : ∀ l, xpr 276 1753 l = l := xpr_no (by decide +kernel)
theorem r_276_1754 : xfetch 276 1754 = some (.invokestatic 216, 3) := by decide +kernel
theorem n_276_1754 : ∀ l, xpr 276 1754 l = l := xpr_no (by decide +kernel)
theorem r_276_1757 : xfetch 276 1757 = some (.istore 5, 2) := by decide +kernel
theorem n_276_1757 : ∀ l, xpr 276 1757 l = l := xpr_no (by decide +kernel)
theorem r_276_1759 : xfetch 276 1759 = some (.aload_n 2, 1) := by decide +kernel
theorem n_276_1759 : ∀ l, xpr 276 1759 l = l := xpr_no (by decide +kernel)
theorem r_276_1760 : xfetch 276 1760 = some (.aload_n 0, 1) := by decide +kernel
theorem n_276_1760 : ∀ l, xpr 276 1760 l = l := xpr_no (by decide +kernel)
theorem r_276_1761 : xfetch 276 1761 = some (.iload 4, 2) := by decide +kernel
theorem n_276_1761 : ∀ l, xpr 276 1761 l = l := xpr_no (by decide +kernel)
theorem r_276_1763 : xfetch 276 1763 = some (.iconst 1, 1) := by decide +kernel
theorem n_276_1763 : ∀ l, xpr 276 1763 l = l := xpr_no (by decide +kernel)
theorem r_276_1764 : xfetch 276 1764 = some (.iadd, 1) := by decide +kernel
theorem n_276_1764 : ∀ l, xpr 276 1764 l = l := xpr_no (by decide +kernel)
theorem r_276_1765 : xfetch 276 1765 = some (.iaload, 1) := by decide +kernel
theorem n_276_1765 : ∀ l, xpr 276 1765 l = l := xpr_no (by decide +kernel)
theorem r_276_1766 : xfetch 276 1766 = some (.aload_n 0, 1) := by decide +kernel
theorem n_276_1766 : ∀ l, xpr 276 1766 l = l := xpr_no (by decide +kernel)
theorem r_276_1767 : xfetch 276 1767 = some (.iload 4, 2) := by decide +kernel
theorem n_276_1767 : ∀ l, xpr 276 1767 l = l := xpr_no (by decide +kernel)
theorem r_276_1769 : xfetch 276 1769 = some (.iconst 2, 1) := by decide +kernel
theorem n_276_1769 : ∀ l, xpr 276 1769 l = l := xpr_no (by decide +kernel)
theorem r_276_1770 : xfetch 276 1770 = some (.iadd, 1) := by decide +kernel
theorem n_276_1770 : ∀ l, xpr 276 1770 l = l := xpr_no (by decide +kernel)
theorem r_276_1771 : xfetch 276 1771 = some (.iaload, 1) := by decide +kernel
theorem n_276_1771 : ∀ l, xpr 276 1771 l = l := xpr_no (by decide +kernel)
theorem r_276_1772 : xfetch 276 1772 = some (.aload_n 0, 1) := by decide +kernel
theorem n_276_1772 : ∀ l, xpr 276 1772 l = l := xpr_no (by decide +kernel)
theorem r_276_1773 : xfetch 276 1773 = some (.iload 4, 2) := by decide +kernel
theorem n_276_1773 : ∀ l, xpr 276 1773 l = l := xpr_no (by decide +kernel)
theorem r_276_1775 : xfetch 276 1775 = some (.iconst 3, 1) := by decide +kernel
theorem n_276_1775 : ∀ l, xpr 276 1775 l = l := xpr_no (by decide +kernel)
theorem r_276_1776 : xfetch 276 1776 = some (.iadd, 1) := by decide +kernel
theorem n_276_1776 : ∀ l, xpr 276 1776 l = l := xpr_no (by decide +kernel)
theorem r_276_1777 : xfetch 276 1777 = some (.iaload, 1) := by decide +kernel
theorem n_276_1777 : ∀ l, xpr 276 1777 l = l := xpr_no (by decide +kernel)
theorem r_276_1778 : xfetch 276 1778 = some (.invokevirtual 218, 3) := by decide +kernel
theorem n_276_1778 : ∀ l, xpr 276 1778 l = l := xpr_no (by decide +kernel)
theorem r_276_1781 : xfetch 276 1781 = some (.istore 6, 2) := by decide +kernel
theorem n_276_1781 : ∀ l, xpr 276 1781 l = l := xpr_no (by decide +kernel)
theorem r_276_1783 : xfetch 276 1783 = some (.aload_n 2, 1) := by decide +kernel
theorem n_276_1783 : ∀ l, xpr 276 1783 l = l := xpr_no (by decide +kernel)
theorem r_276_1784 : xfetch 276 1784 = some (.invokevirtual 133, 3) := by decide +kernel
theorem n_276_1784 : ∀ l, xpr 276 1784 l = l := xpr_no (by decide +kernel)
theorem r_276_1787 : xfetch 276 1787 = some (.iload 5, 2) := by decide +kernel
theorem n_276_1787 : ∀ l, xpr 276 1787 l = l := xpr_no (by decide +kernel)
theorem r_276_1789 : xfetch 276 1789 = some (.if_icmp .eq 5, 3) := by decide +kernel
theorem n_276_1789 : ∀ l, xpr 276 1789 l = l := xpr_no (by decide +kernel)
theorem r_276_1792 : xfetch 276 1792 = some (.iconst 0, 1) := by decide +kernel
theorem n_276_1792 : ∀ l, xpr 276 1792 l = l := xpr_no (by decide +kernel)
theorem r_276_1793 : xfetch 276 1793 = some (.ireturn, 1) := by decide +kernel
theorem n_276_1793 : ∀ l, xpr 276 1793 l = l := xpr_no (by decide +kernel)
theorem r_276_1794 : xfetch 276 1794 = some (.iload 5, 2) := by decide +kernel
theorem n_276_1794 : ∀ l, xpr 276 1794 l = l := xpr_no (by decide +kernel)
theorem r_276_1796 : xfetch 276 1796 = some (.ifCond .ne 15, 3) := by decide +kernel
theorem n_276_1796 : ∀ l, xpr 276 1796 l = l := xpr_no (by decide +kernel)
theorem r_276_1799 : xfetch 276 1799 = some (.aload_n 3, 1) := by decide +kernel
theorem n_276_1799 : ∀ l, xpr 276 1799 l = l := xpr_no (by decide +kernel)
theorem r_276_1800 : xfetch 276 1800 = some (.iconst 0, 1) := by decide +kernel
theorem n_276_1800 : ∀ l, xpr 276 1800 l = l := xpr_no (by decide +kernel)
theorem r_276_1801 : xfetch 276 1801 = some (.laload, 1) := by decide +kernel
theorem n_276_1801 : ∀ l, xpr 276 1801 l = l := xpr_no (by decide +kernel)
theorem r_276_1802 : xfetch 276 1802 = some (.iload 6, 2) := by decide +kernel
theorem n_276_1802 : ∀ l, xpr 276 1802 l = l := xpr_no (by decide +kernel)
theorem r_276_1804 : xfetch 276 1804 = some (.i2l, 1) := by decide +kernel
theorem n_276_1804 : ∀ l, xpr 276 1804 l = l := xpr_no (by decide +kernel)
theorem r_276_1805 : xfetch 276 1805 = some (.lcmp, 1) := by decide +kernel
theorem n_276_1805 : ∀ l, xpr 276 1805 l = l := xpr_no (by decide +kernel)
theorem r_276_1806 : xfetch 276 1806 = some (.ifCond .eq 5, 3) := by decide +kernel
theorem n_276_1806 : ∀ l, xpr 276 1806 l = l := xpr_no (by decide +kernel)
theorem r_276_1809 : xfetch 276 1809 = some (.iconst 0, 1) := by decide +kernel
theorem n_276_1809 : ∀ l, xpr 276 1809 l = l := xpr_no (by decide +kernel)
theorem r_276_1810 : xfetch 276 1810 = some (.ireturn, 1) := by decide +kernel
theorem n_276_1810 : ∀ l, xpr 276 1810 l = l := xpr_no (by decide +kernel)
theorem r_276_1811 : xfetch 276 1811 = some (.goto 1097, 3) := by decide +kernel
theorem n_276_1811 : ∀ l, xpr 276 1811 l = l := xpr_no (by decide +kernel)
theorem r_276_1814 : xfetch 276 1814 = some (.aload_n 1, 1) := by decide +kernel
theorem r_276_1815 : xfetch 276 1815 = some (.invokevirtual 219, 3) := by decide +kernel
theorem n_276_1815 : ∀ l, xpr 276 1815 l = l := xpr_no (by decide +kernel)
theorem r_276_1818 : xfetch 276 1818 = some (.aload_n 2, 1) := by decide +kernel
theorem n_276_1818 : ∀ l, xpr 276 1818 l = l := xpr_no (by decide +kernel)
theorem r_276_1819 : xfetch 276 1819 = some (.invokevirtual 222, 3) := by decide +kernel
theorem n_276_1819 : ∀ l, xpr 276 1819 l = l := xpr_no (by decide +kernel)
theorem r_276_1822 : xfetch 276 1822 = some (.if_icmp .eq 1086, 3) := by decide +kernel
theorem n_276_1822 : ∀ l, xpr 276 1822 l = l := xpr_no (by decide +kernel)
theorem r_276_1825 : xfetch 276 1825 = some (.iconst 0, 1) := by decide +kernel
theorem n_276_1825 : ∀ l, xpr 276 1825 l = l := xpr_no (by decide +kernel)
theorem r_276_1826 : xfetch 276 1826 = some (.ireturn, 1) := by decide +kernel
theorem n_276_1826 : ∀ l, xpr 276 1826 l = l := xpr_no (by decide +kernel)
theorem r_276_1827 : xfetch 276 1827 = some (.aload_n 1, 1) := by decide +kernel
theorem r_276_1828 : xfetch 276 1828 = some (.aload_n 0, 1) := by decide +kernel
theorem n_276_1828 : ∀ l, xpr 276 1828 l = l := xpr_no (by decide +kernel)
theorem r_276_1829 : xfetch 276 1829 = some (.iload 4, 2) := by decide +kernel
theorem n_276_1829 : ∀ l, xpr 276 1829 l = l := xpr_no (by decide +kernel)
theorem r_276_1831 : xfetch 276 1831 = some (.iconst 1, 1) := by decide +kernel
theorem n_276_1831 : ∀ l, xpr 276 1831 l = l := xpr_no (by decide +kernel)
theorem r_276_1832 : xfetch 276 1832 = some (.iadd, 1) := by decide +kernel
theorem n_276_1832 : ∀ l, xpr 276 1832 l = l := xpr_no (by decide +kernel)
theorem r_276_1833 : xfetch 276 1833 = some (.iaload, 1) := by decide +kernel
theorem n_276_1833 : ∀ l, xpr 276 1833 l = l := xpr_no (by decide +kernel)
theorem r_276_1834 : xfetch 276 1834 = some (.aload_n 0, 1) := by decide +kernel
theorem n_276_1834 : ∀ l, xpr 276 1834 l = l := xpr_no (by decide +kernel)
theorem r_276_1835 : xfetch 276 1835 = some (.iload 4, 2) := by decide +kernel
theorem n_276_1835 : ∀ l, xpr 276 1835 l = l := xpr_no (by decide +kernel)
theorem r_276_1837 : xfetch 276 1837 = some (.iconst 2, 1) := by decide +kernel
theorem n_276_1837 : ∀ l, xpr 276 1837 l = l := xpr_no (by decide +kernel)
theorem r_276_1838 : xfetch 276 1838 = some (.iadd, 1) := by decide +kernel
theorem n_276_1838 : ∀ l, xpr 276 1838 l = l := xpr_no (by decide +kernel)
theorem r_276_1839 : xfetch 276 1839 = some (.iaload, 1) := by decide +kernel
theorem n_276_1839 : ∀ l, xpr 276 1839 l = l := xpr_no (by decide +kernel)
theorem r_276_1840 : xfetch 276 1840 = some (.aload_n 0, 1) := by decide +kernel
theorem n_276_1840 : ∀ l, xpr 276 1840 l = l := xpr_no (by decide +kernel)
theorem r_276_1841 : xfetch 276 1841 = some (.iload 4, 2) := by decide +kernel
theorem n_276_1841 : ∀ l, xpr 276 1841 l = l := xpr_no (by decide +kernel)
theorem r_276_1843 : xfetch 276 1843 = some (.iconst 3, 1) := by decide +kernel
theorem n_276_1843 : ∀ l, xpr 276 1843 l = l := xpr_no (by decide +kernel)
theorem r_276_1844 : xfetch 276 1844 = some (.iadd, 1) := by decide +kernel
theorem n_276_1844 : ∀ l, xpr 276 1844 l = l := xpr_no (by decide +kernel)
theorem r_276_1845 : xfetch 276 1845 = some (.iaload, 1) := by decide +kernel
theorem n_276_1845 : ∀ l, xpr 276 1845 l = l := xpr_no (by decide +kernel)
theorem r_276_1846 : xfetch 276 1846 = some (.ifCond .eq 7, 3) := by decide +kernel
theorem n_276_1846 : ∀ l, xpr 276 1846 l = l := xpr_no (by decide +kernel)
theorem r_276_1849 : xfetch 276 1849 = some (.iconst 1, 1) := by decide +kernel
theorem n_276_1849 : ∀ l, xpr 276 1849 l = l := xpr_no (by decide +kernel)
theorem r_276_1850 : xfetch 276 1850 = some (.goto 4, 3) := by decide +kernel
theorem n_276_1850 : ∀ l, xpr 276 1850 l = l := xpr_no (by decide +kernel)
theorem r_276_1853 : xfetch 276 1853 = some (.iconst 0, 1) := by decide +kernel
theorem n_276_1853 : ∀ l, xpr 276 1853 l = l := xpr_no (by decide +kernel)
theorem r_276_1854 : xfetch 276 1854 = some (.aload_n 3, 1) := by decide +kernel
theorem n_276_1854 : ∀ l, xpr 276 1854 l = l := xpr_no (by decide +kernel)
theorem r_276_1855 : xfetch 276 1855 = some (.invokestatic 223, 3) := by decide +kernel
theorem n_276_1855 : ∀ l, xpr 276 1855 l = l := xpr_no (by decide +kernel)
theorem r_276_1858 : xfetch 276 1858 = some (.istore 5, 2) := by decide +kernel
theorem n_276_1858 : ∀ l, xpr 276 1858 l = l := xpr_no (by decide +kernel)
theorem r_276_1860 : xfetch 276 1860 = some (.aload_n 2, 1) := by decide +kernel
theorem n_276_1860 : ∀ l, xpr 276 1860 l = l := xpr_no (by decide +kernel)
theorem r_276_1861 : xfetch 276 1861 = some (.aload_n 0, 1) := by decide +kernel
theorem n_276_1861 : ∀ l, xpr 276 1861 l = l := xpr_no (by decide +kernel)
theorem r_276_1862 : xfetch 276 1862 = some (.iload 4, 2) := by decide +kernel
theorem n_276_1862 : ∀ l, xpr 276 1862 l = l := xpr_no (by decide +kernel)
theorem r_276_1864 : xfetch 276 1864 = some (.iconst 1, 1) := by decide +kernel
theorem n_276_1864 : ∀ l, xpr 276 1864 l = l := xpr_no (by decide +kernel)
theorem r_276_1865 : xfetch 276 1865 = some (.iadd, 1) := by decide +kernel
theorem n_276_1865 : ∀ l, xpr 276 1865 l = l := xpr_no (by decide +kernel)
theorem r_276_1866 : xfetch 276 1866 = some (.iaload, 1) := by decide +kernel
theorem n_276_1866 : ∀ l, xpr 276 1866 l = l := xpr_no (by decide +kernel)
theorem r_276_1867 : xfetch 276 1867 = some (.aload_n 0, 1) := by decide +kernel
theorem n_276_1867 : ∀ l, xpr 276 1867 l = l := xpr_no (by decide +kernel)
theorem r_276_1868 : xfetch 276 1868 = some (.iload 4, 2) := by decide +kernel
theorem n_276_1868 : ∀ l, xpr 276 1868 l = l := xpr_no (by decide +kernel)
theorem r_276_1870 : xfetch 276 1870 = some (.iconst 2, 1) := by decide +kernel
theorem n_276_1870 : ∀ l, xpr 276 1870 l = l := xpr_no (by decide +kernel)
theorem r_276_1871 : xfetch 276 1871 = some (.iadd, 1) := by decide +kernel
theorem n_276_1871 : ∀ l, xpr 276 1871 l = l := xpr_no (by decide +kernel)
theorem r_276_1872 : xfetch 276 1872 = some (.iaload, 1) := by decide +kernel
theorem n_276_1872 : ∀ l, xpr 276 1872 l = l := xpr_no (by decide +kernel)
theorem r_276_1873 : xfetch 276 1873 = some (.aload_n 0, 1) := by decide +kernel
theorem n_276_1873 : ∀ l, xpr 276 1873 l = l := xpr_no (by decide +kernel)
theorem r_276_1874 : xfetch 276 1874 = some (.iload 4, 2) := by decide +kernel
theorem n_276_1874 : ∀ l, xpr 276 1874 l = l := xpr_no (by decide +kernel)
theorem r_276_1876 : xfetch 276 1876 = some (.iconst 3, 1) := by decide +kernel
theorem n_276_1876 : ∀ l, xpr 276 1876 l = l := xpr_no (by decide +kernel)
theorem r_276_1877 : xfetch 276 1877 = some (.iadd, 1) := by decide +kernel
theorem n_276_1877 : ∀ l, xpr 276 1877 l = l := xpr_no (by decide +kernel)
theorem r_276_1878 : xfetch 276 1878 = some (.iaload, 1) := by decide +kernel
theorem n_276_1878 : ∀ l, xpr 276 1878 l = l := xpr_no (by decide +kernel)
theorem r_276_1879 : xfetch 276 1879 = some (.ifCond .eq 7, 3) := by decide +kernel
theorem n_276_1879 : ∀ l, xpr 276 1879 l = l := xpr_no (by decide +kernel)
theorem r_276_1882 : xfetch 276 1882 = some (.iconst 1, 1) := by decide +kernel
theorem n_276_1882 : ∀ l, xpr 276 1882 l = l := xpr_no (by decide +kernel)
theorem r_276_1883 : xfetch 276 1883 = some (.goto 4, 3) := by decide +kernel
theorem n_276_1883 : ∀ l, xpr 276 1883 l = l := xpr_no (by decide +kernel)
theorem r_276_1886 : xfetch 276 1886 = some (.iconst 0, 1) := by decide +kernel
theorem n_276_1886 : ∀ l, xpr 276 1886 l = l := xpr_no (by decide +kernel)
theorem r_276_1887 : xfetch 276 1887 = some (.invokevirtual 226, 3) := by decide +kernel
theorem n_276_1887 : ∀ l, xpr 276 1887 l = l := xpr_no (by decide +kernel)
theorem r_276_1890 : xfetch 276 1890 = some (.istore 6, 2) := by decide +kernel
theorem n_276_1890 : ∀ l, xpr 276 1890 l = l := xpr_no (by decide +kernel)
theorem r_276_1892 : xfetch 276 1892 = some (.aload_n 2, 1) := by decide +kernel
theorem n_276_1892 : ∀ l, xpr 276 1892 l = l := xpr_no (by decide +kernel)
theorem r_276_1893 : xfetch 276 1893 = some (.invokevirtual 133, 3) := by decide +kernel
theorem n_276_1893 : ∀ l, xpr 276 1893 l = l := xpr_no (by decide +kernel)
theorem r_276_1896 : xfetch 276 1896 = some (.iload 5, 2) := by decide +kernel
theorem n_276_1896 : ∀ l, xpr 276 1896 l = l := xpr_no (by decide +kernel)
theorem r_276_1898 : xfetch 276 1898 = some (.if_icmp .eq 5, 3) := by decide +kernel
theorem n_276_1898 : ∀ l, xpr 276 1898 l = l := xpr_no (by decide +kernel)
theorem r_276_1901 : xfetch 276 1901 = some (.iconst 0, 1) := by decide +kernel
theorem n_276_1901 : ∀ l, xpr 276 1901 l = l := xpr_no (by decide +kernel)
theorem r_276_1902 : xfetch 276 1902 = some (.ireturn, 1) := by decide +kernel
theorem n_276_1902 : ∀ l, xpr 276 1902 l = l := xpr_no (by decide +kernel)
theorem r_276_1903 : xfetch 276 1903 = some (.iload 5, 2) := by decide +kernel
theorem n_276_1903 : ∀ l, xpr 276 1903 l = l := xpr_no (by decide +kernel)
theorem r_276_1905 : xfetch 276 1905 = some (.ifCond .ne 15, 3) := by decide +kernel
theorem n_276_1905 : ∀ l, xpr 276 1905 l = l := xpr_no (by decide +kernel)
theorem r_276_1908 : xfetch 276 1908 = some (.aload_n 3, 1) := by decide +kernel
theorem n_276_1908 : ∀ l, xpr 276 1908 l = l := xpr_no (by decide +kernel)
theorem r_276_1909 : xfetch 276 1909 = some (.iconst 0, 1) := by decide +kernel
theorem n_276_1909 : ∀ l, xpr 276 1909 l = l := xpr_no (by decide +kernel)
theorem r_276_1910 : xfetch 276 1910 = some (.laload, 1) := by decide +kernel
theorem n_276_1910 : ∀ l, xpr 276 1910 l = l := xpr_no (by decide +kernel)
theorem r_276_1911 : xfetch 276 1911 = some (.iload 6, 2) := by decide +kernel
theorem n_276_1911 : ∀ l, xpr 276 1911 l = l := xpr_no (by decide +kernel)
theorem r_276_1913 : xfetch 276 1913 = some (.i2l, 1) := by decide +kernel
theorem n_276_1913 : ∀ l, xpr 276 1913 l = l := xpr_no (by decide +kernel)
theorem r_276_1914 : xfetch 276 1914 = some (.lcmp, 1) := by decide +kernel
theorem n_276_1914 : ∀ l, xpr 276 1914 l = l := xpr_no (by decide +kernel)
theorem r_276_1915 : xfetch 276 1915 = some (.ifCond .eq 5, 3) := by decide +kernel
theorem n_276_1915 : ∀ l, xpr 276 1915 l = l := xpr_no (by decide +kernel)
theorem r_276_1918 : xfetch 276 1918 = some (.iconst 0, 1) := by decide +kernel
theorem n_276_1918 : ∀ l, xpr 276 1918 l = l := xpr_no (by decide +kernel)
theorem r_276_1919 : xfetch 276 1919 = some (.ireturn, 1) := by decide +kernel
theorem n_276_1919 : ∀ l, xpr 276 1919 l = l := xpr_no (by decide +kernel)
theorem r_276_1920 : xfetch 276 1920 = some (.goto 988, 3) := by decide +kernel
theorem n_276_1920 : ∀ l, xpr 276 1920 l = l := xpr_no (by decide +kernel)
theorem r_276_1923 : xfetch 276 1923 = some (.aload_n 1, 1) := by decide +kernel
theorem r_276_1924 : xfetch 276 1924 = some (.aload_n 0, 1) := by decide +kernel
theorem n_276_1924 : ∀ l, xpr 276 1924 l = l := xpr_no (by decide +kernel)
theorem r_276_1925 : xfetch 276 1925 = some (.iload 4, 2) := by decide +kernel
theorem n_276_1925 : ∀ l, xpr 276 1925 l = l := xpr_no (by decide +kernel)
theorem r_276_1927 : xfetch 276 1927 = some (.iconst 1, 1) := by decide +kernel
theorem n_276_1927 : ∀ l, xpr 276 1927 l = l := xpr_no (by decide +kernel)
theorem r_276_1928 : xfetch 276 1928 = some (.iadd, 1) := by decide +kernel
theorem n_276_1928 : ∀ l, xpr 276 1928 l = l := xpr_no (by decide +kernel)
theorem r_276_1929 : xfetch 276 1929 = some (.iaload, 1) := by decide +kernel
theorem n_276_1929 : ∀ l, xpr 276 1929 l = l := xpr_no (by decide +kernel)
theorem r_276_1930 : xfetch 276 1930 = some (.aload_n 0, 1) := by decide +kernel
theorem n_276_1930 : ∀ l, xpr 276 1930 l = l := xpr_no (by decide +kernel)
theorem r_276_1931 : xfetch 276 1931 = some (.iload 4, 2) := by decide +kernel
theorem n_276_1931 : ∀ l, xpr 276 1931 l = l := xpr_no (by decide +kernel)
theorem r_276_1933 : xfetch 276 1933 = some (.iconst 2, 1) := by decide +kernel
theorem n_276_1933 : ∀ l, xpr 276 1933 l = l := xpr_no (by decide +kernel)
theorem r_276_1934 : xfetch 276 1934 = some (.iadd, 1) := by decide +kernel
theorem n_276_1934 : ∀ l, xpr 276 1934 l = l := xpr_no (by decide +kernel)
theorem r_276_1935 : xfetch 276 1935 = some (.iaload, 1) := by decide +kernel
theorem n_276_1935 : ∀ l, xpr 276 1935 l = l := xpr_no (by decide +kernel)
theorem r_276_1936 : xfetch 276 1936 = some (.aload_n 0, 1) := by decide +kernel
theorem n_276_1936 : ∀ l, xpr 276 1936 l = l := xpr_no (by decide +kernel)
theorem r_276_1937 : xfetch 276 1937 = some (.iload 4, 2) := by decide +kernel
theorem n_276_1937 : ∀ l, xpr 276 1937 l = l := xpr_no (by decide +kernel)
theorem r_276_1939 : xfetch 276 1939 = some (.iconst 3, 1) := by decide +kernel
theorem n_276_1939 : ∀ l, xpr 276 1939 l = l := xpr_no (by decide +kernel)
theorem r_276_1940 : xfetch 276 1940 = some (.iadd, 1) := by decide +kernel
theorem n_276_1940 : ∀ l, xpr 276 1940 l = l := xpr_no (by decide +kernel)
theorem r_276_1941 : xfetch 276 1941 = some (.iaload, 1) := by decide +kernel
theorem n_276_1941 : ∀ l, xpr 276 1941 l = l := xpr_no (by decide +kernel)
theorem r_276_1942 : xfetch 276 1942 = some (.i2l, 1) := by decide +kernel
theorem n_276_1942 : ∀ l, xpr 276 1942 l = l := xpr_no (by decide +kernel)
theorem r_276_1943 : xfetch 276 1943 = some (.bipush 32, 2) := by decide +kernel
theorem n_276_1943 : ∀ l, xpr 276 1943 l = l := xpr_no (by decide +kernel)
theorem r_276_1945 : xfetch 276 1945 = some (.lshl, 1) := by decide +kernel
theorem n_276_1945 : ∀ l, xpr 276 1945 l = l := xpr_no (by decide +kernel)
theorem r_276_1946 : xfetch 276 1946 = some (.aload_n 0, 1) := by decide +kernel
theorem n_276_1946 : ∀ l, xpr 276 1946 l = l := xpr_no (by decide +kernel)
theorem r_276_1947 : xfetch 276 1947 = some (.iload 4, 2) := by decide +kernel
theorem n_276_1947 : ∀ l, xpr 276 1947 l = l := xpr_no (by decide +kernel)
theorem r_276_1949 : xfetch 276 1949 = some (.iconst 4, 1) := by decide +kernel
theorem n_276_1949 : ∀ l, xpr 276 1949 l = l := xpr_no (by decide +kernel)
theorem r_276_1950 : xfetch 276 1950 = some (.iadd, 1) := by decide +kernel
theorem n_276_1950 : ∀ l, xpr 276 1950 l = l := xpr_no (by decide +kernel)
theorem r_276_1951 : xfetch 276 1951 = some (.iaload, 1) := by decide +kernel
theorem n_276_1951 : ∀ l, xpr 276 1951 l = l := xpr_no (by decide +kernel)
theorem r_276_1952 : xfetch 276 1952 = some (.i2l, 1) := by decide +kernel
theorem n_276_1952 : ∀ l, xpr 276 1952 l = l := xpr_no (by decide +kernel)
theorem r_276_1953 : xfetch 276 1953 = some (.ldc2_w 196, 3) := by decide +kernel
theorem n_276_1953 : ∀ l, xpr 276 1953 l = l := xpr_no (by decide +kernel)
theorem r_276_1956 : xfetch 276 1956 = some (.land, 1) := by decide +kernel
theorem n_276_1956 : ∀ l, xpr 276 1956 l = l := xpr_no (by decide +kernel)
theorem r_276_1957 : xfetch 276 1957 = some (.lor, 1) := by decide +kernel
theorem n_276_1957 : ∀ l, xpr 276 1957 l = l := xpr_no (by decide +kernel)
theorem r_276_1958 : xfetch 276 1958 = some (.aload_n 0, 1) := by decide +kernel
theorem n_276_1958 : ∀ l, xpr 276 1958 l = l := xpr_no (by decide +kernel)
theorem r_276_1959 : xfetch 276 1959 = some (.iload 4, 2) := by decide +kernel
theorem n_276_1959 : ∀ l, xpr 276 1959 l = l := xpr_no (by decide +kernel)
theorem r_276_1961 : xfetch 276 1961 = some (.iconst 5, 1) := by decide +kernel
theorem n_276_1961 : ∀ l, xpr 276 1961 l = l := xpr_no (by decide +kernel)
theorem r_276_1962 : xfetch 276 1962 = some (.iadd, 1) := by decide +kernel
theorem n_276_1962 : ∀ l, xpr 276 1962 l = l := xpr_no (by decide +kernel)
theorem r_276_1963 : xfetch 276 1963 = some (.iaload, 1) := by decide +kernel
theorem n_276_1963 : ∀ l, xpr 276 1963 l = l := xpr_no (by decide +kernel)
theorem r_276_1964 : xfetch 276 1964 = some (.i2l, 1) := by decide +kernel
theorem n_276_1964 : ∀ l, xpr 276 1964 l = l := xpr_no (by decide +kernel)
theorem r_276_1965 : xfetch 276 1965 = some (.bipush 32, 2) := by decide +kernel
theorem n_276_1965 : ∀ l, xpr 276 1965 l = l := xpr_no (by decide +kernel)
theorem r_276_1967 : xfetch 276 1967 = some (.lshl, 1) := by decide +kernel
theorem n_276_1967 : ∀ l, xpr 276 1967 l = l := xpr_no (by decide +kernel)
theorem r_276_1968 : xfetch 276 1968 = some (.aload_n 0, 1) := by decide +kernel
theorem n_276_1968 : ∀ l, xpr 276 1968 l = l := xpr_no (by decide +kernel)
theorem r_276_1969 : xfetch 276 1969 = some (.iload 4, 2) := by decide +kernel
theorem n_276_1969 : ∀ l, xpr 276 1969 l = l := xpr_no (by decide +kernel)
theorem r_276_1971 : xfetch 276 1971 = some (.bipush 6, 2) := by decide +kernel
theorem n_276_1971 : ∀ l, xpr 276 1971 l = l := xpr_no (by decide +kernel)
theorem r_276_1973 : xfetch 276 1973 = some (.iadd, 1) := by decide +kernel
theorem n_276_1973 : ∀ l, xpr 276 1973 l = l := xpr_no (by decide +kernel)
theorem r_276_1974 : xfetch 276 1974 = some (.iaload, 1) := by decide +kernel
theorem n_276_1974 : ∀ l, xpr 276 1974 l = l := xpr_no (by decide +kernel)
theorem r_276_1975 : xfetch 276 1975 = some (.i2l, 1) := by decide +kernel
theorem n_276_1975 : ∀ l, xpr 276 1975 l = l := xpr_no (by decide +kernel)
theorem r_276_1976 : xfetch 276 1976 = some (.ldc2_w 196, 3) := by decide +kernel
theorem n_276_1976 : ∀ l, xpr 276 1976 l = l := xpr_no (by decide +kernel)
theorem r_276_1979 : xfetch 276 1979 = some (.land, 1) := by decide +kernel
theorem n_276_1979 : ∀ l, xpr 276 1979 l = l := xpr_no (by decide +kernel)
theorem r_276_1980 : xfetch 276 1980 = some (.lor, 1) := by decide +kernel
theorem n_276_1980 : ∀ l, xpr 276 1980 l = l := xpr_no (by decide +kernel)
theorem r_276_1981 : xfetch 276 1981 = some (.aload_n 3, 1) := by decide +kernel
theorem n_276_1981 : ∀ l, xpr 276 1981 l = l := xpr_no (by decide +kernel)
theorem r_276_1982 : xfetch 276 1982 = some (.invokestatic 227, 3) := by decide +kernel
theorem n_276_1982 : ∀ l, xpr 276 1982 l = l := xpr_no (by decide +kernel)
theorem r_276_1985 : xfetch 276 1985 = some (.istore 5, 2) := by decide +kernel
theorem n_276_1985 : ∀ l, xpr 276 1985 l = l := xpr_no (by decide +kernel)
theorem r_276_1987 : xfetch 276 1987 = some (.aload_n 2, 1) := by decide +kernel
theorem n_276_1987 : ∀ l, xpr 276 1987 l = l := xpr_no (by decide +kernel)
theorem r_276_1988 : xfetch 276 1988 = some (.aload_n 0, 1) := by decide +kernel
theorem n_276_1988 : ∀ l, xpr 276 1988 l = l := xpr_no (by decide +kernel)
theorem r_276_1989 : xfetch 276 1989 = some (.iload 4, 2) := by decide +kernel
theorem n_276_1989 : ∀ l, xpr 276 1989 l = l := xpr_no (by decide +kernel)
theorem r_276_1991 : xfetch 276 1991 = some (.iconst 1, 1) := by decide +kernel
theorem n_276_1991 : ∀ l, xpr 276 1991 l = l := xpr_no (by decide +kernel)
theorem r_276_1992 : xfetch 276 1992 = some (.iadd, 1) := by decide +kernel
theorem n_276_1992 : ∀ l, xpr 276 1992 l = l := xpr_no (by decide +kernel)
theorem r_276_1993 : xfetch 276 1993 = some (.iaload, 1) := by decide +kernel
theorem n_276_1993 : ∀ l, xpr 276 1993 l = l := xpr_no (by decide +kernel)
theorem r_276_1994 : xfetch 276 1994 = some (.aload_n 0, 1) := by decide +kernel
theorem n_276_1994 : ∀ l, xpr 276 1994 l = l := xpr_no (by decide +kernel)
theorem r_276_1995 : xfetch 276 1995 = some (.iload 4, 2) := by decide +kernel
theorem n_276_1995 : ∀ l, xpr 276 1995 l = l := xpr_no (by decide +kernel)
theorem r_276_1997 : xfetch 276 1997 = some (.iconst 2, 1) := by decide +kernel
theorem n_276_1997 : ∀ l, xpr 276 1997 l = l := xpr_no (by decide +kernel)
theorem r_276_1998 : xfetch 276 1998 = some (.iadd, 1) := by decide +kernel
theorem n_276_1998 : ∀ l, xpr 276 1998 l = l := xpr_no (by decide +kernel)
theorem r_276_1999 : xfetch 276 1999 = some (.iaload, 1) := by decide +kernel
theorem n_276_1999 : ∀ l, xpr 276 1999 l = l := xpr_no (by decide +kernel)
theorem r_276_2000 : xfetch 276 2000 = some (.aload_n 0, 1) := by decide +kernel
theorem n_276_2000 : ∀ l, xpr 276 2000 l = l := xpr_no (by decide +kernel)
theorem r_276_2001 : xfetch 276 2001 = some (.iload 4, 2) := by decide +kernel
theorem n_276_2001 : ∀ l, xpr 276 2001 l = l := xpr_no (by decide +kernel)
theorem r_276_2003 : xfetch 276 2003 = some (.iconst 3, 1) := by decide +kernel
theorem n_276_2003 : ∀ l, xpr 276 2003 l = l := xpr_no (by decide +kernel)
theorem r_276_2004 : xfetch 276 2004 = some (.iadd, 1) := by decide +kernel
theorem n_276_2004 : ∀ l, xpr 276 2004 l = l := xpr_no (by decide +kernel)
theorem r_276_2005 : xfetch 276 2005 = some (.iaload, 1) := by decide +kernel
theorem n_276_2005 : ∀ l, xpr 276 2005 l = l := xpr_no (by decide +kernel)
theorem r_276_2006 : xfetch 276 2006 = some (.i2l, 1) := by decide +kernel
theorem n_276_2006 : ∀ l, xpr 276 2006 l = l := xpr_no (by decide +kernel)
theorem r_276_2007 : xfetch 276 2007 = some (.bipush 32, 2) := by decide +kernel
theorem n_276_2007 : ∀ l, xpr 276 2007 l = l := xpr_no (by decide +kernel)
theorem r_276_2009 : xfetch 276 2009 = some (.lshl, 1) := by decide +kernel
theorem n_276_2009 : ∀ l, xpr 276 2009 l = l := xpr_no (by decide +kernel)
theorem r_276_2010 : xfetch 276 2010 = some (.aload_n 0, 1) := by decide +kernel
theorem n_276_2010 : ∀ l, xpr 276 2010 l = l := xpr_no (by decide +kernel)
theorem r_276_2011 : xfetch 276 2011 = some (.iload 4, 2) := by decide +kernel
theorem n_276_2011 : ∀ l, xpr 276 2011 l = l := xpr_no (by decide +kernel)
theorem r_276_2013 : xfetch 276 2013 = some (.iconst 4, 1) := by decide +kernel
theorem n_276_2013 : ∀ l, xpr 276 2013 l = l := xpr_no (by decide +kernel)
theorem r_276_2014 : xfetch 276 2014 = some (.iadd, 1) := by decide +kernel
theorem n_276_2014 : ∀ l, xpr 276 2014 l = l := xpr_no (by decide +kernel)
theorem r_276_2015 : xfetch 276 2015 = some (.iaload, 1) := by decide +kernel
theorem n_276_2015 : ∀ l, xpr 276 2015 l = l := xpr_no (by decide +kernel)
theorem r_276_2016 : xfetch 276 2016 = some (.i2l, 1) := by decide +kernel
theorem n_276_2016 : ∀ l, xpr 276 2016 l = l := xpr_no (by decide +kernel)
theorem r_276_2017 : xfetch 276 2017 = some (.ldc2_w 196, 3) := by decide +kernel
theorem n_276_2017 : ∀ l, xpr 276 2017 l = l := xpr_no (by decide +kernel)
theorem r_276_2020 : xfetch 276 2020 = some (.land, 1) := by decide +kernel
theorem n_276_2020 : ∀ l, xpr 276 2020 l = l := xpr_no (by decide +kernel)
theorem r_276_2021 : xfetch 276 2021 = some (.lor, 1) := by decide +kernel
theorem n_276_2021 : ∀ l, xpr 276 2021 l = l := xpr_no (by decide +kernel)
theorem r_276_2022 : xfetch 276 2022 = some (.aload_n 0, 1) := by decide +kernel
theorem n_276_2022 : ∀ l, xpr 276 2022 l = l := xpr_no (by decide +kernel)
theorem r_276_2023 : xfetch 276 2023 = some (.iload 4, 2) := by decide +kernel
theorem n_276_2023 : ∀ l, xpr 276 2023 l = l := xpr_no (by decide +kernel)
theorem r_276_2025 : xfetch 276 2025 = some (.iconst 5, 1) := by decide +kernel
theorem n_276_2025 : ∀ l, xpr 276 2025 l = l := xpr_no (by decide +kernel)
theorem r_276_2026 : xfetch 276 2026 = some (.iadd, 1) := by decide +kernel
theorem n_276_2026 : ∀ l, xpr 276 2026 l = l := xpr_no (by decide +kernel)
theorem r_276_2027 : xfetch 276 2027 = some (.iaload, 1) := by decide +kernel
theorem n_276_2027 : ∀ l, xpr 276 2027 l = l := xpr_no (by decide +kernel)
theorem r_276_2028 : xfetch 276 2028 = some (.i2l, 1) := by decide +kernel
theorem n_276_2028 : ∀ l, xpr 276 2028 l = l := xpr_no (by decide +kernel)
theorem r_276_2029 : xfetch 276 2029 = some (.bipush 32, 2) := by decide +kernel
theorem n_276_2029 : ∀ l, xpr 276 2029 l = l := xpr_no (by decide +kernel)
theorem r_276_2031 : xfetch 276 2031 = some (.lshl, 1) := by decide +kernel
theorem n_276_2031 : ∀ l, xpr 276 2031 l = l := xpr_no (by decide +kernel)
theorem r_276_2032 : xfetch 276 2032 = some (.aload_n 0, 1) := by decide +kernel
theorem n_276_2032 : ∀ l, xpr 276 2032 l = l := xpr_no (by decide +kernel)
theorem r_276_2033 : xfetch 276 2033 = some (.iload 4, 2) := by decide +kernel
theorem n_276_2033 : ∀ l, xpr 276 2033 l = l := xpr_no (by decide +kernel)
theorem r_276_2035 : xfetch 276 2035 = some (.bipush 6, 2) := by decide +kernel
theorem n_276_2035 : ∀ l, xpr 276 2035 l = l := xpr_no (by decide +kernel)
theorem r_276_2037 : xfetch 276 2037 = some (.iadd, 1) := by decide +kernel
theorem n_276_2037 : ∀ l, xpr 276 2037 l = l := xpr_no (by decide +kernel)
theorem r_276_2038 : xfetch 276 2038 = some (.iaload, 1) := by decide +kernel
theorem n_276_2038 : ∀ l, xpr 276 2038 l = l := xpr_no (by decide +kernel)
theorem r_276_2039 : xfetch 276 2039 = some (.i2l, 1) := by decide +kernel
theorem n_276_2039 : ∀ l, xpr 276 2039 l = l := xpr_no (by decide +kernel)
theorem r_276_2040 : xfetch 276 2040 = some (.ldc2_w 196, 3) := by decide +kernel
theorem n_276_2040 : ∀ l, xpr 276 2040 l = l := xpr_no (by decide +kernel)
theorem r_276_2043 : xfetch 276 2043 = some (.land, 1) := by decide +kernel
theorem n_276_2043 : ∀ l, xpr 276 2043 l = l := xpr_no (by decide +kernel)
theorem r_276_2044 : xfetch 276 2044 = some (.lor, 1) := by decide +kernel
theorem n_276_2044 : ∀ l, xpr 276 2044 l = l := xpr_no (by decide +kernel)
theorem r_276_2045 : xfetch 276 2045 = some (.invokevirtual 230, 3) := by decide +kernel
theorem n_276_2045 : ∀ l, xpr 276 2045 l = l := xpr_no (by decide +kernel)
theorem r_276_2048 : xfetch 276 2048 = some (.istore 6, 2) := by decide +kernel
theorem n_276_2048 : ∀ l, xpr 276 2048 l = l := xpr_no (by decide +kernel)
theorem r_276_2050 : xfetch 276 2050 = some (.aload_n 2, 1) := by decide +kernel
theorem n_276_2050 : ∀ l, xpr 276 2050 l = l := xpr_no (by decide +kernel)
theorem r_276_2051 : xfetch 276 2051 = some (.invokevirtual 133, 3) := by decide +kernel
theorem n_276_2051 : ∀ l, xpr 276 2051 l = l := xpr_no (by decide +kernel)
theorem r_276_2054 : xfetch 276 2054 = some (.iload 5, 2) := by decide +kernel
theorem n_276_2054 : ∀ l, xpr 276 2054 l = l := xpr_no (by decide +kernel)
theorem r_276_2056 : xfetch 276 2056 = some (.if_icmp .eq 5, 3) := by decide +kernel
theorem n_276_2056 : ∀ l, xpr 276 2056 l = l := xpr_no (by decide +kernel)
theorem r_276_2059 : xfetch 276 2059 = some (.iconst 0, 1) := by decide +kernel
theorem n_276_2059 : ∀ l, xpr 276 2059 l = l := xpr_no (by decide +kernel)
theorem r_276_2060 : xfetch 276 2060 = some (.ireturn, 1) := by decide +kernel
theorem n_276_2060 : ∀ l, xpr 276 2060 l = l := xpr_no (by decide +kernel)
theorem r_276_2061 : xfetch 276 2061 = some (.iload 5, 2) := by decide +kernel
theorem n_276_2061 : ∀ l, xpr 276 2061 l = l := xpr_no (by decide +kernel)
theorem r_276_2063 : xfetch 276 2063 = some (.ifCond .ne 15, 3) := by decide +kernel
theorem n_276_2063 : ∀ l, xpr 276 2063 l = l := xpr_no (by decide +kernel)
theorem r_276_2066 : xfetch 276 2066 = some (.aload_n 3, 1) := by decide +kernel
theorem n_276_2066 : ∀ l, xpr 276 2066 l = l := xpr_no (by decide +kernel)
theorem r_276_2067 : xfetch 276 2067 = some (.iconst 0, 1) := by decide +kernel
theorem n_276_2067 : ∀ l, xpr 276 2067 l = l := xpr_no (by decide +kernel)
theorem r_276_2068 : xfetch 276 2068 = some (.laload, 1) := by decide +kernel
theorem n_276_2068 : ∀ l, xpr 276 2068 l = l := xpr_no (by decide +kernel)
theorem r_276_2069 : xfetch 276 2069 = some (.iload 6, 2) := by decide +kernel
theorem n_276_2069 : ∀ l, xpr 276 2069 l = l := xpr_no (by decide +kernel)
theorem r_276_2071 : xfetch 276 2071 = some (.i2l, 1) := by decide +kernel
theorem n_276_2071 : ∀ l, xpr 276 2071 l = l := xpr_no (by decide +kernel)
theorem r_276_2072 : xfetch 276 2072 = some (.lcmp, 1) := by decide +kernel
theorem n_276_2072 : ∀ l, xpr 276 2072 l = l := xpr_no (by decide +kernel)
theorem r_276_2073 : xfetch 276 2073 = some (.ifCond .eq 5, 3) := by decide +kernel
theorem n_276_2073 : ∀ l, xpr 276 2073 l = l := xpr_no (by decide +kernel)
theorem r_276_2076 : xfetch 276 2076 = some (.iconst 0, 1) := by decide +kernel
theorem n_276_2076 : ∀ l, xpr 276 2076 l = l := xpr_no (by decide +kernel)
theorem r_276_2077 : xfetch 276 2077 = some (.ireturn, 1) := by decide +kernel
theorem n_276_2077 : ∀ l, xpr 276 2077 l = l := xpr_no (by decide +kernel)
theorem r_276_2078 : xfetch 276 2078 = some (.goto 830, 3) := by decide +kernel
theorem n_276_2078 : ∀ l, xpr 276 2078 l = l := xpr_no (by decide +kernel)
theorem r_276_2081 : xfetch 276 2081 = some (.aload_n 1, 1) := by decide +kernel
theorem r_276_2082 : xfetch 276 2082 = some (.aload_n 0, 1) := by decide +kernel
theorem n_276_2082 : ∀ l, xpr 276 2082 l = l := xpr_no (by decide +kernel)
theorem r_276_2083 : xfetch 276 2083 = some (.iload 4, 2) := by decide +kernel
theorem n_276_2083 : ∀ l, xpr 276 2083 l = l := xpr_no (by decide +kernel)
theorem r_276_2085 : xfetch 276 2085 = some (.iconst 1, 1) := by decide +kernel
theorem n_276_2085 : ∀ l, xpr 276 2085 l = l := xpr_no (by decide +kernel)
theorem r_276_2086 : xfetch 276 2086 = some (.iadd, 1) := by decide +kernel
theorem n_276_2086 : ∀ l, xpr 276 2086 l = l := xpr_no (by decide +kernel)
theorem r_276_2087 : xfetch 276 2087 = some (.iaload, 1) := by decide +kernel
theorem n_276_2087 : ∀ l, xpr 276 2087 l = l := xpr_no (by decide +kernel)
theorem r_276_2088 : xfetch 276 2088 = some (.aload_n 0, 1) := by decide +kernel
theorem n_276_2088 : ∀ l, xpr 276 2088 l = l := xpr_no (by decide +kernel)
theorem r_276_2089 : xfetch 276 2089 = some (.iload 4, 2) := by decide +kernel
theorem n_276_2089 : ∀ l, xpr 276 2089 l = l := xpr_no (by decide +kernel)
theorem r_276_2091 : xfetch 276 2091 = some (.iconst 2, 1) := by decide +kernel
theorem n_276_2091 : ∀ l, xpr 276 2091 l = l := xpr_no (by decide +kernel)
theorem r_276_2092 : xfetch 276 2092 = some (.iadd, 1) := by decide +kernel
theorem n_276_2092 : ∀ l, xpr 276 2092 l = l := xpr_no (by decide +kernel)
theorem r_276_2093 : xfetch 276 2093 = some (.iaload, 1) := by decide +kernel
theorem n_276_2093 : ∀ l, xpr 276 2093 l = l := xpr_no (by decide +kernel)
theorem r_276_2094 : xfetch 276 2094 = some (.aload_n 0, 1) := by decide +kernel
theorem n_276_2094 : ∀ l, xpr 276 2094 l = l := xpr_no (by decide +kernel)
theorem r_276_2095 : xfetch 276 2095 = some (.iload 4, 2) := by decide +kernel
theorem n_276_2095 : ∀ l, xpr 276 2095 l = l := xpr_no (by decide +kernel)
theorem r_276_2097 : xfetch 276 2097 = some (.iconst 3, 1) := by decide +kernel
theorem n_276_2097 : ∀ l, xpr 276 2097 l = l := xpr_no (by decide +kernel)
theorem r_276_2098 : xfetch 276 2098 = some (.iadd, 1) := by decide +kernel
theorem n_276_2098 : ∀ l, xpr 276 2098 l = l := xpr_no (by decide +kernel)
theorem r_276_2099 : xfetch 276 2099 = some (.iaload, 1) := by decide +kernel
theorem n_276_2099 : ∀ l, xpr 276 2099 l = l := xpr_no (by decide +kernel)
theorem r_276_2100 : xfetch 276 2100 = some (.aload_n 3, 1) := by decide +kernel
theorem n_276_2100 : ∀ l, xpr 276 2100 l = l := xpr_no (by decide +kernel)
theorem r_276_2101 : xfetch 276 2101 = some (.invokestatic 231, 3) := by decide +kernel
theorem n_276_2101 : ∀ l, xpr 276 2101 l = l := xpr_no (by decide +kernel)
theorem r_276_2104 : xfetch 276 2104 = some (.istore 5, 2) := by decide +kernel
theorem n_276_2104 : ∀ l, xpr 276 2104 l = l := xpr_no (by decide +kernel)
theorem r_276_2106 : xfetch 276 2106 = some (.aload_n 2, 1) := by decide +kernel
theorem n_276_2106 : ∀ l, xpr 276 2106 l = l := xpr_no (by decide +kernel)
theorem r_276_2107 : xfetch 276 2107 = some (.aload_n 0, 1) := by decide +kernel
theorem n_276_2107 : ∀ l, xpr 276 2107 l = l := xpr_no (by decide +kernel)
theorem r_276_2108 : xfetch 276 2108 = some (.iload 4, 2) := by decide +kernel
theorem n_276_2108 : ∀ l, xpr 276 2108 l = l := xpr_no (by decide +kernel)
theorem r_276_2110 : xfetch 276 2110 = some (.iconst 1, 1) := by decide +kernel
theorem n_276_2110 : ∀ l, xpr 276 2110 l = l := xpr_no (by decide +kernel)
theorem r_276_2111 : xfetch 276 2111 = some (.iadd, 1) := by decide +kernel
theorem n_276_2111 : ∀ l, xpr 276 2111 l = l := xpr_no (by decide +kernel)
theorem r_276_2112 : xfetch 276 2112 = some (.iaload, 1) := by decide +kernel
theorem n_276_2112 : ∀ l, xpr 276 2112 l = l := xpr_no (by decide +kernel)
theorem r_276_2113 : xfetch 276 2113 = some (.aload_n 0, 1) := by decide +kernel
theorem n_276_2113 : ∀ l, xpr 276 2113 l = l := xpr_no (by decide +kernel)
theorem r_276_2114 : xfetch 276 2114 = some (.iload 4, 2) := by decide +kernel
theorem n_276_2114 : ∀ l, xpr 276 2114 l = l := xpr_no (by decide +kernel)
theorem r_276_2116 : xfetch 276 2116 = some (.iconst 2, 1) := by decide +kernel
theorem n_276_2116 : ∀ l, xpr 276 2116 l = l := xpr_no (by decide +kernel)
theorem r_276_2117 : xfetch 276 2117 = some (.iadd, 1) := by decide +kernel
theorem n_276_2117 : ∀ l, xpr 276 2117 l = l := xpr_no (by decide +kernel)
theorem r_276_2118 : xfetch 276 2118 = some (.iaload, 1) := by decide +kernel
theorem n_276_2118 : ∀ l, xpr 276 2118 l = l := xpr_no (by decide +kernel)
theorem r_276_2119 : xfetch 276 2119 = some (.aload_n 0, 1) := by decide +kernel
theorem n_276_2119 : ∀ l, xpr 276 2119 l = l := xpr_no (by decide +kernel)
theorem r_276_2120 : xfetch 276 2120 = some (.iload 4, 2) := by decide +kernel
theorem n_276_2120 : ∀ l, xpr 276 2120 l = l := xpr_no (by decide +kernel)
theorem r_276_2122 : xfetch 276 2122 = some (.iconst 3, 1) := by decide +kernel
theorem n_276_2122 : ∀ l, xpr 276 2122 l = l := xpr_no (by decide +kernel)
theorem r_276_2123 : xfetch 276 2123 = some (.iadd, 1) := by decide +kernel
theorem n_276_2123 : ∀ l, xpr 276 2123 l = l := xpr_no (by decide +kernel)
theorem r_276_2124 : xfetch 276 2124 = some (.iaload, 1) := by decide +kernel
theorem n_276_2124 : ∀ l, xpr 276 2124 l = l := xpr_no (by decide +kernel)
theorem r_276_2125 : xfetch 276 2125 = some (.invokevirtual 233, 3) := by decide +kernel
theorem n_276_2125 : ∀ l, xpr 276 2125 l = l := xpr_no (by decide +kernel)
theorem r_276_2128 : xfetch 276 2128 = some (.istore 6, 2) := by decide +kernel
theorem n_276_2128 : ∀ l, xpr 276 2128 l = l := xpr_no (by decide +kernel)
theorem r_276_2130 : xfetch 276 2130 = some (.aload_n 2, 1) := by decide +kernel
theorem n_276_2130 : ∀ l, xpr 276 2130 l = l := xpr_no (by decide +kernel)
theorem r_276_2131 : xfetch 276 2131 = some (.invokevirtual 133, 3) := by decide +kernel
theorem n_276_2131 : ∀ l, xpr 276 2131 l = l := xpr_no (by decide +kernel)
theorem r_276_2134 : xfetch 276 2134 = some (.iload 5, 2) := by decide +kernel
theorem n_276_2134 : ∀ l, xpr 276 2134 l = l := xpr_no (by decide +kernel)
theorem r_276_2136 : xfetch 276 2136 = some (.if_icmp .eq 5, 3) := by decide +kernel
theorem n_276_2136 : ∀ l, xpr 276 2136 l = l := xpr_no (by decide +kernel)
theorem r_276_2139 : xfetch 276 2139 = some (.iconst 0, 1) := by decide +kernel
theorem n_276_2139 : ∀ l, xpr 276 2139 l = l := xpr_no (by decide +kernel)
theorem r_276_2140 : xfetch 276 2140 = some (.ireturn, 1) := by decide +kernel
theorem n_276_2140 : ∀ l, xpr 276 2140 l = l := xpr_no (by decide +kernel)
theorem r_276_2141 : xfetch 276 2141 = some (.iload 5, 2) := by decide +kernel
theorem n_276_2141 : ∀ l, xpr 276 2141 l = l := xpr_no (by decide +kernel)
theorem r_276_2143 : xfetch 276 2143 = some (.ifCond .ne 15, 3) := by decide +kernel
theorem n_276_2143 : ∀ l, xpr 276 2143 l = l := xpr_no (by decide +kernel)
theorem r_276_2146 : xfetch 276 2146 = some (.aload_n 3, 1) := by decide +kernel
theorem n_276_2146 : ∀ l, xpr 276 2146 l = l := xpr_no (by decide +kernel)
theorem r_276_2147 : xfetch 276 2147 = some (.iconst 0, 1) := by decide +kernel
theorem n_276_2147 : ∀ l, xpr 276 2147 l = l := xpr_no (by decide +kernel)
theorem r_276_2148 : xfetch 276 2148 = some (.laload, 1) := by decide +kernel
theorem n_276_2148 : ∀ l, xpr 276 2148 l = l := xpr_no (by decide +kernel)
theorem r_276_2149 : xfetch 276 2149 = some (.iload 6, 2) := by decide +kernel
theorem n_276_2149 : ∀ l, xpr 276 2149 l = l := xpr_no (by decide +kernel)
theorem r_276_2151 : xfetch 276 2151 = some (.i2l, 1) := by decide +kernel
theorem n_276_2151 : ∀ l, xpr 276 2151 l = l := xpr_no (by decide +kernel)
theorem r_276_2152 : xfetch 276 2152 = some (.lcmp, 1) := by decide +kernel
theorem n_276_2152 : ∀ l, xpr 276 2152 l = l := xpr_no (by decide +kernel)
theorem r_276_2153 : xfetch 276 2153 = some (.ifCond .eq 5, 3) := by decide +kernel
theorem n_276_2153 : ∀ l, xpr 276 2153 l = l := xpr_no (by decide +kernel)
theorem r_276_2156 : xfetch 276 2156 = some (.iconst 0, 1) := by decide +kernel
theorem n_276_2156 : ∀ l, xpr 276 2156 l = l := xpr_no (by decide +kernel)
theorem r_276_2157 : xfetch 276 2157 = some (.ireturn, 1) := by decide +kernel
theorem n_276_2157 : ∀ l, xpr 276 2157 l = l := xpr_no (by decide +kernel)
theorem r_276_2158 : xfetch 276 2158 = some (.goto 750, 3) := by decide +kernel
theorem n_276_2158 : ∀ l, xpr 276 2158 l = l := xpr_no (by decide +kernel)
theorem r_276_2161 : xfetch 276 2161 = some (.aload_n 1, 1) := by decide +kernel
theorem r_276_2162 : xfetch 276 2162 = some (.aload_n 0, 1) := by decide +kernel
theorem n_276_2162 : ∀ l, xpr 276 2162 l = l := xpr_no (by decide +kernel)
theorem r_276_2163 : xfetch 276 2163 = some (.iload 4, 2) := by decide +kernel
theorem n_276_2163 : ∀ l, xpr 276 2163 l = l := xpr_no (by decide +kernel)
theorem r_276_2165 : xfetch 276 2165 = some (.iconst 1, 1) := by decide +kernel
theorem n_276_2165 : ∀ l, xpr 276 2165 l = l := xpr_no (by decide +kernel)
theorem r_276_2166 : xfetch 276 2166 = some (.iadd, 1) := by decide +kernel
theorem n_276_2166 : ∀ l, xpr 276 2166 l = l := xpr_no (by decide +kernel)
theorem r_276_2167 : xfetch 276 2167 = some (.iaload, 1) := by decide +kernel
theorem n_276_2167 : ∀ l, xpr 276 2167 l = l := xpr_no (by decide +kernel)
theorem r_276_2168 : xfetch 276 2168 = some (.aload_n 0, 1) := by decide +kernel
theorem n_276_2168 : ∀ l, xpr 276 2168 l = l := xpr_no (by decide +kernel)
theorem r_276_2169 : xfetch 276 2169 = some (.iload 4, 2) := by decide +kernel
theorem n_276_2169 : ∀ l, xpr 276 2169 l = l := xpr_no (by decide +kernel)
theorem r_276_2171 : xfetch 276 2171 = some (.iconst 2, 1) := by decide +kernel
theorem n_276_2171 : ∀ l, xpr 276 2171 l = l := xpr_no (by decide +kernel)
theorem r_276_2172 : xfetch 276 2172 = some (.iadd, 1) := by decide +kernel
theorem n_276_2172 : ∀ l, xpr 276 2172 l = l := xpr_no (by decide +kernel)
theorem r_276_2173 : xfetch 276 2173 = some (.iaload, 1) := by decide +kernel
theorem n_276_2173 : ∀ l, xpr 276 2173 l = l := xpr_no (by decide +kernel)
theorem r_276_2174 : xfetch 276 2174 = some (.aload_n 0, 1) := by decide +kernel
theorem n_276_2174 : ∀ l, xpr 276 2174 l = l := xpr_no (by decide +kernel)
theorem r_276_2175 : xfetch 276 2175 = some (.iload 4, 2) := by decide +kernel
theorem n_276_2175 : ∀ l, xpr 276 2175 l = l := xpr_no (by decide +kernel)
theorem r_276_2177 : xfetch 276 2177 = some (.iconst 3, 1) := by decide +kernel
theorem n_276_2177 : ∀ l, xpr 276 2177 l = l := xpr_no (by decide +kernel)
theorem r_276_2178 : xfetch 276 2178 = some (.iadd, 1) := by decide +kernel
theorem n_276_2178 : ∀ l, xpr 276 2178 l = l := xpr_no (by decide +kernel)
theorem r_276_2179 : xfetch 276 2179 = some (.iaload, 1) := by decide +kernel
theorem n_276_2179 : ∀ l, xpr 276 2179 l = l := xpr_no (by decide +kernel)
theorem r_276_2180 : xfetch 276 2180 = some (.aload_n 0, 1) := by decide +kernel
theorem n_276_2180 : ∀ l, xpr 276 2180 l = l := xpr_no (by decide +kernel)
theorem r_276_2181 : xfetch 276 2181 = some (.iload 4, 2) := by decide +kernel
theorem n_276_2181 : ∀ l, xpr 276 2181 l = l := xpr_no (by decide +kernel)
theorem r_276_2183 : xfetch 276 2183 = some (.iconst 4, 1) := by decide +kernel
theorem n_276_2183 : ∀ l, xpr 276 2183 l = l := xpr_no (by decide +kernel)
theorem r_276_2184 : xfetch 276 2184 = some (.iadd, 1) := by decide +kernel
theorem n_276_2184 : ∀ l, xpr 276 2184 l = l := xpr_no (by decide +kernel)
theorem r_276_2185 : xfetch 276 2185 = some (.iaload, 1) := by decide +kernel
theorem n_276_2185 : ∀ l, xpr 276 2185 l = l := xpr_no (by decide +kernel)
theorem r_276_2186 : xfetch 276 2186 = some (.i2l, 1) := by decide +kernel
theorem n_276_2186 : ∀ l, xpr 276 2186 l = l := xpr_no (by decide +kernel)
theorem r_276_2187 : xfetch 276 2187 = some (.bipush 32, 2) := by decide +kernel
theorem n_276_2187 : ∀ l, xpr 276 2187 l = l := xpr_no (by decide +kernel)
theorem r_276_2189 : xfetch 276 2189 = some (.lshl, 1) := by decide +kernel
theorem n_276_2189 : ∀ l, xpr 276 2189 l = l := xpr_no (by decide +kernel)
theorem r_276_2190 : xfetch 276 2190 = some (.aload_n 0, 1) := by decide +kernel
theorem n_276_2190 : ∀ l, xpr 276 2190 l = l := xpr_no (by decide +kernel)
theorem r_276_2191 : xfetch 276 2191 = some (.iload 4, 2) := by decide +kernel
theorem n_276_2191 : ∀ l, xpr 276 2191 l = l := xpr_no (by decide +kernel)
theorem r_276_2193 : xfetch 276 2193 = some (.iconst 5, 1) := by decide +kernel
theorem n_276_2193 : ∀ l, xpr 276 2193 l = l := xpr_no (by decide +kernel)
theorem r_276_2194 : xfetch 276 2194 = some (.iadd, 1) := by decide +kernel
theorem n_276_2194 : ∀ l, xpr 276 2194 l = l := xpr_no (by decide +kernel)
theorem r_276_2195 : xfetch 276 2195 = some (.iaload, 1) := by decide +kernel
theorem n_276_2195 : ∀ l, xpr 276 2195 l = l := xpr_no (by decide +kernel)
theorem r_276_2196 : xfetch 276 2196 = some (.i2l, 1) := by decide +kernel
theorem n_276_2196 : ∀ l, xpr 276 2196 l = l := xpr_no (by decide +kernel)
theorem r_276_2197 : xfetch 276 2197 = some (.ldc2_w 196, 3) := by decide +kernel
theorem n_276_2197 : ∀ l, xpr 276 2197 l = l := xpr_no (by decide +kernel)
theorem r_276_2200 : xfetch 276 2200 = some (.land, 1) := by decide +kernel
theorem n_276_2200 : ∀ l, xpr 276 2200 l = l := xpr_no (by decide +kernel)
theorem r_276_2201 : xfetch 276 2201 = some (.lor, 1) := by decide +kernel
theorem n_276_2201 : ∀ l, xpr 276 2201 l = l := xpr_no (by decide +kernel)
theorem r_276_2202 : xfetch 276 2202 = some (.aload_n 3, 1) := by decide +kernel
theorem n_276_2202 : ∀ l, xpr 276 2202 l = l := xpr_no (by decide +kernel)
theorem r_276_2203 : xfetch 276 2203 = some (.invokestatic 234, 3) := by decide +kernel
theorem n_276_2203 : ∀ l, xpr 276 2203 l = l := xpr_no (by decide +kernel)
theorem r_276_2206 : xfetch 276 2206 = some (.istore 5, 2) := by decide +kernel
theorem n_276_2206 : ∀ l, xpr 276 2206 l = l := xpr_no (by decide +kernel)
theorem r_276_2208 : xfetch 276 2208 = some (.aload_n 2, 1) := by decide +kernel
theorem n_276_2208 : ∀ l, xpr 276 2208 l = l := xpr_no (by decide +kernel)
theorem r_276_2209 : xfetch 276 2209 = some (.aload_n 0, 1) := by decide +kernel
theorem n_276_2209 : ∀ l, xpr 276 2209 l = l := xpr_no (by decide +kernel)
theorem r_276_2210 : xfetch 276 2210 = some (.iload 4, 2) := by decide +kernel
theorem n_276_2210 : ∀ l, xpr 276 2210 l = l := xpr_no (by decide +kernel)
theorem r_276_2212 : xfetch 276 2212 = some (.iconst 1, 1) := by decide +kernel
theorem n_276_2212 : ∀ l, xpr 276 2212 l = l := xpr_no (by decide +kernel)
theorem r_276_2213 : xfetch 276 2213 = some (.iadd, 1) := by decide +kernel
theorem n_276_2213 : ∀ l, xpr 276 2213 l = l := xpr_no (by decide +kernel)
theorem r_276_2214 : xfetch 276 2214 = some (.iaload, 1) := by decide +kernel
theorem n_276_2214 : ∀ l, xpr 276 2214 l = l := xpr_no (by decide +kernel)
theorem r_276_2215 : xfetch 276 2215 = some (.aload_n 0, 1) := by decide +kernel
theorem n_276_2215 : ∀ l, xpr 276 2215 l = l := xpr_no (by decide +kernel)
theorem r_276_2216 : xfetch 276 2216 = some (.iload 4, 2) := by decide +kernel
theorem n_276_2216 : ∀ l, xpr 276 2216 l = l := xpr_no (by decide +kernel)
theorem r_276_2218 : xfetch 276 2218 = some (.iconst 2, 1) := by decide +kernel
theorem n_276_2218 : ∀ l, xpr 276 2218 l = l := xpr_no (by decide +kernel)
theorem r_276_2219 : xfetch 276 2219 = some (.iadd, 1) := by decide +kernel
theorem n_276_2219 : ∀ l, xpr 276 2219 l = l := xpr_no (by decide +kernel)
theorem r_276_2220 : xfetch 276 2220 = some (.iaload, 1) := by decide +kernel
theorem n_276_2220 : ∀ l, xpr 276 2220 l = l := xpr_no (by decide +kernel)
theorem r_276_2221 : xfetch 276 2221 = some (.aload_n 0, 1) := by decide +kernel
theorem n_276_2221 : ∀ l, xpr 276 2221 l = l := xpr_no (by decide +kernel)
theorem r_276_2222 : xfetch 276 2222 = some (.iload 4, 2) := by decide +kernel
theorem n_276_2222 : ∀ l, xpr 276 2222 l = l := xpr_no (by decide +kernel)
theorem r_276_2224 : xfetch 276 2224 = some (.iconst 3, 1) := by decide +kernel
theorem n_276_2224 : ∀ l, xpr 276 2224 l = l := xpr_no (by decide +kernel)
theorem r_276_2225 : xfetch 276 2225 = some (.iadd, 1) := by decide +kernel
theorem n_276_2225 : ∀ l, xpr 276 2225 l = l := xpr_no (by decide +kernel)
theorem r_276_2226 : xfetch 276 2226 = some (.iaload, 1) := by decide +kernel
theorem n_276_2226 : ∀ l, xpr 276 2226 l = l := xpr_no (by decide +kernel)
theorem r_276_2227 : xfetch 276 2227 = some (.aload_n 0, 1) := by decide +kernel
theorem n_276_2227 : ∀ l, xpr 276 2227 l = l := xpr_no (by decide +kernel)
theorem r_276_2228 : xfetch 276 2228 = some (.iload 4, 2) := by decide +kernel
theorem n_276_2228 : ∀ l, xpr 276 2228 l = l := xpr_no (by decide +kernel)
theorem r_276_2230 : xfetch 276 2230 = some (.iconst 4, 1) := by decide +kernel
theorem n_276_2230 : ∀ l, xpr 276 2230 l = l := xpr_no (by decide +kernel)
theorem r_276_2231 : xfetch 276 2231 = some (.iadd, 1) := by decide +kernel
theorem n_276_2231 : ∀ l, xpr 276 2231 l = l := xpr_no (by decide +kernel)
theorem r_276_2232 : xfetch 276 2232 = some (.iaload, 1) := by decide +kernel
theorem n_276_2232 : ∀ l, xpr 276 2232 l = l := xpr_no (by decide +kernel)
theorem r_276_2233 : xfetch 276 2233 = some (.i2l, 1) := by decide +kernel
theorem n_276_2233 : ∀ l, xpr 276 2233 l = l := xpr_no (by decide +kernel)
theorem r_276_2234 : xfetch 276 2234 = some (.bipush 32, 2) := by decide +kernel
theorem n_276_2234 : ∀ l, xpr 276 2234 l = l := xpr_no (by decide +kernel)
theorem r_276_2236 : xfetch 276 2236 = some (.lshl, 1) := by decide +kernel
theorem n_276_2236 : ∀ l, xpr 276 2236 l = l := xpr_no (by decide +kernel)
theorem r_276_2237 : xfetch 276 2237 = some (.aload_n 0, 1) := by decide +kernel
theorem n_276_2237 : ∀ l, xpr 276 2237 l = l := xpr_no (by decide +kernel)
theorem r_276_2238 : xfetch 276 2238 = some (.iload 4, 2) := by decide +kernel
theorem n_276_2238 : ∀ l, xpr 276 2238 l = l := xpr_no (by decide +kernel)
theorem r_276_2240 : xfetch 276 2240 = some (.iconst 5, 1) := by decide +kernel
theorem n_276_2240 : ∀ l, xpr 276 2240 l = l := xpr_no (by decide +kernel)
theorem r_276_2241 : xfetch 276 2241 = some (.iadd, 1) := by decide +kernel
theorem n_276_2241 : ∀ l, xpr 276 2241 l = l := xpr_no (by decide +kernel)
theorem r_276_2242 : xfetch 276 2242 = some (.iaload, 1) := by decide +kernel
theorem n_276_2242 : ∀ l, xpr 276 2242 l = l := xpr_no (by decide +kernel)
theorem r_276_2243 : xfetch 276 2243 = some (.i2l, 1) := by decide +kernel
theorem n_276_2243 : ∀ l, xpr 276 2243 l = l := xpr_no (by decide +kernel)
theorem r_276_2244 : xfetch 276 2244 = some (.ldc2_w 196, 3) := by decide +kernel
theorem n_276_2244 : ∀ l, xpr 276 2244 l = l := xpr_no (by decide +kernel)
theorem r_276_2247 : xfetch 276 2247 = some (.land, 1) := by decide +kernel
theorem n_276_2247 : ∀ l, xpr 276 2247 l = l := xpr_no (by decide +kernel)
theorem r_276_2248 : xfetch 276 2248 = some (.lor, 1) := by decide +kernel
theorem n_276_2248 : ∀ l, xpr 276 2248 l = l := xpr_no (by decide +kernel)
theorem r_276_2249 : xfetch 276 2249 = some (.invokevirtual 236, 3) := by decide +kernel
theorem n_276_2249 : ∀ l, xpr 276 2249 l = l := xpr_no (by decide +kernel)
theorem r_276_2252 : xfetch 276 2252 = some (.istore 6, 2) := by decide +kernel
theorem n_276_2252 : ∀ l, xpr 276 2252 l = l := xpr_no (by decide +kernel)
theorem r_276_2254 : xfetch 276 2254 = some (.aload_n 2, 1) := by decide +kernel
theorem n_276_2254 : ∀ l, xpr 276 2254 l = l := xpr_no (by decide +kernel)
theorem r_276_2255 : xfetch 276 2255 = some (.invokevirtual 133, 3) := by decide +kernel
theorem n_276_2255 : ∀ l, xpr 276 2255 l = l := xpr_no (by decide +kernel)
theorem r_276_2258 : xfetch 276 2258 = some (.iload 5, 2) := by decide +kernel
theorem n_276_2258 : ∀ l, xpr 276 2258 l = l := xpr_no (by decide +kernel)
theorem r_276_2260 : xfetch 276 2260 = some (.if_icmp .eq 5, 3) := by decide +kernel
theorem n_276_2260 : ∀ l, xpr 276 2260 l = l := xpr_no (by decide +kernel)
theorem r_276_2263 : xfetch 276 2263 = some (.iconst 0, 1) := by decide +kernel
theorem n_276_2263 : ∀ l, xpr 276 2263 l = l := xpr_no (by decide +kernel)
theorem r_276_2264 : xfetch 276 2264 = some (.ireturn, 1) := by decide +kernel
theorem n_276_2264 : ∀ l, xpr 276 2264 l = l := xpr_no (by decide +kernel)
theorem r_276_2265 : xfetch 276 2265 = some (.iload 5, 2) := by decide +kernel
theorem n_276_2265 : ∀ l, xpr 276 2265 l = l := xpr_no (by decide +kernel)
theorem r_276_2267 : xfetch 276 2267 = some (.ifCond .ne 15, 3) := by decide +kernel
theorem n_276_2267 : ∀ l, xpr 276 2267 l = l := xpr_no (by decide +kernel)
theorem r_276_2270 : xfetch 276 2270 = some (.aload_n 3, 1) := by decide +kernel
theorem n_276_2270 : ∀ l, xpr 276 2270 l = l := xpr_no (by decide +kernel)
theorem r_276_2271 : xfetch 276 2271 = some (.iconst 0, 1) := by decide +kernel
theorem n_276_2271 : ∀ l, xpr 276 2271 l = l := xpr_no (by decide +kernel)
theorem r_276_2272 : xfetch 276 2272 = some (.laload, 1) := by decide +kernel
theorem n_276_2272 : ∀ l, xpr 276 2272 l = l := xpr_no (by decide +kernel)
theorem r_276_2273 : xfetch 276 2273 = some (.iload 6, 2) := by decide +kernel
theorem n_276_2273 : ∀ l, xpr 276 2273 l = l := xpr_no (by decide +kernel)
theorem r_276_2275 : xfetch 276 2275 = some (.i2l, 1) := by decide +kernel
theorem n_276_2275 : ∀ l, xpr 276 2275 l = l := xpr_no (by decide +kernel)
theorem r_276_2276 : xfetch 276 2276 = some (.lcmp, 1) := by decide +kernel
theorem n_276_2276 : ∀ l, xpr 276 2276 l = l := xpr_no (by decide +kernel)
theorem r_276_2277 : xfetch 276 2277 = some (.ifCond .eq 5, 3) := by decide +kernel
theorem n_276_2277 : ∀ l, xpr 276 2277 l = l := xpr_no (by decide +kernel)
theorem r_276_2280 : xfetch 276 2280 = some (.iconst 0, 1) := by decide +kernel
theorem n_276_2280 : ∀ l, xpr 276 2280 l = l := xpr_no (by decide +kernel)
theorem r_276_2281 : xfetch 276 2281 = some (.ireturn, 1) := by decide +kernel
theorem n_276_2281 : ∀ l, xpr 276 2281 l = l := xpr_no (by decide +kernel)
theorem r_276_2282 : xfetch 276 2282 = some (.goto 626, 3) := by decide +kernel
theorem n_276_2282 : ∀ l, xpr 276 2282 l = l := xpr_no (by decide +kernel)
theorem r_276_2285 : xfetch 276 2285 = some (.aload_n 1, 1) := by decide +kernel
theorem r_276_2286 : xfetch 276 2286 = some (.aload_n 0, 1) := by decide +kernel
theorem n_276_2286 : ∀ l, xpr 276 2286 l = l := xpr_no (by decide +kernel)
theorem r_276_2287 : xfetch 276 2287 = some (.iload 4, 2) := by decide +kernel
theorem n_276_2287 : ∀ l, xpr 276 2287 l = l := xpr_no (by decide +kernel)
theorem r_276_2289 : xfetch 276 2289 = some (.iconst 1, 1) := by decide +kernel
theorem n_276_2289 : ∀ l, xpr 276 2289 l = l := xpr_no (by decide +kernel)
theorem r_276_2290 : xfetch 276 2290 = some (.iadd, 1) := by decide +kernel
theorem n_276_2290 : ∀ l, xpr 276 2290 l = l := xpr_no (by decide +kernel)
theorem r_276_2291 : xfetch 276 2291 = some (.iaload, 1) := by decide +kernel
theorem n_276_2291 : ∀ l, xpr 276 2291 l = l := xpr_no (by decide +kernel)
theorem r_276_2292 : xfetch 276 2292 = some (.aload_n 0, 1) := by decide +kernel
theorem n_276_2292 : ∀ l, xpr 276 2292 l = l := xpr_no (by decide +kernel)
theorem r_276_2293 : xfetch 276 2293 = some (.iload 4, 2) := by decide +kernel
theorem n_276_2293 : ∀ l, xpr 276 2293 l = l := xpr_no (by decide +kernel)
theorem r_276_2295 : xfetch 276 2295 = some (.iconst 2, 1) := by decide +kernel
theorem n_276_2295 : ∀ l, xpr 276 2295 l = l := xpr_no (by decide +kernel)
theorem r_276_2296 : xfetch 276 2296 = some (.iadd, 1) := by decide +kernel
theorem n_276_2296 : ∀ l, xpr 276 2296 l = l := xpr_no (by decide +kernel)
theorem r_276_2297 : xfetch 276 2297 = some (.iaload, 1) := by decide +kernel
theorem n_276_2297 : ∀ l, xpr 276 2297 l = l := xpr_no (by decide +kernel)
theorem r_276_2298 : xfetch 276 2298 = some (.aload_n 0, 1) := by decide +kernel
theorem n_276_2298 : ∀ l, xpr 276 2298 l = l := xpr_no (by decide +kernel)
theorem r_276_2299 : xfetch 276 2299 = some (.iload 4, 2) := by decide +kernel
theorem n_276_2299 : ∀ l, xpr 276 2299 l = l := xpr_no (by decide +kernel)
theorem r_276_2301 : xfetch 276 2301 = some (.iconst 3, 1) := by decide +kernel
theorem n_276_2301 : ∀ l, xpr 276 2301 l = l := xpr_no (by decide +kernel)
theorem r_276_2302 : xfetch 276 2302 = some (.iadd, 1) := by decide +kernel
theorem n_276_2302 : ∀ l, xpr 276 2302 l = l := xpr_no (by decide +kernel)
theorem r_276_2303 : xfetch 276 2303 = some (.iaload, 1) := by decide +kernel
theorem n_276_2303 : ∀ l, xpr 276 2303 l = l := xpr_no (by decide +kernel)
theorem r_276_2304 : xfetch 276 2304 = some (.i2l, 1) := by decide +kernel
theorem n_276_2304 : ∀ l, xpr 276 2304 l = l := xpr_no (by decide +kernel)
theorem r_276_2305 : xfetch 276 2305 = some (.bipush 32, 2) := by decide +kernel
theorem n_276_2305 : ∀ l, xpr 276 2305 l = l := xpr_no (by decide +kernel)
theorem r_276_2307 : xfetch 276 2307 = some (.lshl, 1) := by decide +kernel
theorem n_276_2307 : ∀ l, xpr 276 2307 l = l := xpr_no (by decide +kernel)
theorem r_276_2308 : xfetch 276 2308 = some (.aload_n 0, 1) := by decide +kernel
theorem n_276_2308 : ∀ l, xpr 276 2308 l = l := xpr_no (by decide +kernel)
theorem r_276_2309 : xfetch 276 2309 = some (.iload 4, 2) := by decide +kernel
theorem n_276_2309 : ∀ l, xpr 276 2309 l = l := xpr_no (by decide +kernel)
theorem r_276_2311 : xfetch 276 2311 = some (.iconst 4, 1) := by decide +kernel
theorem n_276_2311 : ∀ l, xpr 276 2311 l = l := xpr_no (by decide +kernel)
theorem r_276_2312 : xfetch 276 2312 = some (.iadd, 1) := by decide +kernel
theorem n_276_2312 : ∀ l, xpr 276 2312 l = l := xpr_no (by decide +kernel)
theorem r_276_2313 : xfetch 276 2313 = some (.iaload, 1) := by decide +kernel
theorem n_276_2313 : ∀ l, xpr 276 2313 l = l := xpr_no (by decide +kernel)
theorem r_276_2314 : xfetch 276 2314 = some (.i2l, 1) := by decide +kernel
theorem n_276_2314 : ∀ l, xpr 276 2314 l = l := xpr_no (by decide +kernel)
theorem r_276_2315 : xfetch 276 2315 = some (.ldc2_w 196, 3) := by decide +kernel
theorem n_276_2315 : ∀ l, xpr 276 2315 l = l := xpr_no (by decide +kernel)
theorem r_276_2318 : xfetch 276 2318 = some (.land, 1) := by decide +kernel
theorem n_276_2318 : ∀ l, xpr 276 2318 l = l := xpr_no (by decide +kernel)
theorem r_276_2319 : xfetch 276 2319 = some (.lor, 1) := by decide +kernel
theorem n_276_2319 : ∀ l, xpr 276 2319 l = l := xpr_no (by decide +kernel)
theorem r_276_2320 : xfetch 276 2320 = some (.aload_n 0, 1) := by decide +kernel
theorem n_276_2320 : ∀ l, xpr 276 2320 l = l := xpr_no (by decide +kernel)
theorem r_276_2321 : xfetch 276 2321 = some (.iload 4, 2) := by decide +kernel
theorem n_276_2321 : ∀ l, xpr 276 2321 l = l := xpr_no (by decide +kernel)
theorem r_276_2323 : xfetch 276 2323 = some (.iconst 5, 1) := by decide +kernel
theorem n_276_2323 : ∀ l, xpr 276 2323 l = l := xpr_no (by decide +kernel)
theorem r_276_2324 : xfetch 276 2324 = some (.iadd, 1) := by decide +kernel
theorem n_276_2324 : ∀ l, xpr 276 2324 l = l := xpr_no (by decide +kernel)
theorem r_276_2325 : xfetch 276 2325 = some (.iaload, 1) := by decide +kernel
theorem n_276_2325 : ∀ l, xpr 276 2325 l = l := xpr_no (by decide +kernel)
theorem r_276_2326 : xfetch 276 2326 = some (.aload_n 3, 1) := by decide +kernel
theorem n_276_2326 : ∀ l, xpr 276 2326 l = l := xpr_no (by decide +kernel)
theorem r_276_2327 : xfetch 276 2327 = some (.invokestatic 237, 3) := by decide +kernel
theorem n_276_2327 : ∀ l, xpr 276 2327 l = l := xpr_no (by decide +kernel)
theorem r_276_2330 : xfetch 276 2330 = some (.istore 5, 2) := by decide +kernel
theorem n_276_2330 : ∀ l, xpr 276 2330 l = l := xpr_no (by decide +kernel)
theorem r_276_2332 : xfetch 276 2332 = some (.aload_n 2, 1) := by decide +kernel
theorem n_276_2332 : ∀ l, xpr 276 2332 l = l := xpr_no (by decide +kernel)
theorem r_276_2333 : xfetch 276 2333 = some (.aload_n 0, 1) := by decide +kernel
theorem n_276_2333 : ∀ l, xpr 276 2333 l = l := xpr_no (by decide +kernel)
theorem r_276_2334 : xfetch 276 2334 = some (.iload 4, 2) := by decide +kernel
theorem n_276_2334 : ∀ l, xpr 276 2334 l = l := xpr_no (by decide +kernel)
theorem r_276_2336 : xfetch 276 2336 = some (.iconst 1, 1) := by decide +kernel
theorem n_276_2336 : ∀ l, xpr 276 2336 l = l := xpr_no (by decide +kernel)
theorem r_276_2337 : xfetch 276 2337 = some (.iadd, 1) := by decide +kernel
theorem n_276_2337 : ∀ l, xpr 276 2337 l = l := xpr_no (by decide +kernel)
theorem r_276_2338 : xfetch 276 2338 = some (.iaload, 1) := by decide +kernel
theorem n_276_2338 : ∀ l, xpr 276 2338 l = l := xpr_no (by decide +kernel)
theorem r_276_2339 : xfetch 276 2339 = some (.aload_n 0, 1) := by decide +kernel
theorem n_276_2339 : ∀ l, xpr 276 2339 l = l := xpr_no (by decide +kernel)
theorem r_276_2340 : xfetch 276 2340 = some (.iload 4, 2) := by decide +kernel
theorem n_276_2340 : ∀ l, xpr 276 2340 l = l := xpr_no (by decide +kernel)
theorem r_276_2342 : xfetch 276 2342 = some (.iconst 2, 1) := by decide +kernel
theorem n_276_2342 : ∀ l, xpr 276 2342 l = l := xpr_no (by decide +kernel)
theorem r_276_2343 : xfetch 276 2343 = some (.iadd, 1) := by decide +kernel
theorem n_276_2343 : ∀ l, xpr 276 2343 l = l := xpr_no (by decide +kernel)
theorem r_276_2344 : xfetch 276 2344 = some (.iaload, 1) := by decide +kernel
theorem n_276_2344 : ∀ l, xpr 276 2344 l = l := xpr_no (by decide +kernel)
theorem r_276_2345 : xfetch 276 2345 = some (.aload_n 0, 1) := by decide +kernel
theorem n_276_2345 : ∀ l, xpr 276 2345 l = l := xpr_no (by decide +kernel)
theorem r_276_2346 : xfetch 276 2346 = some (.iload 4, 2) := by decide +kernel
theorem n_276_2346 : ∀ l, xpr 276 2346 l = l := xpr_no (by decide +kernel)
theorem r_276_2348 : xfetch 276 2348 = some (.iconst 3, 1) := by decide +kernel
theorem n_276_2348 : ∀ l, xpr 276 2348 l = l := xpr_no (by decide +kernel)
theorem r_276_2349 : xfetch 276 2349 = some (.iadd, 1) := by decide +kernel
theorem n_276_2349 : ∀ l, xpr 276 2349 l = l := xpr_no (by decide +kernel)
theorem r_276_2350 : xfetch 276 2350 = some (.iaload, 1) := by decide +kernel
theorem n_276_2350 : ∀ l, xpr 276 2350 l = l := xpr_no (by decide +kernel)
theorem r_276_2351 : xfetch 276 2351 = some (.i2l, 1) := by decide +kernel
theorem n_276_2351 : ∀ l, xpr 276 2351 l = l := xpr_no (by decide +kernel)
theorem r_276_2352 : xfetch 276 2352 = some (.bipush 32, 2) := by decide +kernel
theorem n_276_2352 : ∀ l, xpr 276 2352 l = l := xpr_no (by decide +kernel)
theorem r_276_2354 : xfetch 276 2354 = some (.lshl, 1) := by decide +kernel
theorem n_276_2354 : ∀ l, xpr 276 2354 l = l := xpr_no (by decide +kernel)
theorem r_276_2355 : xfetch 276 2355 = some (.aload_n 0, 1) := by decide +kernel
theorem n_276_2355 : ∀ l, xpr 276 2355 l = l := xpr_no (by decide +kernel)
theorem r_276_2356 : xfetch 276 2356 = some (.iload 4, 2) := by decide +kernel
theorem n_276_2356 : ∀ l, xpr 276 2356 l = l := xpr_no (by decide +kernel)
theorem r_276_2358 : xfetch 276 2358 = some (.iconst 4, 1) := by decide +kernel
theorem n_276_2358 : ∀ l, xpr 276 2358 l = l := xpr_no (by decide +kernel)
theorem r_276_2359 : xfetch 276 2359 = some (.iadd, 1) := by decide +kernel
theorem n_276_2359 : ∀ l, xpr 276 2359 l = l := xpr_no (by decide +kernel)
theorem r_276_2360 : xfetch 276 2360 = some (.iaload, 1) := by decide +kernel
theorem n_276_2360 : ∀ l, xpr 276 2360 l = l := xpr_no (by decide +kernel)
theorem r_276_2361 : xfetch 276 2361 = some (.i2l, 1) := by decide +kernel
theorem n_276_2361 : ∀ l, xpr 276 2361 l = l := xpr_no (by decide +kernel)
theorem r_276_2362 : xfetch 276 2362 = some (.ldc2_w 196, 3) := by decide +kernel
theorem n_276_2362 : ∀ l, xpr 276 2362 l = l := xpr_no (by decide +kernel)
theorem r_276_2365 : xfetch 276 2365 = some (.land, 1) := by decide +kernel
theorem n_276_2365 : ∀ l, xpr 276 2365 l = l := xpr_no (by decide +kernel)
theorem r_276_2366 : xfetch 276 2366 = some (.lor, 1) := by decide +kernel
theorem n_276_2366 : ∀ l, xpr 276 2366 l = l := xpr_no (by decide +kernel)
theorem r_276_2367 : xfetch 276 2367 = some (.aload_n 0, 1) := by decide +kernel
theorem n_276_2367 : ∀ l, xpr 276 2367 l = l := xpr_no (by decide +kernel)
theorem r_276_2368 : xfetch 276 2368 = some (.iload 4, 2) := by decide +kernel
theorem n_276_2368 : ∀ l, xpr 276 2368 l = l := xpr_no (by decide +kernel)
theorem r_276_2370 : xfetch 276 2370 = some (.iconst 5, 1) := by decide +kernel
theorem n_276_2370 : ∀ l, xpr 276 2370 l = l := xpr_no (by decide +kernel)
theorem r_276_2371 : xfetch 276 2371 = some (.iadd, 1) := by decide +kernel
theorem n_276_2371 : ∀ l, xpr 276 2371 l = l := xpr_no (by decide +kernel)
theorem r_276_2372 : xfetch 276 2372 = some (.iaload, 1) := by decide +kernel
theorem n_276_2372 : ∀ l, xpr 276 2372 l = l := xpr_no (by decide +kernel)
theorem r_276_2373 : xfetch 276 2373 = some (.invokevirtual 240, 3) := by decide +kernel
theorem n_276_2373 : ∀ l, xpr 276 2373 l = l := xpr_no (by decide +kernel)
theorem r_276_2376 : xfetch 276 2376 = some (.istore 6, 2) := by decide +kernel
theorem n_276_2376 : ∀ l, xpr 276 2376 l = l := xpr_no (by decide +kernel)
theorem r_276_2378 : xfetch 276 2378 = some (.aload_n 2, 1) := by decide +kernel
theorem n_276_2378 : ∀ l, xpr 276 2378 l = l := xpr_no (by decide +kernel)
theorem r_276_2379 : xfetch 276 2379 = some (.invokevirtual 133, 3) := by decide +kernel
theorem n_276_2379 : ∀ l, xpr 276 2379 l = l := xpr_no (by decide +kernel)
theorem r_276_2382 : xfetch 276 2382 = some (.iload 5, 2) := by decide +kernel
theorem n_276_2382 : ∀ l, xpr 276 2382 l = l := xpr_no (by decide +kernel)
theorem r_276_2384 : xfetch 276 2384 = some (.if_icmp .eq 5, 3) := by decide +kernel
theorem n_276_2384 : ∀ l, xpr 276 2384 l = l := xpr_no (by decide +kernel)
theorem r_276_2387 : xfetch 276 2387 = some (.iconst 0, 1) := by decide +kernel
theorem n_276_2387 : ∀ l, xpr 276 2387 l = l := xpr_no (by decide +kernel)
theorem r_276_2388 : xfetch 276 2388 = some (.ireturn, 1) := by decide +kernel
theorem n_276_2388 : ∀ l, xpr 276 2388 l = l := xpr_no (by decide +kernel)
theorem r_276_2389 : xfetch 276 2389 = some (.iload 5, 2) := by decide +kernel
theorem n_276_2389 : ∀ l, xpr 276 2389 l = l := xpr_no (by decide +kernel)
theorem r_276_2391 : xfetch 276 2391 = some (.ifCond .ne 15, 3) := by decide +kernel
theorem n_276_2391 : ∀ l, xpr 276 2391 l = l := xpr_no (by decide +kernel)
theorem r_276_2394 : xfetch 276 2394 = some (.aload_n 3, 1) := by decide +kernel
theorem n_276_2394 : ∀ l, xpr 276 2394 l = l := xpr_no (by decide +kernel)
theorem r_276_2395 : xfetch 276 2395 = some (.iconst 0, 1) := by decide +kernel
theorem n_276_2395 : ∀ l, xpr 276 2395 l = l := xpr_no (by decide +kernel)
theorem r_276_2396 : xfetch 276 2396 = some (.laload, 1) := by decide +kernel
theorem n_276_2396 : ∀ l, xpr 276 2396 l = l := xpr_no (by decide +kernel)
theorem r_276_2397 : xfetch 276 2397 = some (.iload 6, 2) := by decide +kernel
theorem n_276_2397 : ∀ l, xpr 276 2397 l = l := xpr_no (by decide +kernel)
theorem r_276_2399 : xfetch 276 2399 = some (.i2l, 1) := by decide +kernel
theorem n_276_2399 : ∀ l, xpr 276 2399 l = l := xpr_no (by decide +kernel)
theorem r_276_2400 : xfetch 276 2400 = some (.lcmp, 1) := by decide +kernel
theorem n_276_2400 : ∀ l, xpr 276 2400 l = l := xpr_no (by decide +kernel)
theorem r_276_2401 : xfetch 276 2401 = some (.ifCond .eq 5, 3) := by decide +kernel
theorem n_276_2401 : ∀ l, xpr 276 2401 l = l := xpr_no (by decide +kernel)
theorem r_276_2404 : xfetch 276 2404 = some (.iconst 0, 1) := by decide +kernel
theorem n_276_2404 : ∀ l, xpr 276 2404 l = l := xpr_no (by decide +kernel)
theorem r_276_2405 : xfetch 276 2405 = some (.ireturn, 1) := by decide +kernel
theorem n_276_2405 : ∀ l, xpr 276 2405 l = l := xpr_no (by decide +kernel)
theorem r_276_2406 : xfetch 276 2406 = some (.goto 502, 3) := by decide +kernel
theorem n_276_2406 : ∀ l, xpr 276 2406 l = l := xpr_no (by decide +kernel)
theorem r_276_2409 : xfetch 276 2409 = some (.aload_n 1, 1) := by decide +kernel
theorem r_276_2410 : xfetch 276 2410 = some (.aload_n 0, 1) := by decide +kernel
theorem n_276_2410 : ∀ l, xpr 276 2410 l = l := xpr_no (by decide +kernel)
theorem r_276_2411 : xfetch 276 2411 = some (.iload 4, 2) := by decide +kernel
theorem n_276_2411 : ∀ l, xpr 276 2411 l = l := xpr_no (by decide +kernel)
theorem r_276_2413 : xfetch 276 2413 = some (.iconst 1, 1) := by decide +kernel
theorem n_276_2413 : ∀ l, xpr 276 2413 l = l := xpr_no (by decide +kernel)
theorem r_276_2414 : xfetch 276 2414 = some (.iadd, 1) := by decide +kernel
theorem n_276_2414 : ∀ l, xpr 276 2414 l = l := xpr_no (by decide +kernel)
theorem r_276_2415 : xfetch 276 2415 = some (.iaload, 1) := by decide +kernel
theorem n_276_2415 : ∀ l, xpr 276 2415 l = l := xpr_no (by decide +kernel)
theorem r_276_2416 : xfetch 276 2416 = some (.aload_n 0, 1) := by decide +kernel
theorem n_276_2416 : ∀ l, xpr 276 2416 l = l := xpr_no (by decide +kernel)
theorem r_276_2417 : xfetch 276 2417 = some (.iload 4, 2) := by decide +kernel
theorem n_276_2417 : ∀ l, xpr 276 2417 l = l := xpr_no (by decide +kernel)
theorem r_276_2419 : xfetch 276 2419 = some (.iconst 2, 1) := by decide +kernel
theorem n_276_2419 : ∀ l, xpr 276 2419 l = l := xpr_no (by decide +kernel)
theorem r_276_2420 : xfetch 276 2420 = some (.iadd, 1) := by decide +kernel
theorem n_276_2420 : ∀ l, xpr 276 2420 l = l := xpr_no (by decide +kernel)
theorem r_276_2421 : xfetch 276 2421 = some (.iaload, 1) := by decide +kernel
theorem n_276_2421 : ∀ l, xpr 276 2421 l = l := xpr_no (by decide +kernel)
theorem r_276_2422 : xfetch 276 2422 = some (.aload_n 3, 1) := by decide +kernel
theorem n_276_2422 : ∀ l, xpr 276 2422 l = l := xpr_no (by decide +kernel)
theorem r_276_2423 : xfetch 276 2423 = some (.invokestatic 241, 3) := by decide +kernel
theorem n_276_2423 : ∀ l, xpr 276 2423 l = l := xpr_no (by decide +kernel)
theorem r_276_2426 : xfetch 276 2426 = some (.istore 5, 2) := by decide +kernel
theorem n_276_2426 : ∀ l, xpr 276 2426 l = l := xpr_no (by decide +kernel)
theorem r_276_2428 : xfetch 276 2428 = some (.aload_n 2, 1) := by decide +kernel
theorem n_276_2428 : ∀ l, xpr 276 2428 l = l := xpr_no (by decide +kernel)
theorem r_276_2429 : xfetch 276 2429 = some (.aload_n 0, 1) := by decide +kernel
theorem n_276_2429 : ∀ l, xpr 276 2429 l = l := xpr_no (by decide +kernel)
theorem r_276_2430 : xfetch 276 2430 = some (.iload 4, 2) := by decide +kernel
theorem n_276_2430 : ∀ l, xpr 276 2430 l = l := xpr_no (by decide +kernel)
theorem r_276_2432 : xfetch 276 2432 = some (.iconst 1, 1) := by decide +kernel
theorem n_276_2432 : ∀ l, xpr 276 2432 l = l := xpr_no (by decide +kernel)
theorem r_276_2433 : xfetch 276 2433 = some (.iadd, 1) := by decide +kernel
theorem n_276_2433 : ∀ l, xpr 276 2433 l = l := xpr_no (by decide +kernel)
theorem r_276_2434 : xfetch 276 2434 = some (.iaload, 1) := by decide +kernel
theorem n_276_2434 : ∀ l, xpr 276 2434 l = l := xpr_no (by decide +kernel)
theorem r_276_2435 : xfetch 276 2435 = some (.aload_n 0, 1) := by decide +kernel
theorem n_276_2435 : ∀ l, xpr 276 2435 l = l := xpr_no (by decide +kernel)
theorem r_276_2436 : xfetch 276 2436 = some (.iload 4, 2) := by decide +kernel
theorem n_276_2436 : ∀ l, xpr 276 2436 l = l := xpr_no (by decide +kernel)
theorem r_276_2438 : xfetch 276 2438 = some (.iconst 2, 1) := by decide +kernel
theorem n_276_2438 : ∀ l, xpr 276 2438 l = l := xpr_no (by decide +kernel)
theorem r_276_2439 : xfetch 276 2439 = some (.iadd, 1) := by decide +kernel
theorem n_276_2439 : ∀ l, xpr 276 2439 l = l := xpr_no (by decide +kernel)
theorem r_276_2440 : xfetch 276 2440 = some (.iaload, 1) := by decide +kernel
theorem n_276_2440 : ∀ l, xpr 276 2440 l = l := xpr_no (by decide +kernel)
theorem r_276_2441 : xfetch 276 2441 = some (.invokevirtual 243, 3) := by decide +kernel
theorem n_276_2441 : ∀ l, xpr 276 2441 l = l := xpr_no (by decide +kernel)
theorem r_276_2444 : xfetch 276 2444 = some (.lstore 6, 2) := by decide +kernel
theorem n_276_2444 : ∀ l, xpr 276 2444 l = l := xpr_no (by decide +kernel)
theorem r_276_2446 : xfetch 276 2446 = some (.aload_n 2, 1) := by decide +kernel
theorem n_276_2446 : ∀ l, xpr 276 2446 l = l := xpr_no (by decide +kernel)
theorem r_276_2447 : xfetch 276 2447 = some (.invokevirtual 133, 3) := by decide +kernel
theorem n_276_2447 : ∀ l, xpr 276 2447 l = l := xpr_no (by decide +kernel)
theorem r_276_2450 : xfetch 276 2450 = some (.iload 5, 2) := by decide +kernel
theorem n_276_2450 : ∀ l, xpr 276 2450 l = l := xpr_no (by decide +kernel)
theorem r_276_2452 : xfetch 276 2452 = some (.if_icmp .eq 5, 3) := by decide +kernel
theorem n_276_2452 : ∀ l, xpr 276 2452 l = l := xpr_no (by decide +kernel)
theorem r_276_2455 : xfetch 276 2455 = some (.iconst 0, 1) := by decide +kernel
theorem n_276_2455 : ∀ l, xpr 276 2455 l = l := xpr_no (by decide +kernel)
theorem r_276_2456 : xfetch 276 2456 = some (.ireturn, 1) := by decide +kernel
theorem n_276_2456 : ∀ l, xpr 276 2456 l = l := xpr_no (by decide +kernel)
theorem r_276_2457 : xfetch 276 2457 = some (.iload 5, 2) := by decide +kernel
theorem n_276_2457 : ∀ l, xpr 276 2457 l = l := xpr_no (by decide +kernel)
theorem r_276_2459 : xfetch 276 2459 = some (.ifCond .ne 14, 3) := by decide +kernel
theorem n_276_2459 : ∀ l, xpr 276 2459 l = l := xpr_no (by decide +kernel)
theorem r_276_2462 : xfetch 276 2462 = some (.aload_n 3, 1) := by decide +kernel
theorem n_276_2462 : ∀ l, xpr 276 2462 l = l := xpr_no (by decide +kernel)
theorem r_276_2463 : xfetch 276 2463 = some (.iconst 0, 1) := by decide +kernel
theorem n_276_2463 : ∀ l, xpr 276 2463 l = l := xpr_no (by decide +kernel)
theorem r_276_2464 : xfetch 276 2464 = some (.laload, 1) := by decide +kernel
theorem n_276_2464 : ∀ l, xpr 276 2464 l = l := xpr_no (by decide +kernel)
theorem r_276_2465 : xfetch 276 2465 = some (.lload 6, 2) := by decide +kernel
theorem n_276_2465 : ∀ l, xpr 276 2465 l = l := xpr_no (by decide +kernel)
theorem r_276_2467 : xfetch 276 2467 = some (.lcmp, 1) := by decide +kernel
theorem n_276_2467 : ∀ l, xpr 276 2467 l = l := xpr_no (by decide +kernel)
theorem r_276_2468 : xfetch 276 2468 = some (.ifCond .eq 5, 3) := by decide +kernel
theorem n_276_2468 : ∀ l, xpr 276 2468 l = l := xpr_no (by decide +kernel)
theorem r_276_2471 : xfetch 276 2471 = some (.iconst 0, 1) := by decide +kernel
theorem n_276_2471 : ∀ l, xpr 276 2471 l = l := xpr_no (by decide +kernel)
theorem r_276_2472 : xfetch 276 2472 = some (.ireturn, 1) := by decide +kernel
theorem n_276_2472 : ∀ l, xpr 276 2472 l = l := xpr_no (by decide +kernel)
theorem r_276_2473 : xfetch 276 2473 = some (.goto 435, 3) := by decide +kernel
theorem n_276_2473 : ∀ l, xpr 276 2473 l = l := xpr_no (by decide +kernel)
theorem r_276_2476 : xfetch 276 2476 = some (.aload_n 1, 1) := by decide +kernel
theorem r_276_2477 : xfetch 276 2477 = some (.aload_n 0, 1) := by decide +kernel
theorem n_276_2477 : ∀ l, xpr 276 2477 l = l := xpr_no (by decide +kernel)
theorem r_276_2478 : xfetch 276 2478 = some (.iload 4, 2) := by decide +kernel
theorem n_276_2478 : ∀ l, xpr 276 2478 l = l := xpr_no (by decide +kernel)
theorem r_276_2480 : xfetch 276 2480 = some (.iconst 1, 1) := by decide +kernel
theorem n_276_2480 : ∀ l, xpr 276 2480 l = l := xpr_no (by decide +kernel)
theorem r_276_2481 : xfetch 276 2481 = some (.iadd, 1) := by decide +kernel
theorem n_276_2481 : ∀ l, xpr 276 2481 l = l := xpr_no (by decide +kernel)
theorem r_276_2482 : xfetch 276 2482 = some (.iaload, 1) := by decide +kernel
theorem n_276_2482 : ∀ l, xpr 276 2482 l = l := xpr_no (by decide +kernel)
theorem r_276_2483 : xfetch 276 2483 = some (.aload_n 0, 1) := by decide +kernel
theorem n_276_2483 : ∀ l, xpr 276 2483 l = l := xpr_no (by decide +kernel)
theorem r_276_2484 : xfetch 276 2484 = some (.iload 4, 2) := by decide +kernel
theorem n_276_2484 : ∀ l, xpr 276 2484 l = l := xpr_no (by decide +kernel)
theorem r_276_2486 : xfetch 276 2486 = some (.iconst 2, 1) := by decide +kernel
theorem n_276_2486 : ∀ l, xpr 276 2486 l = l := xpr_no (by decide +kernel)
theorem r_276_2487 : xfetch 276 2487 = some (.iadd, 1) := by decide +kernel
theorem n_276_2487 : ∀ l, xpr 276 2487 l = l := xpr_no (by decide +kernel)
theorem r_276_2488 : xfetch 276 2488 = some (.iaload, 1) := by decide +kernel
theorem n_276_2488 : ∀ l, xpr 276 2488 l = l := xpr_no (by decide +kernel)
theorem r_276_2489 : xfetch 276 2489 = some (.i2l, 1) := by decide +kernel
theorem n_276_2489 : ∀ l, xpr 276 2489 l = l := xpr_no (by decide +kernel)
theorem r_276_2490 : xfetch 276 2490 = some (.bipush 32, 2) := by decide +kernel
theorem n_276_2490 : ∀ l, xpr 276 2490 l = l := xpr_no (by decide +kernel)
theorem r_276_2492 : xfetch 276 2492 = some (.lshl, 1) := by decide +kernel
theorem n_276_2492 : ∀ l, xpr 276 2492 l = l := xpr_no (by decide +kernel)
theorem r_276_2493 : xfetch 276 2493 = some (.aload_n 0, 1) := by decide +kernel
theorem n_276_2493 : ∀ l, xpr 276 2493 l = l := xpr_no (by decide +kernel)
theorem r_276_2494 : xfetch 276 2494 = some (.iload 4, 2) := by decide +kernel
theorem n_276_2494 : ∀ l, xpr 276 2494 l = l := xpr_no (by decide +kernel)
theorem r_276_2496 : xfetch 276 2496 = some (.iconst 3, 1) := by decide +kernel
theorem n_276_2496 : ∀ l, xpr 276 2496 l = l := xpr_no (by decide +kernel)
theorem r_276_2497 : xfetch 276 2497 = some (.iadd, 1) := by decide +kernel
theorem n_276_2497 : ∀ l, xpr 276 2497 l = l := xpr_no (by decide +kernel)
theorem r_276_2498 : xfetch 276 2498 = some (.iaload, 1) := by decide +kernel
theorem n_276_2498 : ∀ l, xpr 276 2498 l = l := xpr_no (by decide +kernel)
theorem r_276_2499 : xfetch 276 2499 = some (.i2l, 1) := by decide +kernel
theorem n_276_2499 : ∀ l, xpr 276 2499 l = l := xpr_no (by decide +kernel)
theorem r_276_2500 : xfetch 276 2500 = some (.ldc2_w 196, 3) := by decide +kernel
theorem n_276_2500 : ∀ l, xpr 276 2500 l = l := xpr_no (by decide +kernel)
theorem r_276_2503 : xfetch 276 2503 = some (.land, 1) := by decide +kernel
theorem n_276_2503 : ∀ l, xpr 276 2503 l = l := xpr_no (by decide +kernel)
theorem r_276_2504 : xfetch 276 2504 = some (.lor, 1) := by decide +kernel
theorem n_276_2504 : ∀ l, xpr 276 2504 l = l := xpr_no (by decide +kernel)
theorem r_276_2505 : xfetch 276 2505 = some (.aload_n 0, 1) := by decide +kernel
theorem n_276_2505 : ∀ l, xpr 276 2505 l = l := xpr_no (by decide +kernel)
theorem r_276_2506 : xfetch 276 2506 = some (.iload 4, 2) := by decide +kernel
theorem n_276_2506 : ∀ l, xpr 276 2506 l = l := xpr_no (by decide +kernel)
theorem r_276_2508 : xfetch 276 2508 = some (.iconst 4, 1) := by decide +kernel
theorem n_276_2508 : ∀ l, xpr 276 2508 l = l := xpr_no (by decide +kernel)
theorem r_276_2509 : xfetch 276 2509 = some (.iadd, 1) := by decide +kernel
theorem n_276_2509 : ∀ l, xpr 276 2509 l = l := xpr_no (by decide +kernel)
theorem r_276_2510 : xfetch 276 2510 = some (.iaload, 1) := by decide +kernel
theorem n_276_2510 : ∀ l, xpr 276 2510 l = l := xpr_no (by decide +kernel)
theorem r_276_2511 : xfetch 276 2511 = some (.aload_n 0, 1) := by decide +kernel
theorem n_276_2511 : ∀ l, xpr 276 2511 l = l := xpr_no (by decide +kernel)
theorem r_276_2512 : xfetch 276 2512 = some (.iload 4, 2) := by decide +kernel
theorem n_276_2512 : ∀ l, xpr 276 2512 l = l := xpr_no (by decide +kernel)
theorem r_276_2514 : xfetch 276 2514 = some (.iconst 5, 1) := by decide +kernel
theorem n_276_2514 : ∀ l, xpr 276 2514 l = l := xpr_no (by decide +kernel)
theorem r_276_2515 : xfetch 276 2515 = some (.iadd, 1) := by decide +kernel
theorem n_276_2515 : ∀ l, xpr 276 2515 l = l := xpr_no (by decide +kernel)
theorem r_276_2516 : xfetch 276 2516 = some (.iaload, 1) := by decide +kernel
theorem n_276_2516 : ∀ l, xpr 276 2516 l = l := xpr_no (by decide +kernel)
theorem r_276_2517 : xfetch 276 2517 = some (.aload_n 0, 1) := by decide +kernel
theorem n_276_2517 : ∀ l, xpr 276 2517 l = l := xpr_no (by decide +kernel)
theorem r_276_2518 : xfetch 276 2518 = some (.iload 4, 2) := by decide +kernel
theorem n_276_2518 : ∀ l, xpr 276 2518 l = l := xpr_no (by decide +kernel)
theorem r_276_2520 : xfetch 276 2520 = some (.bipush 6, 2) := by decide +kernel
theorem n_276_2520 : ∀ l, xpr 276 2520 l = l := xpr_no (by decide +kernel)
theorem r_276_2522 : xfetch 276 2522 = some (.iadd, 1) := by decide +kernel
theorem n_276_2522 : ∀ l, xpr 276 2522 l = l := xpr_no (by decide +kernel)
theorem r_276_2523 : xfetch 276 2523 = some (.iaload, 1) := by decide +kernel
theorem n_276_2523 : ∀ l, xpr 276 2523 l = l := xpr_no (by decide +kernel)
theorem r_276_2524 : xfetch 276 2524 = some (.aload_n 3, 1) := by decide +kernel
theorem n_276_2524 : ∀ l, xpr 276 2524 l = l := xpr_no (by decide +kernel)
theorem r_276_2525 : xfetch 276 2525 = some (.invokestatic 244, 3) := by decide +kernel
theorem n_276_2525 : ∀ l, xpr 276 2525 l = l := xpr_no (by decide +kernel)
theorem r_276_2528 : xfetch 276 2528 = some (.istore 5, 2) := by decide +kernel
theorem n_276_2528 : ∀ l, xpr 276 2528 l = l := xpr_no (by decide +kernel)
theorem r_276_2530 : xfetch 276 2530 = some (.aload_n 2, 1) := by decide +kernel
theorem n_276_2530 : ∀ l, xpr 276 2530 l = l := xpr_no (by decide +kernel)
theorem r_276_2531 : xfetch 276 2531 = some (.aload_n 0, 1) := by decide +kernel
theorem n_276_2531 : ∀ l, xpr 276 2531 l = l := xpr_no (by decide +kernel)
theorem r_276_2532 : xfetch 276 2532 = some (.iload 4, 2) := by decide +kernel
theorem n_276_2532 : ∀ l, xpr 276 2532 l = l := xpr_no (by decide +kernel)
theorem r_276_2534 : xfetch 276 2534 = some (.iconst 1, 1) := by decide +kernel
theorem n_276_2534 : ∀ l, xpr 276 2534 l = l := xpr_no (by decide +kernel)
theorem r_276_2535 : xfetch 276 2535 = some (.iadd, 1) := by decide +kernel
theorem n_276_2535 : ∀ l, xpr 276 2535 l = l := xpr_no (by decide +kernel)
theorem r_276_2536 : xfetch 276 2536 = some (.iaload, 1) := by decide +kernel
theorem n_276_2536 : ∀ l, xpr 276 2536 l = l := xpr_no (by decide +kernel)
theorem r_276_2537 : xfetch 276 2537 = some (.aload_n 0, 1) := by decide +kernel
theorem n_276_2537 : ∀ l, xpr 276 2537 l = l := xpr_no (by decide +kernel)
theorem r_276_2538 : xfetch 276 2538 = some (.iload 4, 2) := by decide +kernel
theorem n_276_2538 : ∀ l, xpr 276 2538 l = l := xpr_no (by decide +kernel)
theorem r_276_2540 : xfetch 276 2540 = some (.iconst 2, 1) := by decide +kernel
theorem n_276_2540 : ∀ l, xpr 276 2540 l = l := xpr_no (by decide +kernel)
theorem r_276_2541 : xfetch 276 2541 = some (.iadd, 1) := by decide +kernel
theorem n_276_2541 : ∀ l, xpr 276 2541 l = l := xpr_no (by decide +kernel)
theorem r_276_2542 : xfetch 276 2542 = some (.iaload, 1) := by decide +kernel
theorem n_276_2542 : ∀ l, xpr 276 2542 l = l := xpr_no (by decide +kernel)
theorem r_276_2543 : xfetch 276 2543 = some (.i2l, 1) := by decide +kernel
theorem n_276_2543 : ∀ l, xpr 276 2543 l = l := xpr_no (by decide +kernel)
theorem r_276_2544 : xfetch 276 2544 = some (.bipush 32, 2) := by decide +kernel
theorem n_276_2544 : ∀ l, xpr 276 2544 l = l := xpr_no (by decide +kernel)
theorem r_276_2546 : xfetch 276 2546 = some (.lshl, 1) := by decide +kernel
theorem n_276_2546 : ∀ l, xpr 276 2546 l = l := xpr_no (by decide +kernel)
theorem r_276_2547 : xfetch 276 2547 = some (.aload_n 0, 1) := by decide +kernel
theorem n_276_2547 : ∀ l, xpr 276 2547 l = l := xpr_no (by decide +kernel)
theorem r_276_2548 : xfetch 276 2548 = some (.iload 4, 2) := by decide +kernel
theorem n_276_2548 : ∀ l, xpr 276 2548 l = l := xpr_no (by decide +kernel)
theorem r_276_2550 : xfetch 276 2550 = some (.iconst 3, 1) := by decide +kernel
theorem n_276_2550 : ∀ l, xpr 276 2550 l = l := xpr_no (by decide +kernel)
theorem r_276_2551 : xfetch 276 2551 = some (.iadd, 1) := by decide +kernel
theorem n_276_2551 : ∀ l, xpr 276 2551 l = l := xpr_no (by decide +kernel)
theorem r_276_2552 : xfetch 276 2552 = some (.iaload, 1) := by decide +kernel
theorem n_276_2552 : ∀ l, xpr 276 2552 l = l := xpr_no (by decide +kernel)
theorem r_276_2553 : xfetch 276 2553 = some (.i2l, 1) := by decide +kernel
theorem n_276_2553 : ∀ l, xpr 276 2553 l = l := xpr_no (by decide +kernel)
theorem r_276_2554 : xfetch 276 2554 = some (.ldc2_w 196, 3) := by decide +kernel
theorem n_276_2554 : ∀ l, xpr 276 2554 l = l := xpr_no (by decide +kernel)
theorem r_276_2557 : xfetch 276 2557 = some (.land, 1) := by decide +kernel
theorem n_276_2557 : ∀ l, xpr 276 2557 l = l := xpr_no (by decide +kernel)
theorem r_276_2558 : xfetch 276 2558 = some (.lor, 1) := by decide +kernel
theorem n_276_2558 : ∀ l, xpr 276 2558 l = l := xpr_no (by decide +kernel)
theorem r_276_2559 : xfetch 276 2559 = some (.aload_n 0, 1) := by decide +kernel
theorem n_276_2559 : ∀ l, xpr 276 2559 l = l := xpr_no (by decide +kernel)
theorem r_276_2560 : xfetch 276 2560 = some (.iload 4, 2) := by decide +kernel
theorem n_276_2560 : ∀ l, xpr 276 2560 l = l := xpr_no (by decide +kernel)
theorem r_276_2562 : xfetch 276 2562 = some (.iconst 4, 1) := by decide +kernel
theorem n_276_2562 : ∀ l, xpr 276 2562 l = l := xpr_no (by decide +kernel)
theorem r_276_2563 : xfetch 276 2563 = some (.iadd, 1) := by decide +kernel
theorem n_276_2563 : ∀ l, xpr 276 2563 l = l := xpr_no (by decide +kernel)
theorem r_276_2564 : xfetch 276 2564 = some (.iaload, 1) := by decide +kernel
theorem n_276_2564 : ∀ l, xpr 276 2564 l = l := xpr_no (by decide +kernel)
theorem r_276_2565 : xfetch 276 2565 = some (.aload_n 0, 1) := by decide +kernel
theorem n_276_2565 : ∀ l, xpr 276 2565 l = l := xpr_no (by decide +kernel)
theorem r_276_2566 : xfetch 276 2566 = some (.iload 4, 2) := by decide +kernel
theorem n_276_2566 : ∀ l, xpr 276 2566 l = l := xpr_no (by decide +kernel)
theorem r_276_2568 : xfetch 276 2568 = some (.iconst 5, 1) := by decide +kernel
theorem n_276_2568 : ∀ l, xpr 276 2568 l = l := xpr_no (by decide +kernel)
theorem r_276_2569 : xfetch 276 2569 = some (.iadd, 1) := by decide +kernel
theorem n_276_2569 : ∀ l, xpr 276 2569 l = l := xpr_no (by decide +kernel)
theorem r_276_2570 : xfetch 276 2570 = some (.iaload, 1) := by decide +kernel
theorem n_276_2570 : ∀ l, xpr 276 2570 l = l := xpr_no (by decide +kernel)
theorem r_276_2571 : xfetch 276 2571 = some (.aload_n 0, 1) := by decide +kernel
theorem n_276_2571 : ∀ l, xpr 276 2571 l = l := xpr_no (by decide +kernel)
theorem r_276_2572 : xfetch 276 2572 = some (.iload 4, 2) := by decide +kernel
theorem n_276_2572 : ∀ l, xpr 276 2572 l = l := xpr_no (by decide +kernel)
theorem r_276_2574 : xfetch 276 2574 = some (.bipush 6, 2) := by decide +kernel
theorem n_276_2574 : ∀ l, xpr 276 2574 l = l := xpr_no (by decide +kernel)
theorem r_276_2576 : xfetch 276 2576 = some (.iadd, 1) := by decide +kernel
theorem n_276_2576 : ∀ l, xpr 276 2576 l = l := xpr_no (by decide +kernel)
theorem r_276_2577 : xfetch 276 2577 = some (.iaload, 1) := by decide +kernel
theorem n_276_2577 : ∀ l, xpr 276 2577 l = l := xpr_no (by decide +kernel)
theorem r_276_2578 : xfetch 276 2578 = some (.invokevirtual 247, 3) := by decide +kernel
theorem n_276_2578 : ∀ l, xpr 276 2578 l = l := xpr_no (by decide +kernel)
theorem r_276_2581 : xfetch 276 2581 = some (.istore 6, 2) := by decide +kernel
theorem n_276_2581 : ∀ l, xpr 276 2581 l = l := xpr_no (by decide +kernel)
theorem r_276_2583 : xfetch 276 2583 = some (.aload_n 2, 1) := by decide +kernel
theorem n_276_2583 : ∀ l, xpr 276 2583 l = l := xpr_no (by decide +kernel)
theorem r_276_2584 : xfetch 276 2584 = some (.invokevirtual 133, 3) := by decide +kernel
theorem n_276_2584 : ∀ l, xpr 276 2584 l = l := xpr_no (by decide +kernel)
theorem r_276_2587 : xfetch 276 2587 = some (.iload 5, 2) := by decide +kernel
theorem n_276_2587 : ∀ l, xpr 276 2587 l = l := xpr_no (by decide +kernel)
theorem r_276_2589 : xfetch 276 2589 = some (.if_icmp .eq 5, 3) := by decide +kernel
theorem n_276_2589 : ∀ l, xpr 276 2589 l = l := xpr_no (by decide +kernel)
theorem r_276_2592 : xfetch 276 2592 = some (.iconst 0, 1) := by decide +kernel
theorem n_276_2592 : ∀ l, xpr 276 2592 l = l := xpr_no (by decide +kernel)
theorem r_276_2593 : xfetch 276 2593 = some (.ireturn, 1) := by decide +kernel
theorem n_276_2593 : ∀ l, xpr 276 2593 l = l := xpr_no (by decide +kernel)
theorem r_276_2594 : xfetch 276 2594 = some (.iload 5, 2) := by decide +kernel
theorem n_276_2594 : ∀ l, xpr 276 2594 l = l := xpr_no (by decide +kernel)
theorem r_276_2596 : xfetch 276 2596 = some (.ifCond .ne 15, 3) := by decide +kernel
theorem n_276_2596 : ∀ l, xpr 276 2596 l = l := xpr_no (by decide +kernel)
theorem r_276_2599 : xfetch 276 2599 = some (.aload_n 3, 1) := by decide +kernel
theorem n_276_2599 : ∀ l, xpr 276 2599 l = l := xpr_no (by decide +kernel)
theorem r_276_2600 : xfetch 276 2600 = some (.iconst 0, 1) := by decide +kernel
theorem n_276_2600 : ∀ l, xpr 276 2600 l = l := xpr_no (by decide +kernel)
theorem r_276_2601 : xfetch 276 2601 = some (.laload, 1) := by decide +kernel
theorem n_276_2601 : ∀ l, xpr 276 2601 l = l := xpr_no (by decide +kernel)
theorem r_276_2602 : xfetch 276 2602 = some (.iload 6, 2) := by decide +kernel
theorem n_276_2602 : ∀ l, xpr 276 2602 l = l := xpr_no (by decide +kernel)
theorem r_276_2604 : xfetch 276 2604 = some (.i2l, 1) := by decide +kernel
theorem n_276_2604 : ∀ l, xpr 276 2604 l = l := xpr_no (by decide +kernel)
theorem r_276_2605 : xfetch 276 2605 = some (.lcmp, 1) := by decide +kernel
theorem n_276_2605 : ∀ l, xpr 276 2605 l = l := xpr_no (by decide +kernel)
theorem r_276_2606 : xfetch 276 2606 = some (.ifCond .eq 5, 3) := by decide +kernel
theorem n_276_2606 : ∀ l, xpr 276 2606 l = l := xpr_no (by decide +kernel)
theorem r_276_2609 : xfetch 276 2609 = some (.iconst 0, 1) := by decide +kernel
theorem n_276_2609 : ∀ l, xpr 276 2609 l = l := xpr_no (by decide +kernel)
theorem r_276_2610 : xfetch 276 2610 = some (.ireturn, 1) := by decide +kernel
theorem n_276_2610 : ∀ l, xpr 276 2610 l = l := xpr_no (by decide +kernel)
theorem r_276_2611 : xfetch 276 2611 = some (.goto 297, 3) := by decide +kernel
theorem n_276_2611 : ∀ l, xpr 276 2611 l = l := xpr_no (by decide +kernel)
theorem r_276_2614 : xfetch 276 2614 = some (.aload_n 1, 1) := by decide +kernel
theorem r_276_2615 : xfetch 276 2615 = some (.aload_n 0, 1) := by decide +kernel
theorem n_276_2615 : ∀ l, xpr 276 2615 l = l := xpr_no (by decide +kernel)
theorem r_276_2616 : xfetch 276 2616 = some (.iload 4, 2) := by decide +kernel
theorem n_276_2616 : ∀ l, xpr 276 2616 l = l := xpr_no (by decide +kernel)
theorem r_276_2618 : xfetch 276 2618 = some (.iconst 1, 1) := by decide +kernel
theorem n_276_2618 : ∀ l, xpr 276 2618 l = l := xpr_no (by decide +kernel)
theorem r_276_2619 : xfetch 276 2619 = some (.iadd, 1) := by decide +kernel
theorem n_276_2619 : ∀ l, xpr 276 2619 l = l := xpr_no (by decide +kernel)
theorem r_276_2620 : xfetch 276 2620 = some (.iaload, 1) := by decide +kernel
theorem n_276_2620 : ∀ l, xpr 276 2620 l = l := xpr_no (by decide +kernel)
theorem r_276_2621 : xfetch 276 2621 = some (.aload_n 0, 1) := by decide +kernel
theorem n_276_2621 : ∀ l, xpr 276 2621 l = l := xpr_no (by decide +kernel)
theorem r_276_2622 : xfetch 276 2622 = some (.iload 4, 2) := by decide +kernel
theorem n_276_2622 : ∀ l, xpr 276 2622 l = l := xpr_no (by decide +kernel)
theorem r_276_2624 : xfetch 276 2624 = some (.iconst 2, 1) := by decide +kernel
theorem n_276_2624 : ∀ l, xpr 276 2624 l = l := xpr_no (by decide +kernel)
theorem r_276_2625 : xfetch 276 2625 = some (.iadd, 1) := by decide +kernel
theorem n_276_2625 : ∀ l, xpr 276 2625 l = l := xpr_no (by decide +kernel)
theorem r_276_2626 : xfetch 276 2626 = some (.iaload, 1) := by decide +kernel
theorem n_276_2626 : ∀ l, xpr 276 2626 l = l := xpr_no (by decide +kernel)
theorem r_276_2627 : xfetch 276 2627 = some (.i2l, 1) := by decide +kernel
theorem n_276_2627 : ∀ l, xpr 276 2627 l = l := xpr_no (by decide +kernel)
theorem r_276_2628 : xfetch 276 2628 = some (.bipush 32, 2) := by decide +kernel
theorem n_276_2628 : ∀ l, xpr 276 2628 l = l := xpr_no (by decide +kernel)
theorem r_276_2630 : xfetch 276 2630 = some (.lshl, 1) := by decide +kernel
theorem n_276_2630 : ∀ l, xpr 276 2630 l = l := xpr_no (by decide +kernel)
theorem r_276_2631 : xfetch 276 2631 = some (.aload_n 0, 1) := by decide +kernel
theorem n_276_2631 : ∀ l, xpr 276 2631 l = l := xpr_no (by decide +kernel)
theorem r_276_2632 : xfetch 276 2632 = some (.iload 4, 2) := by decide +kernel
theorem n_276_2632 : ∀ l, xpr 276 2632 l = l := xpr_no (by decide +kernel)
theorem r_276_2634 : xfetch 276 2634 = some (.iconst 3, 1) := by decide +kernel
theorem n_276_2634 : ∀ l, xpr 276 2634 l = l := xpr_no (by decide +kernel)
theorem r_276_2635 : xfetch 276 2635 = some (.iadd, 1) := by decide +kernel
theorem n_276_2635 : ∀ l, xpr 276 2635 l = l := xpr_no (by decide +kernel)
theorem r_276_2636 : xfetch 276 2636 = some (.iaload, 1) := by decide +kernel
theorem n_276_2636 : ∀ l, xpr 276 2636 l = l := xpr_no (by decide +kernel)
theorem r_276_2637 : xfetch 276 2637 = some (.i2l, 1) := by decide +kernel
theorem n_276_2637 : ∀ l, xpr 276 2637 l = l := xpr_no (by decide +kernel)
theorem r_276_2638 : xfetch 276 2638 = some (.ldc2_w 196, 3) := by decide +kernel
theorem n_276_2638 : ∀ l, xpr 276 2638 l = l := xpr_no (by decide +kernel)
theorem r_276_2641 : xfetch 276 2641 = some (.land, 1) := by decide +kernel
theorem n_276_2641 : ∀ l, xpr 276 2641 l = l := xpr_no (by decide +kernel)
theorem r_276_2642 : xfetch 276 2642 = some (.lor, 1) := by decide +kernel
theorem n_276_2642 : ∀ l, xpr 276 2642 l = l := xpr_no (by decide +kernel)
theorem r_276_2643 : xfetch 276 2643 = some (.aload_n 0, 1) := by decide +kernel
theorem n_276_2643 : ∀ l, xpr 276 2643 l = l := xpr_no (by decide +kernel)
theorem r_276_2644 : xfetch 276 2644 = some (.iload 4, 2) := by decide +kernel
theorem n_276_2644 : ∀ l, xpr 276 2644 l = l := xpr_no (by decide +kernel)
theorem r_276_2646 : xfetch 276 2646 = some (.iconst 4, 1) := by decide +kernel
theorem n_276_2646 : ∀ l, xpr 276 2646 l = l := xpr_no (by decide +kernel)
theorem r_276_2647 : xfetch 276 2647 = some (.iadd, 1) := by decide +kernel
theorem n_276_2647 : ∀ l, xpr 276 2647 l = l := xpr_no (by decide +kernel)
theorem r_276_2648 : xfetch 276 2648 = some (.iaload, 1) := by decide +kernel
theorem n_276_2648 : ∀ l, xpr 276 2648 l = l := xpr_no (by decide +kernel)
theorem r_276_2649 : xfetch 276 2649 = some (.aload_n 0, 1) := by decide +kernel
theorem n_276_2649 : ∀ l, xpr 276 2649 l = l := xpr_no (by decide +kernel)
theorem r_276_2650 : xfetch 276 2650 = some (.iload 4, 2) := by decide +kernel
theorem n_276_2650 : ∀ l, xpr 276 2650 l = l := xpr_no (by decide +kernel)
theorem r_276_2652 : xfetch 276 2652 = some (.iconst 5, 1) := by decide +kernel
theorem n_276_2652 : ∀ l, xpr 276 2652 l = l := xpr_no (by decide +kernel)
theorem r_276_2653 : xfetch 276 2653 = some (.iadd, 1) := by decide +kernel
theorem n_276_2653 : ∀ l, xpr 276 2653 l = l := xpr_no (by decide +kernel)
theorem r_276_2654 : xfetch 276 2654 = some (.iaload, 1) := by decide +kernel
theorem n_276_2654 : ∀ l, xpr 276 2654 l = l := xpr_no (by decide +kernel)
theorem r_276_2655 : xfetch 276 2655 = some (.aload_n 3, 1) := by decide +kernel
theorem n_276_2655 : ∀ l, xpr 276 2655 l = l := xpr_no (by decide +kernel)
theorem r_276_2656 : xfetch 276 2656 = some (.invokestatic 248, 3) := by decide +kernel
theorem n_276_2656 : ∀ l, xpr 276 2656 l = l := xpr_no (by decide +kernel)
theorem r_276_2659 : xfetch 276 2659 = some (.istore 5, 2) := by decide +kernel
theorem n_276_2659 : ∀ l, xpr 276 2659 l = l := xpr_no (by decide +kernel)
theorem r_276_2661 : xfetch 276 2661 = some (.aload_n 2, 1) := by decide +kernel
theorem n_276_2661 : ∀ l, xpr 276 2661 l = l := xpr_no (by decide +kernel)
theorem r_276_2662 : xfetch 276 2662 = some (.aload_n 0, 1) := by decide +kernel
theorem n_276_2662 : ∀ l, xpr 276 2662 l = l := xpr_no (by decide +kernel)
theorem r_276_2663 : xfetch 276 2663 = some (.iload 4, 2) := by decide +kernel
theorem n_276_2663 : ∀ l, xpr 276 2663 l = l := xpr_no (by decide +kernel)
theorem r_276_2665 : xfetch 276 2665 = some (.iconst 1, 1) := by decide +kernel
theorem n_276_2665 : ∀ l, xpr 276 2665 l = l := xpr_no (by decide +kernel)
theorem r_276_2666 : xfetch 276 2666 = some (.iadd, 1) := by decide +kernel
theorem n_276_2666 : ∀ l, xpr 276 2666 l = l := xpr_no (by decide +kernel)
theorem r_276_2667 : xfetch 276 2667 = some (.iaload, 1) := by decide +kernel
theorem n_276_2667 : ∀ l, xpr 276 2667 l = l := xpr_no (by decide +kernel)
theorem r_276_2668 : xfetch 276 2668 = some (.aload_n 0, 1) := by decide +kernel
theorem n_276_2668 : ∀ l, xpr 276 2668 l = l := xpr_no (by decide +kernel)
theorem r_276_2669 : xfetch 276 2669 = some (.iload 4, 2) := by decide +kernel
theorem n_276_2669 : ∀ l, xpr 276 2669 l = l := xpr_no (by decide +kernel)
theorem r_276_2671 : xfetch 276 2671 = some (.iconst 2, 1) := by decide +kernel
theorem n_276_2671 : ∀ l, xpr 276 2671 l = l := xpr_no (by decide +kernel)
theorem r_276_2672 : xfetch 276 2672 = some (.iadd, 1) := by decide +kernel
theorem n_276_2672 : ∀ l, xpr 276 2672 l = l := xpr_no (by decide +kernel)
theorem r_276_2673 : xfetch 276 2673 = some (.iaload, 1) := by decide +kernel
theorem n_276_2673 : ∀ l, xpr 276 2673 l = l := xpr_no (by decide +kernel)
theorem r_276_2674 : xfetch 276 2674 = some (.i2l, 1) := by decide +kernel
theorem n_276_2674 : ∀ l, xpr 276 2674 l = l := xpr_no (by decide +kernel)
theorem r_276_2675 : xfetch 276 2675 = some (.bipush 32, 2) := by decide +kernel
theorem n_276_2675 : ∀ l, xpr 276 2675 l = l := xpr_no (by decide +kernel)
theorem r_276_2677 : xfetch 276 2677 = some (.lshl, 1) := by decide +kernel
theorem n_276_2677 : ∀ l, xpr 276 2677 l = l := xpr_no (by decide +kernel)
theorem r_276_2678 : xfetch 276 2678 = some (.aload_n 0, 1) := by decide +kernel
theorem n_276_2678 : ∀ l, xpr 276 2678 l = l := xpr_no (by decide +kernel)
theorem r_276_2679 : xfetch 276 2679 = some (.iload 4, 2) := by decide +kernel
theorem n_276_2679 : ∀ l, xpr 276 2679 l = l := xpr_no (by decide +kernel)
theorem r_276_2681 : xfetch 276 2681 = some (.iconst 3, 1) := by decide +kernel
theorem n_276_2681 : ∀ l, xpr 276 2681 l = l := xpr_no (by decide +kernel)
theorem r_276_2682 : xfetch 276 2682 = some (.iadd, 1) := by decide +kernel
theorem n_276_2682 : ∀ l, xpr 276 2682 l = l := xpr_no (by decide +kernel)
theorem r_276_2683 : xfetch 276 2683 = some (.iaload, 1) := by decide +kernel
theorem n_276_2683 : ∀ l, xpr 276 2683 l = l := xpr_no (by decide +kernel)
theorem r_276_2684 : xfetch 276 2684 = some (.i2l, 1) := by decide +kernel
theorem n_276_2684 : ∀ l, xpr 276 2684 l = l := xpr_no (by decide +kernel)
theorem r_276_2685 : xfetch 276 2685 = some (.ldc2_w 196, 3) := by decide +kernel
theorem n_276_2685 : ∀ l, xpr 276 2685 l = l := xpr_no (by decide +kernel)
theorem r_276_2688 : xfetch 276 2688 = some (.land, 1) := by decide +kernel
theorem n_276_2688 : ∀ l, xpr 276 2688 l = l := xpr_no (by decide +kernel)
theorem r_276_2689 : xfetch 276 2689 = some (.lor, 1) := by decide +kernel
theorem n_276_2689 : ∀ l, xpr 276 2689 l = l := xpr_no (by decide +kernel)
theorem r_276_2690 : xfetch 276 2690 = some (.aload_n 0, 1) := by decide +kernel
theorem n_276_2690 : ∀ l, xpr 276 2690 l = l := xpr_no (by decide +kernel)
theorem r_276_2691 : xfetch 276 2691 = some (.iload 4, 2) := by decide +kernel
theorem n_276_2691 : ∀ l, xpr 276 2691 l = l := xpr_no (by decide +kernel)
theorem r_276_2693 : xfetch 276 2693 = some (.iconst 4, 1) := by decide +kernel
theorem n_276_2693 : ∀ l, xpr 276 2693 l = l := xpr_no (by decide +kernel)
theorem r_276_2694 : xfetch 276 2694 = some (.iadd, 1) := by decide +kernel
theorem n_276_2694 : ∀ l, xpr 276 2694 l = l := xpr_no (by decide +kernel)
theorem r_276_2695 : xfetch 276 2695 = some (.iaload, 1) := by decide +kernel
theorem n_276_2695 : ∀ l, xpr 276 2695 l = l := xpr_no (by decide +kernel)
theorem r_276_2696 : xfetch 276 2696 = some (.aload_n 0, 1) := by decide +kernel
theorem n_276_2696 : ∀ l, xpr 276 2696 l = l := xpr_no (by decide +kernel)
theorem r_276_2697 : xfetch 276 2697 = some (.iload 4, 2) := by decide +kernel
theorem n_276_2697 : ∀ l, xpr 276 2697 l = l := xpr_no (by decide +kernel)
theorem r_276_2699 : xfetch 276 2699 = some (.iconst 5, 1) := by decide +kernel
theorem n_276_2699 : ∀ l, xpr 276 2699 l = l := xpr_no (by decide +kernel)
theorem r_276_2700 : xfetch 276 2700 = some (.iadd, 1) := by decide +kernel
theorem n_276_2700 : ∀ l, xpr 276 2700 l = l := xpr_no (by decide +kernel)
theorem r_276_2701 : xfetch 276 2701 = some (.iaload, 1) := by decide +kernel
theorem n_276_2701 : ∀ l, xpr 276 2701 l = l := xpr_no (by decide +kernel)
theorem r_276_2702 : xfetch 276 2702 = some (.invokevirtual 251, 3) := by decide +kernel
theorem n_276_2702 : ∀ l, xpr 276 2702 l = l := xpr_no (by decide +kernel)
theorem r_276_2705 : xfetch 276 2705 = some (.istore 6, 2) := by decide +kernel
theorem n_276_2705 : ∀ l, xpr 276 2705 l = l := xpr_no (by decide +kernel)
theorem r_276_2707 : xfetch 276 2707 = some (.aload_n 2, 1) := by decide +kernel
theorem n_276_2707 : ∀ l, xpr 276 2707 l = l := xpr_no (by decide +kernel)
theorem r_276_2708 : xfetch 276 2708 = some (.invokevirtual 133, 3) := by decide +kernel
theorem n_276_2708 : ∀ l, xpr 276 2708 l = l := xpr_no (by decide +kernel)
theorem r_276_2711 : xfetch 276 2711 = some (.iload 5, 2) := by decide +kernel
theorem n_276_2711 : ∀ l, xpr 276 2711 l = l := xpr_no (by decide +kernel)
theorem r_276_2713 : xfetch 276 2713 = some (.if_icmp .eq 5, 3) := by decide +kernel
theorem n_276_2713 : ∀ l, xpr 276 2713 l = l := xpr_no (by decide +kernel)
theorem r_276_2716 : xfetch 276 2716 = some (.iconst 0, 1) := by decide +kernel
theorem n_276_2716 : ∀ l, xpr 276 2716 l = l := xpr_no (by decide +kernel)
theorem r_276_2717 : xfetch 276 2717 = some (.ireturn, 1) := by decide +kernel
theorem n_276_2717 : ∀ l, xpr 276 2717 l = l := xpr_no (by decide +kernel)
theorem r_276_2718 : xfetch 276 2718 = some (.iload 5, 2) := by decide +kernel
theorem n_276_2718 : ∀ l, xpr 276 2718 l = l := xpr_no (by decide +kernel)
theorem r_276_2720 : xfetch 276 2720 = some (.ifCond .ne 15, 3) := by decide +kernel
theorem n_276_2720 : ∀ l, xpr 276 2720 l = l := xpr_no (by decide +kernel)
theorem r_276_2723 : xfetch 276 2723 = some (.aload_n 3, 1) := by decide +kernel
theorem n_276_2723 : ∀ l, xpr 276 2723 l = l := xpr_no (by decide +kernel)
theorem r_276_2724 : xfetch 276 2724 = some (.iconst 0, 1) := by decide +kernel
theorem n_276_2724 : ∀ l, xpr 276 2724 l = l := xpr_no (by decide +kernel)
theorem r_276_2725 : xfetch 276 2725 = some (.laload, 1) := by decide +kernel
theorem n_276_2725 : ∀ l, xpr 276 2725 l = l := xpr_no (by decide +kernel)
theorem r_276_2726 : xfetch 276 2726 = some (.iload 6, 2) := by decide +kernel
theorem n_276_2726 : ∀ l, xpr 276 2726 l = l := xpr_no (by decide +kernel)
theorem r_276_2728 : xfetch 276 2728 = some (.i2l, 1) := by decide +kernel
theorem n_276_2728 : ∀ l, xpr 276 2728 l = l := xpr_no (by decide +kernel)
theorem r_276_2729 : xfetch 276 2729 = some (.lcmp, 1) := by decide +kernel
theorem n_276_2729 : ∀ l, xpr 276 2729 l = l := xpr_no (by decide +kernel)
theorem r_276_2730 : xfetch 276 2730 = some (.ifCond .eq 5, 3) := by decide +kernel
theorem n_276_2730 : ∀ l, xpr 276 2730 l = l := xpr_no (by decide +kernel)
theorem r_276_2733 : xfetch 276 2733 = some (.iconst 0, 1) := by decide +kernel
theorem n_276_2733 : ∀ l, xpr 276 2733 l = l := xpr_no (by decide +kernel)
theorem r_276_2734 : xfetch 276 2734 = some (.ireturn, 1) := by decide +kernel
theorem n_276_2734 : ∀ l, xpr 276 2734 l = l := xpr_no (by decide +kernel)
theorem r_276_2735 : xfetch 276 2735 = some (.goto 173, 3) := by decide +kernel
theorem n_276_2735 : ∀ l, xpr 276 2735 l = l := xpr_no (by decide +kernel)
theorem r_276_2738 : xfetch 276 2738 = some (.aload_n 1, 1) := by decide +kernel
theorem r_276_2739 : xfetch 276 2739 = some (.aload_n 0, 1) := by decide +kernel
theorem n_276_2739 : ∀ l, xpr 276 2739 l = l := xpr_no (by decide +kernel)
theorem r_276_2740 : xfetch 276 2740 = some (.iload 4, 2) := by decide +kernel
theorem n_276_2740 : ∀ l, xpr 276 2740 l = l := xpr_no (by decide +kernel)
theorem r_276_2742 : xfetch 276 2742 = some (.iconst 1, 1) := by decide +kernel
theorem n_276_2742 : ∀ l, xpr 276 2742 l = l := xpr_no (by decide +kernel)
theorem r_276_2743 : xfetch 276 2743 = some (.iadd, 1) := by decide +kernel
theorem n_276_2743 : ∀ l, xpr 276 2743 l = l := xpr_no (by decide +kernel)
theorem r_276_2744 : xfetch 276 2744 = some (.iaload, 1) := by decide +kernel
theorem n_276_2744 : ∀ l, xpr 276 2744 l = l := xpr_no (by decide +kernel)
theorem r_276_2745 : xfetch 276 2745 = some (.aload_n 0, 1) := by decide +kernel
theorem n_276_2745 : ∀ l, xpr 276 2745 l = l := xpr_no (by decide +kernel)
theorem r_276_2746 : xfetch 276 2746 = some (.iload 4, 2) := by decide +kernel
theorem n_276_2746 : ∀ l, xpr 276 2746 l = l := xpr_no (by decide +kernel)
theorem r_276_2748 : xfetch 276 2748 = some (.iconst 2, 1) := by decide +kernel
theorem n_276_2748 : ∀ l, xpr 276 2748 l = l := xpr_no (by decide +kernel)
theorem r_276_2749 : xfetch 276 2749 = some (.iadd, 1) := by decide +kernel
theorem n_276_2749 : ∀ l, xpr 276 2749 l = l := xpr_no (by decide +kernel)
theorem r_276_2750 : xfetch 276 2750 = some (.iaload, 1) := by decide +kernel
theorem n_276_2750 : ∀ l, xpr 276 2750 l = l := xpr_no (by decide +kernel)
theorem r_276_2751 : xfetch 276 2751 = some (.i2l, 1) := by decide +kernel
theorem n_276_2751 : ∀ l, xpr 276 2751 l = l := xpr_no (by decide +kernel)
theorem r_276_2752 : xfetch 276 2752 = some (.bipush 32, 2) := by decide +kernel
theorem n_276_2752 : ∀ l, xpr 276 2752 l = l := xpr_no (by decide +kernel)
theorem r_276_2754 : xfetch 276 2754 = some (.lshl, 1) := by decide +kernel
theorem n_276_2754 : ∀ l, xpr 276 2754 l = l := xpr_no (by decide +kernel)
theorem r_276_2755 : xfetch 276 2755 = some (.aload_n 0, 1) := by decide +kernel
theorem n_276_2755 : ∀ l, xpr 276 2755 l = l := xpr_no (by decide +kernel)
theorem r_276_2756 : xfetch 276 2756 = some (.iload 4, 2) := by decide +kernel
theorem n_276_2756 : ∀ l, xpr 276 2756 l = l := xpr_no (by decide +kernel)
theorem r_276_2758 : xfetch 276 2758 = some (.iconst 3, 1) := by decide +kernel
theorem n_276_2758 : ∀ l, xpr 276 2758 l = l := xpr_no (by decide +kernel)
theorem r_276_2759 : xfetch 276 2759 = some (.iadd, 1) := by decide +kernel
theorem n_276_2759 : ∀ l, xpr 276 2759 l = l := xpr_no (by decide +kernel)
theorem r_276_2760 : xfetch 276 2760 = some (.iaload, 1) := by decide +kernel
theorem n_276_2760 : ∀ l, xpr 276 2760 l = l := xpr_no (by decide +kernel)
theorem r_276_2761 : xfetch 276 2761 = some (.i2l, 1) := by decide +kernel
theorem n_276_2761 : ∀ l, xpr 276 2761 l = l := xpr_no (by decide +kernel)
theorem r_276_2762 : xfetch 276 2762 = some (.ldc2_w 196, 3) := by decide +kernel
theorem n_276_2762 : ∀ l, xpr 276 2762 l = l := xpr_no (by decide +kernel)
theorem r_276_2765 : xfetch 276 2765 = some (.land, 1) := by decide +kernel
theorem n_276_2765 : ∀ l, xpr 276 2765 l = l := xpr_no (by decide +kernel)
theorem r_276_2766 : xfetch 276 2766 = some (.lor, 1) := by decide +kernel
theorem n_276_2766 : ∀ l, xpr 276 2766 l = l := xpr_no (by decide +kernel)
theorem r_276_2767 : xfetch 276 2767 = some (.aload_n 0, 1) := by decide +kernel
theorem n_276_2767 : ∀ l, xpr 276 2767 l = l := xpr_no (by decide +kernel)
theorem r_276_2768 : xfetch 276 2768 = some (.iload 4, 2) := by decide +kernel
theorem n_276_2768 : ∀ l, xpr 276 2768 l = l := xpr_no (by decide +kernel)
theorem r_276_2770 : xfetch 276 2770 = some (.iconst 4, 1) := by decide +kernel
theorem n_276_2770 : ∀ l, xpr 276 2770 l = l := xpr_no (by decide +kernel)
theorem r_276_2771 : xfetch 276 2771 = some (.iadd, 1) := by decide +kernel
theorem n_276_2771 : ∀ l, xpr 276 2771 l = l := xpr_no (by decide +kernel)
theorem r_276_2772 : xfetch 276 2772 = some (.iaload, 1) := by decide +kernel
theorem n_276_2772 : ∀ l, xpr 276 2772 l = l := xpr_no (by decide +kernel)
theorem r_276_2773 : xfetch 276 2773 = some (.aload_n 3, 1) := by decide +kernel
theorem n_276_2773 : ∀ l, xpr 276 2773 l = l := xpr_no (by decide +kernel)
theorem r_276_2774 : xfetch 276 2774 = some (.invokestatic 252, 3) := by decide +kernel
theorem n_276_2774 : ∀ l, xpr 276 2774 l = l := xpr_no (by decide +kernel)
theorem r_276_2777 : xfetch 276 2777 = some (.istore 5, 2) := by decide +kernel
theorem n_276_2777 : ∀ l, xpr 276 2777 l = l := xpr_no (by decide +kernel)
theorem r_276_2779 : xfetch 276 2779 = some (.aload_n 2, 1) := by decide +kernel
theorem n_276_2779 : ∀ l, xpr 276 2779 l = l := xpr_no (by decide +kernel)
theorem r_276_2780 : xfetch 276 2780 = some (.aload_n 0, 1) := by decide +kernel
theorem n_276_2780 : ∀ l, xpr 276 2780 l = l := xpr_no (by decide +kernel)
theorem r_276_2781 : xfetch 276 2781 = some (.iload 4, 2) := by decide +kernel
theorem n_276_2781 : ∀ l, xpr 276 2781 l = l := xpr_no (by decide +kernel)
theorem r_276_2783 : xfetch 276 2783 = some (.iconst 1, 1) := by decide +kernel
theorem n_276_2783 : ∀ l, xpr 276 2783 l = l := xpr_no (by decide +kernel)
theorem r_276_2784 : xfetch 276 2784 = some (.iadd, 1) := by decide +kernel
theorem n_276_2784 : ∀ l, xpr 276 2784 l = l := xpr_no (by decide +kernel)
theorem r_276_2785 : xfetch 276 2785 = some (.iaload, 1) := by decide +kernel
theorem n_276_2785 : ∀ l, xpr 276 2785 l = l := xpr_no (by decide +kernel)
theorem r_276_2786 : xfetch 276 2786 = some (.aload_n 0, 1) := by decide +kernel
theorem n_276_2786 : ∀ l, xpr 276 2786 l = l := xpr_no (by decide +kernel)
theorem r_276_2787 : xfetch 276 2787 = some (.iload 4, 2) := by decide +kernel
theorem n_276_2787 : ∀ l, xpr 276 2787 l = l := xpr_no (by decide +kernel)
theorem r_276_2789 : xfetch 276 2789 = some (.iconst 2, 1) := by decide +kernel
theorem n_276_2789 : ∀ l, xpr 276 2789 l = l := xpr_no (by decide +kernel)
theorem r_276_2790 : xfetch 276 2790 = some (.iadd, 1) := by decide +kernel
theorem n_276_2790 : ∀ l, xpr 276 2790 l = l := xpr_no (by decide +kernel)
theorem r_276_2791 : xfetch 276 2791 = some (.iaload, 1) := by decide +kernel
theorem n_276_2791 : ∀ l, xpr 276 2791 l = l := xpr_no (by decide +kernel)
theorem r_276_2792 : xfetch 276 2792 = some (.i2l, 1) := by decide +kernel
theorem n_276_2792 : ∀ l, xpr 276 2792 l = l := xpr_no (by decide +kernel)
theorem r_276_2793 : xfetch 276 2793 = some (.bipush 32, 2) := by decide +kernel
theorem n_276_2793 : ∀ l, xpr 276 2793 l = l := xpr_no (by decide +kernel)
theorem r_276_2795 : xfetch 276 2795 = some (.lshl, 1) := by decide +kernel
theorem n_276_2795 : ∀ l, xpr 276 2795 l = l := xpr_no (by decide +kernel)
theorem r_276_2796 : xfetch 276 2796 = some (.aload_n 0, 1) := by decide +kernel
theorem n_276_2796 : ∀ l, xpr 276 2796 l = l := xpr_no (by decide +kernel)
theorem r_276_2797 : xfetch 276 2797 = some (.iload 4, 2) := by decide +kernel
theorem n_276_2797 : ∀ l, xpr 276 2797 l = l := xpr_no (by decide +kernel)
theorem r_276_2799 : xfetch 276 2799 = some (.iconst 3, 1) := by decide +kernel
theorem n_276_2799 : ∀ l, xpr 276 2799 l = l := xpr_no (by decide +kernel)
theorem r_276_2800 : xfetch 276 2800 = some (.iadd, 1) := by decide +kernel
theorem n_276_2800 : ∀ l, xpr 276 2800 l = l := xpr_no (by decide +kernel)
theorem r_276_2801 : xfetch 276 2801 = some (.iaload, 1) := by decide +kernel
theorem n_276_2801 : ∀ l, xpr 276 2801 l = l := xpr_no (by decide +kernel)
theorem r_276_2802 : xfetch 276 2802 = some (.i2l, 1) := by decide +kernel
theorem n_276_2802 : ∀ l, xpr 276 2802 l = l := xpr_no (by decide +kernel)
theorem r_276_2803 : xfetch 276 2803 = some (.ldc2_w 196, 3) := by decide +kernel
theorem n_276_2803 : ∀ l, xpr 276 2803 l = l := xpr_no (by decide +kernel)
theorem r_276_2806 : xfetch 276 2806 = some (.land, 1) := by decide +kernel
theorem n_276_2806 : ∀ l, xpr 276 2806 l = l := xpr_no (by decide +kernel)
theorem r_276_2807 : xfetch 276 2807 = some (.lor, 1) := by decide +kernel
theorem n_276_2807 : ∀ l, xpr 276 2807 l = l := xpr_no (by decide +kernel)
theorem r_276_2808 : xfetch 276 2808 = some (.aload_n 0, 1) := by decide +kernel
theorem n_276_2808 : ∀ l, xpr 276 2808 l = l := xpr_no (by decide +kernel)
theorem r_276_2809 : xfetch 276 2809 = some (.iload 4, 2) := by decide +kernel
theorem n_276_2809 : ∀ l, xpr 276 2809 l = l := xpr_no (by decide +kernel)
theorem r_276_2811 : xfetch 276 2811 = some (.iconst 4, 1) := by decide +kernel
theorem n_276_2811 : ∀ l, xpr 276 2811 l = l := xpr_no (by decide +kernel)
theorem r_276_2812 : xfetch 276 2812 = some (.iadd, 1) := by decide +kernel
theorem n_276_2812 : ∀ l, xpr 276 2812 l = l := xpr_no (by decide +kernel)
theorem r_276_2813 : xfetch 276 2813 = some (.iaload, 1) := by decide +kernel
theorem n_276_2813 : ∀ l, xpr 276 2813 l = l := xpr_no (by decide +kernel)
theorem r_276_2814 : xfetch 276 2814 = some (.invokevirtual 255, 3) := by decide +kernel
theorem n_276_2814 : ∀ l, xpr 276 2814 l = l := xpr_no (by decide +kernel)
theorem r_276_2817 : xfetch 276 2817 = some (.istore 6, 2) := by decide +kernel
theorem n_276_2817 : ∀ l, xpr 276 2817 l = l := xpr_no (by decide +kernel)
theorem r_276_2819 : xfetch 276 2819 = some (.aload_n 2, 1) := by decide +kernel
theorem n_276_2819 : ∀ l, xpr 276 2819 l = l := xpr_no (by decide +kernel)
theorem r_276_2820 : xfetch 276 2820 = some (.invokevirtual 133, 3) := by decide +kernel
theorem n_276_2820 : ∀ l, xpr 276 2820 l = l := xpr_no (by decide +kernel)
theorem r_276_2823 : xfetch 276 2823 = some (.iload 5, 2) := by decide +kernel
theorem n_276_2823 : ∀ l, xpr 276 2823 l = l := xpr_no (by decide +kernel)
theorem r_276_2825 : xfetch 276 2825 = some (.if_icmp .eq 5, 3) := by decide +kernel
theorem n_276_2825 : ∀ l, xpr 276 2825 l = l := xpr_no (by decide +kernel)
theorem r_276_2828 : xfetch 276 2828 = some (.iconst 0, 1) := by decide +kernel
theorem n_276_2828 : ∀ l, xpr 276 2828 l = l := xpr_no (by decide +kernel)
theorem r_276_2829 : xfetch 276 2829 = some (.ireturn, 1) := by decide +kernel
theorem n_276_2829 : ∀ l, xpr 276 2829 l = l := xpr_no (by decide +kernel)
theorem r_276_2830 : xfetch 276 2830 = some (.iload 5, 2) := by decide +kernel
theorem n_276_2830 : ∀ l, xpr 276 2830 l = l := xpr_no (by decide +kernel)
theorem r_276_2832 : xfetch 276 2832 = some (.ifCond .ne 15, 3) := by decide +kernel
theorem n_276_2832 : ∀ l, xpr 276 2832 l = l := xpr_no (by decide +kernel)
theorem r_276_2835 : xfetch 276 2835 = some (.aload_n 3, 1) := by decide +kernel
theorem n_276_2835 : ∀ l, xpr 276 2835 l = l := xpr_no (by decide +kernel)
theorem r_276_2836 : xfetch 276 2836 = some (.iconst 0, 1) := by decide +kernel
theorem n_276_2836 : ∀ l, xpr 276 2836 l = l := xpr_no (by decide +kernel)
theorem r_276_2837 : xfetch 276 2837 = some (.laload, 1) := by decide +kernel
theorem n_276_2837 : ∀ l, xpr 276 2837 l = l := xpr_no (by decide +kernel)
theorem r_276_2838 : xfetch 276 2838 = some (.iload 6, 2) := by decide +kernel
theorem n_276_2838 : ∀ l, xpr 276 2838 l = l := xpr_no (by decide +kernel)
theorem r_276_2840 : xfetch 276 2840 = some (.i2l, 1) := by decide +kernel
theorem n_276_2840 : ∀ l, xpr 276 2840 l = l := xpr_no (by decide +kernel)
theorem r_276_2841 : xfetch 276 2841 = some (.lcmp, 1) := by decide +kernel
theorem n_276_2841 : ∀ l, xpr 276 2841 l = l := xpr_no (by decide +kernel)
theorem r_276_2842 : xfetch 276 2842 = some (.ifCond .eq 5, 3) := by decide +kernel
theorem n_276_2842 : ∀ l, xpr 276 2842 l = l := xpr_no (by decide +kernel)
theorem r_276_2845 : xfetch 276 2845 = some (.iconst 0, 1) := by decide +kernel
theorem n_276_2845 : ∀ l, xpr 276 2845 l = l := xpr_no (by decide +kernel)
theorem r_276_2846 : xfetch 276 2846 = some (.ireturn, 1) := by decide +kernel
theorem n_276_2846 : ∀ l, xpr 276 2846 l = l := xpr_no (by decide +kernel)
theorem r_276_2847 : xfetch 276 2847 = some (.goto 61, 3) := by decide +kernel
theorem n_276_2847 : ∀ l, xpr 276 2847 l = l := xpr_no (by decide +kernel)
theorem r_276_2850 : xfetch 276 2850 = some (.aload_n 1, 1) := by decide +kernel
theorem r_276_2851 : xfetch 276 2851 = some (.aload_n 3, 1) := by decide +kernel
theorem n_276_2851 : ∀ l, xpr 276 2851 l = l := xpr_no (by decide +kernel)
theorem r_276_2852 : xfetch 276 2852 = some (.invokestatic 256, 3) := by decide +kernel
theorem n_276_2852 : ∀ l, xpr 276 2852 l = l := xpr_no (by decide +kernel)
theorem r_276_2855 : xfetch 276 2855 = some (.istore 5, 2) := by decide +kernel
theorem n_276_2855 : ∀ l, xpr 276 2855 l = l := xpr_no (by decide +kernel)
theorem r_276_2857 : xfetch 276 2857 = some (.aload_n 2, 1) := by decide +kernel
theorem n_276_2857 : ∀ l, xpr 276 2857 l = l := xpr_no (by decide +kernel)
theorem r_276_2858 : xfetch 276 2858 = some (.invokevirtual 259, 3) := by decide +kernel
theorem n_276_2858 : ∀ l, xpr 276 2858 l = l := xpr_no (by decide +kernel)
theorem r_276_2861 : xfetch 276 2861 = some (.istore 6, 2) := by decide +kernel
theorem n_276_2861 : ∀ l, xpr 276 2861 l = l := xpr_no (by decide +kernel)
theorem r_276_2863 : xfetch 276 2863 = some (.aload_n 2, 1) := by decide +kernel
theorem n_276_2863 : ∀ l, xpr 276 2863 l = l := xpr_no (by decide +kernel)
theorem r_276_2864 : xfetch 276 2864 = some (.invokevirtual 133, 3) := by decide +kernel
theorem n_276_2864 : ∀ l, xpr 276 2864 l = l := xpr_no (by decide +kernel)
theorem r_276_2867 : xfetch 276 2867 = some (.iload 5, 2) := by decide +kernel
theorem n_276_2867 : ∀ l, xpr 276 2867 l = l := xpr_no (by decide +kernel)
theorem r_276_2869 : xfetch 276 2869 = some (.if_icmp .eq 5, 3) := by decide +kernel
theorem n_276_2869 : ∀ l, xpr 276 2869 l = l := xpr_no (by decide +kernel)
theorem r_276_2872 : xfetch 276 2872 = some (.iconst 0, 1) := by decide +kernel
theorem n_276_2872 : ∀ l, xpr 276 2872 l = l := xpr_no (by decide +kernel)
theorem r_276_2873 : xfetch 276 2873 = some (.ireturn, 1) := by decide +kernel
theorem n_276_2873 : ∀ l, xpr 276 2873 l = l := xpr_no (by decide +kernel)
theorem r_276_2874 : xfetch 276 2874 = some (.iload 5, 2) := by decide +kernel
theorem n_276_2874 : ∀ l, xpr 276 2874 l = l := xpr_no (by decide +kernel)
theorem r_276_2876 : xfetch 276 2876 = some (.ifCond .ne 15, 3) := by decide +kernel
theorem n_276_2876 : ∀ l, xpr 276 2876 l = l := xpr_no (by decide +kernel)
theorem r_276_2879 : xfetch 276 2879 = some (.aload_n 3, 1) := by decide +kernel
theorem n_276_2879 : ∀ l, xpr 276 2879 l = l := xpr_no (by decide +kernel)
theorem r_276_2880 : xfetch 276 2880 = some (.iconst 0, 1) := by decide +kernel
theorem n_276_2880 : ∀ l, xpr 276 2880 l = l := xpr_no (by decide +kernel)
theorem r_276_2881 : xfetch 276 2881 = some (.laload, 1) := by decide +kernel
theorem n_276_2881 : ∀ l, xpr 276 2881 l = l := xpr_no (by decide +kernel)
theorem r_276_2882 : xfetch 276 2882 = some (.iload 6, 2) := by decide +kernel
theorem n_276_2882 : ∀ l, xpr 276 2882 l = l := xpr_no (by decide +kernel)
theorem r_276_2884 : xfetch 276 2884 = some (.i2l, 1) := by decide +kernel
theorem n_276_2884 : ∀ l, xpr 276 2884 l = l := xpr_no (by decide +kernel)
theorem r_276_2885 : xfetch 276 2885 = some (.lcmp, 1) := by decide +kernel
theorem n_276_2885 : ∀ l, xpr 276 2885 l = l := xpr_no (by decide +kernel)
theorem r_276_2886 : xfetch 276 2886 = some (.ifCond .eq 5, 3) := by decide +kernel
theorem n_276_2886 : ∀ l, xpr 276 2886 l = l := xpr_no (by decide +kernel)
theorem r_276_2889 : xfetch 276 2889 = some (.iconst 0, 1) := by decide +kernel
theorem n_276_2889 : ∀ l, xpr 276 2889 l = l := xpr_no (by decide +kernel)
theorem r_276_2890 : xfetch 276 2890 = some (.ireturn, 1) := by decide +kernel
theorem n_276_2890 : ∀ l, xpr 276 2890 l = l := xpr_no (by decide +kernel)
theorem r_276_2891 : xfetch 276 2891 = some (.goto 17, 3) := by decide +kernel
theorem n_276_2891 : ∀ l, xpr 276 2891 l = l := xpr_no (by decide +kernel)
theorem r_276_2894 : xfetch 276 2894 = some (.aload_n 1, 1) := by decide +kernel
theorem r_276_2895 : xfetch 276 2895 = some (.invokevirtual 260, 3) := by decide +kernel
theorem n_276_2895 : ∀ l, xpr 276 2895 l = l := xpr_no (by decide +kernel)
theorem r_276_2898 : xfetch 276 2898 = some (.aload_n 2, 1) := by decide +kernel
theorem n_276_2898 : ∀ l, xpr 276 2898 l = l := xpr_no (by decide +kernel)
theorem r_276_2899 : xfetch 276 2899 = some (.invokevirtual 264, 3) := by decide +kernel
theorem n_276_2899 : ∀ l, xpr 276 2899 l = l := xpr_no (by decide +kernel)
theorem r_276_2902 : xfetch 276 2902 = some (.lcmp, 1) := by decide +kernel
theorem n_276_2902 : ∀ l, xpr 276 2902 l = l := xpr_no (by decide +kernel)
theorem r_276_2903 : xfetch 276 2903 = some (.ifCond .eq 5, 3) := by decide +kernel
theorem n_276_2903 : ∀ l, xpr 276 2903 l = l := xpr_no (by decide +kernel)
theorem r_276_2906 : xfetch 276 2906 = some (.iconst 0, 1) := by decide +kernel
theorem n_276_2906 : ∀ l, xpr 276 2906 l = l := xpr_no (by decide +kernel)
theorem r_276_2907 : xfetch 276 2907 = some (.ireturn, 1) := by decide +kernel
theorem n_276_2907 : ∀ l, xpr 276 2907 l = l := xpr_no (by decide +kernel)
theorem r_276_2908 : xfetch 276 2908 = some (.iinc 4 7, 3) := by decide +kernel
theorem n_276_2908 : ∀ l, xpr 276 2908 l = l := xpr_no (by decide +kernel)
theorem r_276_2911 : xfetch 276 2911 = some (.goto (-2888), 3) := by decide +kernel
theorem n_276_2911 : ∀ l, xpr 276 2911 l = l := xpr_no (by decide +kernel)
theorem r_276_2914 : xfetch 276 2914 = some (.iconst 1, 1) := by decide +kernel
theorem n_276_2914 : ∀ l, xpr 276 2914 l = l := xpr_no (by decide +kernel)
theorem r_276_2915 : xfetch 276 2915 = some (.ireturn, 1) := by decide +kernel
theorem n_276_2915 : ∀ l, xpr 276 2915 l = l := xpr_no (by decide +kernel)
