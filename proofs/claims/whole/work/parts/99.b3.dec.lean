theorem zL_1191 : decode mLw.2.1 1191 = .ok (.invokevirtual 153, 3) := by decide +kernel
theorem zL_1194 : decode mLw.2.1 1194 = .ok (.aload_n 2, 1) := by decide +kernel
theorem zL_1200 : decode mLw.2.1 1200 = .ok (.invokevirtual 156, 3) := by decide +kernel
theorem zL_1203 : decode mLw.2.1 1203 = .ok (.if_icmp .eq 569, 3) := by decide +kernel
theorem zL_1208 : decode mLw.2.1 1208 = .ok (.aload_n 1, 1) := by decide +kernel
theorem zL_1209 : decode mLw.2.1 1209 = .ok (.invokevirtual 157, 3) := by decide +kernel
theorem zL_1212 : decode mLw.2.1 1212 = .ok (.aload_n 2, 1) := by decide +kernel
theorem zL_1213 : decode mLw.2.1 1213 = .ok (.invokevirtual 160, 3) := by decide +kernel
theorem zL_1216 : decode mLw.2.1 1216 = .ok (.if_icmp .eq 556, 3) := by decide +kernel
theorem zL_1221 : decode mLw.2.1 1221 = .ok (.aload_n 1, 1) := by decide +kernel
theorem zL_1232 : decode mLw.2.1 1232 = .ok (.invokevirtual 161, 3) := by decide +kernel
theorem zL_1235 : decode mLw.2.1 1235 = .ok (.aload_n 2, 1) := by decide +kernel
theorem zL_1246 : decode mLw.2.1 1246 = .ok (.invokevirtual 164, 3) := by decide +kernel
theorem zL_1249 : decode mLw.2.1 1249 = .ok (.if_icmp .eq 523, 3) := by decide +kernel
theorem zL_1254 : decode mLw.2.1 1254 = .ok (.aload_n 1, 1) := by decide +kernel
theorem zL_1260 : decode mLw.2.1 1260 = .ok (.invokevirtual 165, 3) := by decide +kernel
theorem zL_1263 : decode mLw.2.1 1263 = .ok (.aload_n 2, 1) := by decide +kernel
theorem zL_1269 : decode mLw.2.1 1269 = .ok (.invokevirtual 168, 3) := by decide +kernel
theorem zL_1272 : decode mLw.2.1 1272 = .ok (.if_icmp .eq 500, 3) := by decide +kernel
theorem zL_1277 : decode mLw.2.1 1277 = .ok (.aload_n 1, 1) := by decide +kernel
theorem zL_1288 : decode mLw.2.1 1288 = .ok (.invokevirtual 169, 3) := by decide +kernel
theorem zL_1291 : decode mLw.2.1 1291 = .ok (.aload_n 2, 1) := by decide +kernel
theorem zL_1302 : decode mLw.2.1 1302 = .ok (.invokevirtual 172, 3) := by decide +kernel
theorem zL_1305 : decode mLw.2.1 1305 = .ok (.if_icmp .eq 467, 3) := by decide +kernel
theorem zL_1310 : decode mLw.2.1 1310 = .ok (.aload_n 1, 1) := by decide +kernel
theorem zL_1326 : decode mLw.2.1 1326 = .ok (.invokevirtual 173, 3) := by decide +kernel
theorem zL_1329 : decode mLw.2.1 1329 = .ok (.aload_n 2, 1) := by decide +kernel
theorem zL_1345 : decode mLw.2.1 1345 = .ok (.invokevirtual 176, 3) := by decide +kernel
theorem zL_1348 : decode mLw.2.1 1348 = .ok (.if_icmp .eq 424, 3) := by decide +kernel
theorem zL_1353 : decode mLw.2.1 1353 = .ok (.aload_n 1, 1) := by decide +kernel
theorem zL_1354 : decode mLw.2.1 1354 = .ok (.invokevirtual 177, 3) := by decide +kernel
theorem zL_1357 : decode mLw.2.1 1357 = .ok (.aload_n 2, 1) := by decide +kernel
theorem zL_1358 : decode mLw.2.1 1358 = .ok (.invokevirtual 180, 3) := by decide +kernel
theorem zL_1361 : decode mLw.2.1 1361 = .ok (.if_icmp .eq 411, 3) := by decide +kernel
theorem zL_1366 : decode mLw.2.1 1366 = .ok (.aload_n 1, 1) := by decide +kernel
theorem zL_1382 : decode mLw.2.1 1382 = .ok (.invokevirtual 181, 3) := by decide +kernel
theorem zL_1385 : decode mLw.2.1 1385 = .ok (.aload_n 2, 1) := by decide +kernel
theorem zL_1401 : decode mLw.2.1 1401 = .ok (.invokevirtual 184, 3) := by decide +kernel
theorem zL_1404 : decode mLw.2.1 1404 = .ok (.if_icmp .eq 368, 3) := by decide +kernel
theorem zL_1409 : decode mLw.2.1 1409 = .ok (.aload_n 1, 1) := by decide +kernel
theorem zL_1425 : decode mLw.2.1 1425 = .ok (.invokevirtual 185, 3) := by decide +kernel
theorem zL_1428 : decode mLw.2.1 1428 = .ok (.aload_n 2, 1) := by decide +kernel
theorem zL_1444 : decode mLw.2.1 1444 = .ok (.invokevirtual 188, 3) := by decide +kernel
theorem zL_1447 : decode mLw.2.1 1447 = .ok (.if_icmp .eq 325, 3) := by decide +kernel
theorem zL_1452 : decode mLw.2.1 1452 = .ok (.aload_n 1, 1) := by decide +kernel
theorem zL_1468 : decode mLw.2.1 1468 = .ok (.invokevirtual 189, 3) := by decide +kernel
theorem zL_1471 : decode mLw.2.1 1471 = .ok (.aload_n 2, 1) := by decide +kernel
theorem zL_1487 : decode mLw.2.1 1487 = .ok (.invokevirtual 192, 3) := by decide +kernel
theorem zL_1490 : decode mLw.2.1 1490 = .ok (.if_icmp .eq 282, 3) := by decide +kernel
theorem zL_1495 : decode mLw.2.1 1495 = .ok (.aload_n 1, 1) := by decide +kernel
theorem zL_1511 : decode mLw.2.1 1511 = .ok (.invokevirtual 193, 3) := by decide +kernel
theorem zL_1514 : decode mLw.2.1 1514 = .ok (.aload_n 2, 1) := by decide +kernel
theorem zL_1530 : decode mLw.2.1 1530 = .ok (.invokevirtual 196, 3) := by decide +kernel
theorem zL_1533 : decode mLw.2.1 1533 = .ok (.if_icmp .eq 239, 3) := by decide +kernel
theorem zL_1538 : decode mLw.2.1 1538 = .ok (.aload_n 1, 1) := by decide +kernel
theorem zL_1554 : decode mLw.2.1 1554 = .ok (.invokevirtual 197, 3) := by decide +kernel
theorem zL_1557 : decode mLw.2.1 1557 = .ok (.aload_n 2, 1) := by decide +kernel
theorem zL_1573 : decode mLw.2.1 1573 = .ok (.invokevirtual 200, 3) := by decide +kernel
theorem zL_1576 : decode mLw.2.1 1576 = .ok (.if_icmp .eq 196, 3) := by decide +kernel
theorem zL_1581 : decode mLw.2.1 1581 = .ok (.aload_n 1, 1) := by decide +kernel
theorem zL_1597 : decode mLw.2.1 1597 = .ok (.invokevirtual 201, 3) := by decide +kernel
theorem zL_1600 : decode mLw.2.1 1600 = .ok (.aload_n 2, 1) := by decide +kernel
theorem zL_1616 : decode mLw.2.1 1616 = .ok (.invokevirtual 204, 3) := by decide +kernel
theorem zL_1619 : decode mLw.2.1 1619 = .ok (.if_icmp .eq 153, 3) := by decide +kernel
theorem zL_1624 : decode mLw.2.1 1624 = .ok (.aload_n 1, 1) := by decide +kernel
theorem zL_1635 : decode mLw.2.1 1635 = .ok (.invokevirtual 205, 3) := by decide +kernel
theorem zL_1638 : decode mLw.2.1 1638 = .ok (.aload_n 2, 1) := by decide +kernel
theorem zL_1649 : decode mLw.2.1 1649 = .ok (.invokevirtual 208, 3) := by decide +kernel
theorem zL_1652 : decode mLw.2.1 1652 = .ok (.if_icmp .eq 120, 3) := by decide +kernel
theorem zL_1657 : decode mLw.2.1 1657 = .ok (.aload_n 1, 1) := by decide +kernel
theorem zL_1673 : decode mLw.2.1 1673 = .ok (.invokevirtual 209, 3) := by decide +kernel
theorem zL_1676 : decode mLw.2.1 1676 = .ok (.aload_n 2, 1) := by decide +kernel
theorem zL_1692 : decode mLw.2.1 1692 = .ok (.invokevirtual 212, 3) := by decide +kernel
theorem zL_1695 : decode mLw.2.1 1695 = .ok (.if_icmp .eq 77, 3) := by decide +kernel
theorem zL_1700 : decode mLw.2.1 1700 = .ok (.aload_n 1, 1) := by decide +kernel
theorem zL_1706 : decode mLw.2.1 1706 = .ok (.invokevirtual 213, 3) := by decide +kernel
theorem zL_1709 : decode mLw.2.1 1709 = .ok (.aload_n 2, 1) := by decide +kernel
theorem zL_1715 : decode mLw.2.1 1715 = .ok (.invokevirtual 216, 3) := by decide +kernel
theorem zL_1718 : decode mLw.2.1 1718 = .ok (.if_icmp .eq 54, 3) := by decide +kernel
theorem zL_1723 : decode mLw.2.1 1723 = .ok (.aload_n 1, 1) := by decide +kernel
theorem zL_1729 : decode mLw.2.1 1729 = .ok (.invokevirtual 217, 3) := by decide +kernel
theorem zL_1732 : decode mLw.2.1 1732 = .ok (.aload_n 2, 1) := by decide +kernel
theorem zL_1738 : decode mLw.2.1 1738 = .ok (.invokevirtual 220, 3) := by decide +kernel
theorem zL_1741 : decode mLw.2.1 1741 = .ok (.if_icmp .eq 31, 3) := by decide +kernel
theorem zL_1746 : decode mLw.2.1 1746 = .ok (.aload_n 1, 1) := by decide +kernel
theorem zL_1747 : decode mLw.2.1 1747 = .ok (.invokevirtual 221, 3) := by decide +kernel
theorem zL_1750 : decode mLw.2.1 1750 = .ok (.aload_n 2, 1) := by decide +kernel
theorem zL_1751 : decode mLw.2.1 1751 = .ok (.invokevirtual 224, 3) := by decide +kernel
theorem zL_1754 : decode mLw.2.1 1754 = .ok (.if_icmp .eq 18, 3) := by decide +kernel
theorem zL_1759 : decode mLw.2.1 1759 = .ok (.aload_n 1, 1) := by decide +kernel
theorem zL_1760 : decode mLw.2.1 1760 = .ok (.invokevirtual 225, 3) := by decide +kernel
theorem zL_1763 : decode mLw.2.1 1763 = .ok (.aload_n 2, 1) := by decide +kernel
theorem zL_1764 : decode mLw.2.1 1764 = .ok (.invokevirtual 228, 3) := by decide +kernel
theorem zL_1767 : decode mLw.2.1 1767 = .ok (.if_icmp .eq 5, 3) := by decide +kernel
theorem zL_1772 : decode mLw.2.1 1772 = .ok (.iinc 3 5, 3) := by decide +kernel
theorem zL_1775 : decode mLw.2.1 1775 = .ok (.goto (-1757), 3) := by decide +kernel
theorem zL_1778 : decode mLw.2.1 1778 = .ok (.iconst 1, 1) := by decide +kernel
theorem zL_1779 : decode mLw.2.1 1779 = .ok (.ireturn, 1) := by decide +kernel
