/-- a cell: an object (its class, its fields: a cell that it holds for good, or an int), or an array (its sort, its length, the cells that it holds) -/
abbrev SE : Type := (Nat × List (Option Nat)) ⊕ (Nat × Nat × List Nat)
def shape : List SE := [
  .inl (11, [some 33, some 42, some 57, none, some 1, some 5, some 66, some 11, some 13, none, some 14, some 15, some 16, some 17, some 18, some 19]),
  .inl (9, [none, some 2, some 3, some 4, none, none]),
  .inr (1, 200, []),
  .inr (0, 201, []),
  .inr (0, 201, []),
  .inl (6, [none, none, some 6, some 7, some 8, some 9, some 10]),
  .inr (0, 8, []),
  .inr (0, 8, []),
  .inr (0, 8, []),
  .inr (0, 200, []),
  .inr (0, 5, []),
  .inl (8, [some 12, none, none, none, none]),
  .inr (0, 30, []),
  .inr (0, 12, []),
  .inr (0, 4, []),
  .inr (0, 4, []),
  .inr (0, 160, []),
  .inr (0, 4, []),
  .inr (0, 4, []),
  .inr (0, 4, []),
  .inr (3, 6, [21, 22, 23, 24, 25, 26]),
  .inl (4, []),
  .inl (3, []),
  .inl (7, []),
  .inl (10, []),
  .inl (2, []),
  .inl (0, []),
  .inl (6, [none, none, some 28, some 29, some 30, some 31, some 32]),
  .inr (0, 8, []),
  .inr (0, 8, []),
  .inr (0, 8, []),
  .inr (0, 200, []),
  .inr (0, 5, []),
  .inl (1, [some 20, some 27, none, none, none, none, none, none, none, none, none, some 34, some 35, some 36, some 37, some 38, some 39, some 40, some 41]),
  .inr (0, 16, []),
  .inr (0, 6, []),
  .inr (0, 6, []),
  .inr (0, 6, []),
  .inr (0, 6, []),
  .inr (0, 6, []),
  .inr (0, 6, []),
  .inr (0, 24, []),
  .inl (1, [some 20, some 43, none, none, none, none, none, none, none, none, none, some 49, some 50, some 51, some 52, some 53, some 54, some 55, some 56]),
  .inl (6, [none, none, some 44, some 45, some 46, some 47, some 48]),
  .inr (0, 8, []),
  .inr (0, 8, []),
  .inr (0, 8, []),
  .inr (0, 200, []),
  .inr (0, 5, []),
  .inr (0, 16, []),
  .inr (0, 6, []),
  .inr (0, 6, []),
  .inr (0, 6, []),
  .inr (0, 6, []),
  .inr (0, 6, []),
  .inr (0, 6, []),
  .inr (0, 24, []),
  .inl (1, [some 20, some 27, none, none, none, none, none, none, none, none, none, some 58, some 59, some 60, some 61, some 62, some 63, some 64, some 65]),
  .inr (0, 16, []),
  .inr (0, 6, []),
  .inr (0, 6, []),
  .inr (0, 6, []),
  .inr (0, 6, []),
  .inr (0, 6, []),
  .inr (0, 6, []),
  .inr (0, 24, []),
  .inl (5, [some 67, some 68, some 69, none, none, none, none, none, none]),
  .inr (4, 5, [70, 79, 88, 97, 106]),
  .inr (0, 4, []),
  .inr (0, 4, []),
  .inl (1, [some 20, some 27, none, none, none, none, none, none, none, none, none, some 71, some 72, some 73, some 74, some 75, some 76, some 77, some 78]),
  .inr (0, 16, []),
  .inr (0, 6, []),
  .inr (0, 6, []),
  .inr (0, 6, []),
  .inr (0, 6, []),
  .inr (0, 6, []),
  .inr (0, 6, []),
  .inr (0, 24, []),
  .inl (1, [some 20, some 27, none, none, none, none, none, none, none, none, none, some 80, some 81, some 82, some 83, some 84, some 85, some 86, some 87]),
  .inr (0, 16, []),
  .inr (0, 6, []),
  .inr (0, 6, []),
  .inr (0, 6, []),
  .inr (0, 6, []),
  .inr (0, 6, []),
  .inr (0, 6, []),
  .inr (0, 24, []),
  .inl (1, [some 20, some 27, none, none, none, none, none, none, none, none, none, some 89, some 90, some 91, some 92, some 93, some 94, some 95, some 96]),
  .inr (0, 16, []),
  .inr (0, 6, []),
  .inr (0, 6, []),
  .inr (0, 6, []),
  .inr (0, 6, []),
  .inr (0, 6, []),
  .inr (0, 6, []),
  .inr (0, 24, []),
  .inl (1, [some 20, some 27, none, none, none, none, none, none, none, none, none, some 98, some 99, some 100, some 101, some 102, some 103, some 104, some 105]),
  .inr (0, 16, []),
  .inr (0, 6, []),
  .inr (0, 6, []),
  .inr (0, 6, []),
  .inr (0, 6, []),
  .inr (0, 6, []),
  .inr (0, 6, []),
  .inr (0, 24, []),
  .inl (1, [some 20, some 27, none, none, none, none, none, none, none, none, none, some 107, some 108, some 109, some 110, some 111, some 112, some 113, some 114]),
  .inr (0, 16, []),
  .inr (0, 6, []),
  .inr (0, 6, []),
  .inr (0, 6, []),
  .inr (0, 6, []),
  .inr (0, 6, []),
  .inr (0, 6, []),
  .inr (0, 24, []),
  .inl (12, [some 116, some 117, some 118, none, some 119, some 120, none, some 121, none, none, none, none, none, none, some 122, some 123, none, none, some 124, some 125, some 126, none, none, none, none, some 127, none, some 128, none, some 129, some 130, some 131, some 132, some 133, some 134, none, none, none]),
  .inr (0, 322, []),
  .inr (0, 322, []),
  .inr (0, 74, []),
  .inr (0, 200, []),
  .inr (0, 200, []),
  .inr (2, 144, []),
  .inr (0, 200, []),
  .inr (0, 24, []),
  .inr (0, 370, []),
  .inr (0, 4, []),
  .inr (0, 4, []),
  .inr (0, 16, []),
  .inr (0, 12, []),
  .inr (0, 4, []),
  .inr (0, 4, []),
  .inr (0, 160, []),
  .inr (0, 4, []),
  .inr (0, 4, []),
  .inr (0, 30, [])]
theorem shape_len : shape.length = 135 := by decide +kernel
theorem sh0 : shape[0]? = some (.inl (11, [some 33, some 42, some 57, none, some 1, some 5, some 66, some 11, some 13, none, some 14, some 15, some 16, some 17, some 18, some 19])) := by decide +kernel
theorem sh1 : shape[1]? = some (.inl (9, [none, some 2, some 3, some 4, none, none])) := by decide +kernel
theorem sh2 : shape[2]? = some (.inr (1, 200, [])) := by decide +kernel
theorem sh3 : shape[3]? = some (.inr (0, 201, [])) := by decide +kernel
theorem sh4 : shape[4]? = some (.inr (0, 201, [])) := by decide +kernel
theorem sh5 : shape[5]? = some (.inl (6, [none, none, some 6, some 7, some 8, some 9, some 10])) := by decide +kernel
theorem sh6 : shape[6]? = some (.inr (0, 8, [])) := by decide +kernel
theorem sh7 : shape[7]? = some (.inr (0, 8, [])) := by decide +kernel
theorem sh8 : shape[8]? = some (.inr (0, 8, [])) := by decide +kernel
theorem sh9 : shape[9]? = some (.inr (0, 200, [])) := by decide +kernel
theorem sh10 : shape[10]? = some (.inr (0, 5, [])) := by decide +kernel
theorem sh11 : shape[11]? = some (.inl (8, [some 12, none, none, none, none])) := by decide +kernel
theorem sh12 : shape[12]? = some (.inr (0, 30, [])) := by decide +kernel
theorem sh13 : shape[13]? = some (.inr (0, 12, [])) := by decide +kernel
theorem sh14 : shape[14]? = some (.inr (0, 4, [])) := by decide +kernel
theorem sh15 : shape[15]? = some (.inr (0, 4, [])) := by decide +kernel
theorem sh16 : shape[16]? = some (.inr (0, 160, [])) := by decide +kernel
theorem sh17 : shape[17]? = some (.inr (0, 4, [])) := by decide +kernel
theorem sh18 : shape[18]? = some (.inr (0, 4, [])) := by decide +kernel
theorem sh19 : shape[19]? = some (.inr (0, 4, [])) := by decide +kernel
theorem sh20 : shape[20]? = some (.inr (3, 6, [21, 22, 23, 24, 25, 26])) := by decide +kernel
theorem sh21 : shape[21]? = some (.inl (4, [])) := by decide +kernel
theorem sh22 : shape[22]? = some (.inl (3, [])) := by decide +kernel
theorem sh23 : shape[23]? = some (.inl (7, [])) := by decide +kernel
theorem sh24 : shape[24]? = some (.inl (10, [])) := by decide +kernel
theorem sh25 : shape[25]? = some (.inl (2, [])) := by decide +kernel
theorem sh26 : shape[26]? = some (.inl (0, [])) := by decide +kernel
theorem sh27 : shape[27]? = some (.inl (6, [none, none, some 28, some 29, some 30, some 31, some 32])) := by decide +kernel
theorem sh28 : shape[28]? = some (.inr (0, 8, [])) := by decide +kernel
theorem sh29 : shape[29]? = some (.inr (0, 8, [])) := by decide +kernel
theorem sh30 : shape[30]? = some (.inr (0, 8, [])) := by decide +kernel
theorem sh31 : shape[31]? = some (.inr (0, 200, [])) := by decide +kernel
theorem sh32 : shape[32]? = some (.inr (0, 5, [])) := by decide +kernel
theorem sh33 : shape[33]? = some (.inl (1, [some 20, some 27, none, none, none, none, none, none, none, none, none, some 34, some 35, some 36, some 37, some 38, some 39, some 40, some 41])) := by decide +kernel
theorem sh34 : shape[34]? = some (.inr (0, 16, [])) := by decide +kernel
theorem sh35 : shape[35]? = some (.inr (0, 6, [])) := by decide +kernel
theorem sh36 : shape[36]? = some (.inr (0, 6, [])) := by decide +kernel
theorem sh37 : shape[37]? = some (.inr (0, 6, [])) := by decide +kernel
theorem sh38 : shape[38]? = some (.inr (0, 6, [])) := by decide +kernel
theorem sh39 : shape[39]? = some (.inr (0, 6, [])) := by decide +kernel
theorem sh40 : shape[40]? = some (.inr (0, 6, [])) := by decide +kernel
theorem sh41 : shape[41]? = some (.inr (0, 24, [])) := by decide +kernel
theorem sh42 : shape[42]? = some (.inl (1, [some 20, some 43, none, none, none, none, none, none, none, none, none, some 49, some 50, some 51, some 52, some 53, some 54, some 55, some 56])) := by decide +kernel
theorem sh43 : shape[43]? = some (.inl (6, [none, none, some 44, some 45, some 46, some 47, some 48])) := by decide +kernel
theorem sh44 : shape[44]? = some (.inr (0, 8, [])) := by decide +kernel
theorem sh45 : shape[45]? = some (.inr (0, 8, [])) := by decide +kernel
theorem sh46 : shape[46]? = some (.inr (0, 8, [])) := by decide +kernel
theorem sh47 : shape[47]? = some (.inr (0, 200, [])) := by decide +kernel
theorem sh48 : shape[48]? = some (.inr (0, 5, [])) := by decide +kernel
theorem sh49 : shape[49]? = some (.inr (0, 16, [])) := by decide +kernel
theorem sh50 : shape[50]? = some (.inr (0, 6, [])) := by decide +kernel
theorem sh51 : shape[51]? = some (.inr (0, 6, [])) := by decide +kernel
theorem sh52 : shape[52]? = some (.inr (0, 6, [])) := by decide +kernel
theorem sh53 : shape[53]? = some (.inr (0, 6, [])) := by decide +kernel
theorem sh54 : shape[54]? = some (.inr (0, 6, [])) := by decide +kernel
theorem sh55 : shape[55]? = some (.inr (0, 6, [])) := by decide +kernel
theorem sh56 : shape[56]? = some (.inr (0, 24, [])) := by decide +kernel
theorem sh57 : shape[57]? = some (.inl (1, [some 20, some 27, none, none, none, none, none, none, none, none, none, some 58, some 59, some 60, some 61, some 62, some 63, some 64, some 65])) := by decide +kernel
theorem sh58 : shape[58]? = some (.inr (0, 16, [])) := by decide +kernel
theorem sh59 : shape[59]? = some (.inr (0, 6, [])) := by decide +kernel
theorem sh60 : shape[60]? = some (.inr (0, 6, [])) := by decide +kernel
theorem sh61 : shape[61]? = some (.inr (0, 6, [])) := by decide +kernel
theorem sh62 : shape[62]? = some (.inr (0, 6, [])) := by decide +kernel
theorem sh63 : shape[63]? = some (.inr (0, 6, [])) := by decide +kernel
theorem sh64 : shape[64]? = some (.inr (0, 6, [])) := by decide +kernel
theorem sh65 : shape[65]? = some (.inr (0, 24, [])) := by decide +kernel
theorem sh66 : shape[66]? = some (.inl (5, [some 67, some 68, some 69, none, none, none, none, none, none])) := by decide +kernel
theorem sh67 : shape[67]? = some (.inr (4, 5, [70, 79, 88, 97, 106])) := by decide +kernel
theorem sh68 : shape[68]? = some (.inr (0, 4, [])) := by decide +kernel
theorem sh69 : shape[69]? = some (.inr (0, 4, [])) := by decide +kernel
theorem sh70 : shape[70]? = some (.inl (1, [some 20, some 27, none, none, none, none, none, none, none, none, none, some 71, some 72, some 73, some 74, some 75, some 76, some 77, some 78])) := by decide +kernel
theorem sh71 : shape[71]? = some (.inr (0, 16, [])) := by decide +kernel
theorem sh72 : shape[72]? = some (.inr (0, 6, [])) := by decide +kernel
theorem sh73 : shape[73]? = some (.inr (0, 6, [])) := by decide +kernel
theorem sh74 : shape[74]? = some (.inr (0, 6, [])) := by decide +kernel
theorem sh75 : shape[75]? = some (.inr (0, 6, [])) := by decide +kernel
theorem sh76 : shape[76]? = some (.inr (0, 6, [])) := by decide +kernel
theorem sh77 : shape[77]? = some (.inr (0, 6, [])) := by decide +kernel
theorem sh78 : shape[78]? = some (.inr (0, 24, [])) := by decide +kernel
theorem sh79 : shape[79]? = some (.inl (1, [some 20, some 27, none, none, none, none, none, none, none, none, none, some 80, some 81, some 82, some 83, some 84, some 85, some 86, some 87])) := by decide +kernel
theorem sh80 : shape[80]? = some (.inr (0, 16, [])) := by decide +kernel
theorem sh81 : shape[81]? = some (.inr (0, 6, [])) := by decide +kernel
theorem sh82 : shape[82]? = some (.inr (0, 6, [])) := by decide +kernel
theorem sh83 : shape[83]? = some (.inr (0, 6, [])) := by decide +kernel
theorem sh84 : shape[84]? = some (.inr (0, 6, [])) := by decide +kernel
theorem sh85 : shape[85]? = some (.inr (0, 6, [])) := by decide +kernel
theorem sh86 : shape[86]? = some (.inr (0, 6, [])) := by decide +kernel
theorem sh87 : shape[87]? = some (.inr (0, 24, [])) := by decide +kernel
theorem sh88 : shape[88]? = some (.inl (1, [some 20, some 27, none, none, none, none, none, none, none, none, none, some 89, some 90, some 91, some 92, some 93, some 94, some 95, some 96])) := by decide +kernel
theorem sh89 : shape[89]? = some (.inr (0, 16, [])) := by decide +kernel
theorem sh90 : shape[90]? = some (.inr (0, 6, [])) := by decide +kernel
theorem sh91 : shape[91]? = some (.inr (0, 6, [])) := by decide +kernel
theorem sh92 : shape[92]? = some (.inr (0, 6, [])) := by decide +kernel
theorem sh93 : shape[93]? = some (.inr (0, 6, [])) := by decide +kernel
theorem sh94 : shape[94]? = some (.inr (0, 6, [])) := by decide +kernel
theorem sh95 : shape[95]? = some (.inr (0, 6, [])) := by decide +kernel
theorem sh96 : shape[96]? = some (.inr (0, 24, [])) := by decide +kernel
theorem sh97 : shape[97]? = some (.inl (1, [some 20, some 27, none, none, none, none, none, none, none, none, none, some 98, some 99, some 100, some 101, some 102, some 103, some 104, some 105])) := by decide +kernel
theorem sh98 : shape[98]? = some (.inr (0, 16, [])) := by decide +kernel
theorem sh99 : shape[99]? = some (.inr (0, 6, [])) := by decide +kernel
theorem sh100 : shape[100]? = some (.inr (0, 6, [])) := by decide +kernel
theorem sh101 : shape[101]? = some (.inr (0, 6, [])) := by decide +kernel
theorem sh102 : shape[102]? = some (.inr (0, 6, [])) := by decide +kernel
theorem sh103 : shape[103]? = some (.inr (0, 6, [])) := by decide +kernel
theorem sh104 : shape[104]? = some (.inr (0, 6, [])) := by decide +kernel
theorem sh105 : shape[105]? = some (.inr (0, 24, [])) := by decide +kernel
theorem sh106 : shape[106]? = some (.inl (1, [some 20, some 27, none, none, none, none, none, none, none, none, none, some 107, some 108, some 109, some 110, some 111, some 112, some 113, some 114])) := by decide +kernel
theorem sh107 : shape[107]? = some (.inr (0, 16, [])) := by decide +kernel
theorem sh108 : shape[108]? = some (.inr (0, 6, [])) := by decide +kernel
theorem sh109 : shape[109]? = some (.inr (0, 6, [])) := by decide +kernel
theorem sh110 : shape[110]? = some (.inr (0, 6, [])) := by decide +kernel
theorem sh111 : shape[111]? = some (.inr (0, 6, [])) := by decide +kernel
theorem sh112 : shape[112]? = some (.inr (0, 6, [])) := by decide +kernel
theorem sh113 : shape[113]? = some (.inr (0, 6, [])) := by decide +kernel
theorem sh114 : shape[114]? = some (.inr (0, 24, [])) := by decide +kernel
theorem sh115 : shape[115]? = some (.inl (12, [some 116, some 117, some 118, none, some 119, some 120, none, some 121, none, none, none, none, none, none, some 122, some 123, none, none, some 124, some 125, some 126, none, none, none, none, some 127, none, some 128, none, some 129, some 130, some 131, some 132, some 133, some 134, none, none, none])) := by decide +kernel
theorem sh116 : shape[116]? = some (.inr (0, 322, [])) := by decide +kernel
theorem sh117 : shape[117]? = some (.inr (0, 322, [])) := by decide +kernel
theorem sh118 : shape[118]? = some (.inr (0, 74, [])) := by decide +kernel
theorem sh119 : shape[119]? = some (.inr (0, 200, [])) := by decide +kernel
theorem sh120 : shape[120]? = some (.inr (0, 200, [])) := by decide +kernel
theorem sh121 : shape[121]? = some (.inr (2, 144, [])) := by decide +kernel
theorem sh122 : shape[122]? = some (.inr (0, 200, [])) := by decide +kernel
theorem sh123 : shape[123]? = some (.inr (0, 24, [])) := by decide +kernel
theorem sh124 : shape[124]? = some (.inr (0, 370, [])) := by decide +kernel
theorem sh125 : shape[125]? = some (.inr (0, 4, [])) := by decide +kernel
theorem sh126 : shape[126]? = some (.inr (0, 4, [])) := by decide +kernel
theorem sh127 : shape[127]? = some (.inr (0, 16, [])) := by decide +kernel
theorem sh128 : shape[128]? = some (.inr (0, 12, [])) := by decide +kernel
theorem sh129 : shape[129]? = some (.inr (0, 4, [])) := by decide +kernel
theorem sh130 : shape[130]? = some (.inr (0, 4, [])) := by decide +kernel
theorem sh131 : shape[131]? = some (.inr (0, 160, [])) := by decide +kernel
theorem sh132 : shape[132]? = some (.inr (0, 4, [])) := by decide +kernel
theorem sh133 : shape[133]? = some (.inr (0, 4, [])) := by decide +kernel
theorem sh134 : shape[134]? = some (.inr (0, 30, [])) := by decide +kernel
