theorem am_th_1 : am_thB 10 7 141 143 3 = true := by decide +kernel
theorem am_th_2 : am_thB 10 42 102 104 1 = true := by decide +kernel
theorem am_th_3 : am_thB 10 61 156 158 4 = true := by decide +kernel
theorem am_th_4 : am_thB 10 95 170 172 5 = true := by decide +kernel
theorem am_th_5 : am_thB 12 25 92 94 0 = true := by decide +kernel
theorem am_th_6 : am_thB 12 62 102 104 1 = true := by decide +kernel
theorem am_th_7 : am_thB 12 106 111 113 2 = true := by decide +kernel
