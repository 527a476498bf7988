theorem sw_0 : (#[232, 288, 356, 424, 499, 574, 649, 705, 761, 774, 849, 862, 918, 986, 1054, 1134, 1238, 1325, 1400, 1456, 1524, 1599, 1674, 1742, 1822, 1890, 1977, 2057, 2132, 2195, 2239, 2295, 2399, 2443, 2456, 2512, 2587, 2631, 2675, 2774, 2818, 2922, 2978, 3041, 3054, 3112, 3156, 3200, 3256, 3312, 3392, 3495, 3563, 3576] : Array Int)[((0 : Int32).toInt - 0).toNat]? = some 232 := by decide +kernel
theorem sw_1 : (#[232, 288, 356, 424, 499, 574, 649, 705, 761, 774, 849, 862, 918, 986, 1054, 1134, 1238, 1325, 1400, 1456, 1524, 1599, 1674, 1742, 1822, 1890, 1977, 2057, 2132, 2195, 2239, 2295, 2399, 2443, 2456, 2512, 2587, 2631, 2675, 2774, 2818, 2922, 2978, 3041, 3054, 3112, 3156, 3200, 3256, 3312, 3392, 3495, 3563, 3576] : Array Int)[((1 : Int32).toInt - 0).toNat]? = some 288 := by decide +kernel
theorem sw_2 : (#[232, 288, 356, 424, 499, 574, 649, 705, 761, 774, 849, 862, 918, 986, 1054, 1134, 1238, 1325, 1400, 1456, 1524, 1599, 1674, 1742, 1822, 1890, 1977, 2057, 2132, 2195, 2239, 2295, 2399, 2443, 2456, 2512, 2587, 2631, 2675, 2774, 2818, 2922, 2978, 3041, 3054, 3112, 3156, 3200, 3256, 3312, 3392, 3495, 3563, 3576] : Array Int)[((2 : Int32).toInt - 0).toNat]? = some 356 := by decide +kernel
theorem sw_3 : (#[232, 288, 356, 424, 499, 574, 649, 705, 761, 774, 849, 862, 918, 986, 1054, 1134, 1238, 1325, 1400, 1456, 1524, 1599, 1674, 1742, 1822, 1890, 1977, 2057, 2132, 2195, 2239, 2295, 2399, 2443, 2456, 2512, 2587, 2631, 2675, 2774, 2818, 2922, 2978, 3041, 3054, 3112, 3156, 3200, 3256, 3312, 3392, 3495, 3563, 3576] : Array Int)[((3 : Int32).toInt - 0).toNat]? = some 424 := by decide +kernel
theorem sw_4 : (#[232, 288, 356, 424, 499, 574, 649, 705, 761, 774, 849, 862, 918, 986, 1054, 1134, 1238, 1325, 1400, 1456, 1524, 1599, 1674, 1742, 1822, 1890, 1977, 2057, 2132, 2195, 2239, 2295, 2399, 2443, 2456, 2512, 2587, 2631, 2675, 2774, 2818, 2922, 2978, 3041, 3054, 3112, 3156, 3200, 3256, 3312, 3392, 3495, 3563, 3576] : Array Int)[((4 : Int32).toInt - 0).toNat]? = some 499 := by decide +kernel
theorem sw_5 : (#[232, 288, 356, 424, 499, 574, 649, 705, 761, 774, 849, 862, 918, 986, 1054, 1134, 1238, 1325, 1400, 1456, 1524, 1599, 1674, 1742, 1822, 1890, 1977, 2057, 2132, 2195, 2239, 2295, 2399, 2443, 2456, 2512, 2587, 2631, 2675, 2774, 2818, 2922, 2978, 3041, 3054, 3112, 3156, 3200, 3256, 3312, 3392, 3495, 3563, 3576] : Array Int)[((5 : Int32).toInt - 0).toNat]? = some 574 := by decide +kernel
theorem sw_6 : (#[232, 288, 356, 424, 499, 574, 649, 705, 761, 774, 849, 862, 918, 986, 1054, 1134, 1238, 1325, 1400, 1456, 1524, 1599, 1674, 1742, 1822, 1890, 1977, 2057, 2132, 2195, 2239, 2295, 2399, 2443, 2456, 2512, 2587, 2631, 2675, 2774, 2818, 2922, 2978, 3041, 3054, 3112, 3156, 3200, 3256, 3312, 3392, 3495, 3563, 3576] : Array Int)[((6 : Int32).toInt - 0).toNat]? = some 649 := by decide +kernel
theorem sw_7 : (#[232, 288, 356, 424, 499, 574, 649, 705, 761, 774, 849, 862, 918, 986, 1054, 1134, 1238, 1325, 1400, 1456, 1524, 1599, 1674, 1742, 1822, 1890, 1977, 2057, 2132, 2195, 2239, 2295, 2399, 2443, 2456, 2512, 2587, 2631, 2675, 2774, 2818, 2922, 2978, 3041, 3054, 3112, 3156, 3200, 3256, 3312, 3392, 3495, 3563, 3576] : Array Int)[((7 : Int32).toInt - 0).toNat]? = some 705 := by decide +kernel
theorem sw_8 : (#[232, 288, 356, 424, 499, 574, 649, 705, 761, 774, 849, 862, 918, 986, 1054, 1134, 1238, 1325, 1400, 1456, 1524, 1599, 1674, 1742, 1822, 1890, 1977, 2057, 2132, 2195, 2239, 2295, 2399, 2443, 2456, 2512, 2587, 2631, 2675, 2774, 2818, 2922, 2978, 3041, 3054, 3112, 3156, 3200, 3256, 3312, 3392, 3495, 3563, 3576] : Array Int)[((8 : Int32).toInt - 0).toNat]? = some 761 := by decide +kernel
theorem sw_9 : (#[232, 288, 356, 424, 499, 574, 649, 705, 761, 774, 849, 862, 918, 986, 1054, 1134, 1238, 1325, 1400, 1456, 1524, 1599, 1674, 1742, 1822, 1890, 1977, 2057, 2132, 2195, 2239, 2295, 2399, 2443, 2456, 2512, 2587, 2631, 2675, 2774, 2818, 2922, 2978, 3041, 3054, 3112, 3156, 3200, 3256, 3312, 3392, 3495, 3563, 3576] : Array Int)[((9 : Int32).toInt - 0).toNat]? = some 774 := by decide +kernel
theorem sw_10 : (#[232, 288, 356, 424, 499, 574, 649, 705, 761, 774, 849, 862, 918, 986, 1054, 1134, 1238, 1325, 1400, 1456, 1524, 1599, 1674, 1742, 1822, 1890, 1977, 2057, 2132, 2195, 2239, 2295, 2399, 2443, 2456, 2512, 2587, 2631, 2675, 2774, 2818, 2922, 2978, 3041, 3054, 3112, 3156, 3200, 3256, 3312, 3392, 3495, 3563, 3576] : Array Int)[((10 : Int32).toInt - 0).toNat]? = some 849 := by decide +kernel
theorem sw_11 : (#[232, 288, 356, 424, 499, 574, 649, 705, 761, 774, 849, 862, 918, 986, 1054, 1134, 1238, 1325, 1400, 1456, 1524, 1599, 1674, 1742, 1822, 1890, 1977, 2057, 2132, 2195, 2239, 2295, 2399, 2443, 2456, 2512, 2587, 2631, 2675, 2774, 2818, 2922, 2978, 3041, 3054, 3112, 3156, 3200, 3256, 3312, 3392, 3495, 3563, 3576] : Array Int)[((11 : Int32).toInt - 0).toNat]? = some 862 := by decide +kernel
theorem sw_12 : (#[232, 288, 356, 424, 499, 574, 649, 705, 761, 774, 849, 862, 918, 986, 1054, 1134, 1238, 1325, 1400, 1456, 1524, 1599, 1674, 1742, 1822, 1890, 1977, 2057, 2132, 2195, 2239, 2295, 2399, 2443, 2456, 2512, 2587, 2631, 2675, 2774, 2818, 2922, 2978, 3041, 3054, 3112, 3156, 3200, 3256, 3312, 3392, 3495, 3563, 3576] : Array Int)[((12 : Int32).toInt - 0).toNat]? = some 918 := by decide +kernel
theorem sw_13 : (#[232, 288, 356, 424, 499, 574, 649, 705, 761, 774, 849, 862, 918, 986, 1054, 1134, 1238, 1325, 1400, 1456, 1524, 1599, 1674, 1742, 1822, 1890, 1977, 2057, 2132, 2195, 2239, 2295, 2399, 2443, 2456, 2512, 2587, 2631, 2675, 2774, 2818, 2922, 2978, 3041, 3054, 3112, 3156, 3200, 3256, 3312, 3392, 3495, 3563, 3576] : Array Int)[((13 : Int32).toInt - 0).toNat]? = some 986 := by decide +kernel
theorem sw_14 : (#[232, 288, 356, 424, 499, 574, 649, 705, 761, 774, 849, 862, 918, 986, 1054, 1134, 1238, 1325, 1400, 1456, 1524, 1599, 1674, 1742, 1822, 1890, 1977, 2057, 2132, 2195, 2239, 2295, 2399, 2443, 2456, 2512, 2587, 2631, 2675, 2774, 2818, 2922, 2978, 3041, 3054, 3112, 3156, 3200, 3256, 3312, 3392, 3495, 3563, 3576] : Array Int)[((14 : Int32).toInt - 0).toNat]? = some 1054 := by decide +kernel
theorem sw_15 : (#[232, 288, 356, 424, 499, 574, 649, 705, 761, 774, 849, 862, 918, 986, 1054, 1134, 1238, 1325, 1400, 1456, 1524, 1599, 1674, 1742, 1822, 1890, 1977, 2057, 2132, 2195, 2239, 2295, 2399, 2443, 2456, 2512, 2587, 2631, 2675, 2774, 2818, 2922, 2978, 3041, 3054, 3112, 3156, 3200, 3256, 3312, 3392, 3495, 3563, 3576] : Array Int)[((15 : Int32).toInt - 0).toNat]? = some 1134 := by decide +kernel
theorem sw_16 : (#[232, 288, 356, 424, 499, 574, 649, 705, 761, 774, 849, 862, 918, 986, 1054, 1134, 1238, 1325, 1400, 1456, 1524, 1599, 1674, 1742, 1822, 1890, 1977, 2057, 2132, 2195, 2239, 2295, 2399, 2443, 2456, 2512, 2587, 2631, 2675, 2774, 2818, 2922, 2978, 3041, 3054, 3112, 3156, 3200, 3256, 3312, 3392, 3495, 3563, 3576] : Array Int)[((16 : Int32).toInt - 0).toNat]? = some 1238 := by decide +kernel
theorem sw_17 : (#[232, 288, 356, 424, 499, 574, 649, 705, 761, 774, 849, 862, 918, 986, 1054, 1134, 1238, 1325, 1400, 1456, 1524, 1599, 1674, 1742, 1822, 1890, 1977, 2057, 2132, 2195, 2239, 2295, 2399, 2443, 2456, 2512, 2587, 2631, 2675, 2774, 2818, 2922, 2978, 3041, 3054, 3112, 3156, 3200, 3256, 3312, 3392, 3495, 3563, 3576] : Array Int)[((17 : Int32).toInt - 0).toNat]? = some 1325 := by decide +kernel
theorem sw_18 : (#[232, 288, 356, 424, 499, 574, 649, 705, 761, 774, 849, 862, 918, 986, 1054, 1134, 1238, 1325, 1400, 1456, 1524, 1599, 1674, 1742, 1822, 1890, 1977, 2057, 2132, 2195, 2239, 2295, 2399, 2443, 2456, 2512, 2587, 2631, 2675, 2774, 2818, 2922, 2978, 3041, 3054, 3112, 3156, 3200, 3256, 3312, 3392, 3495, 3563, 3576] : Array Int)[((18 : Int32).toInt - 0).toNat]? = some 1400 := by decide +kernel
theorem sw_19 : (#[232, 288, 356, 424, 499, 574, 649, 705, 761, 774, 849, 862, 918, 986, 1054, 1134, 1238, 1325, 1400, 1456, 1524, 1599, 1674, 1742, 1822, 1890, 1977, 2057, 2132, 2195, 2239, 2295, 2399, 2443, 2456, 2512, 2587, 2631, 2675, 2774, 2818, 2922, 2978, 3041, 3054, 3112, 3156, 3200, 3256, 3312, 3392, 3495, 3563, 3576] : Array Int)[((19 : Int32).toInt - 0).toNat]? = some 1456 := by decide +kernel
theorem sw_20 : (#[232, 288, 356, 424, 499, 574, 649, 705, 761, 774, 849, 862, 918, 986, 1054, 1134, 1238, 1325, 1400, 1456, 1524, 1599, 1674, 1742, 1822, 1890, 1977, 2057, 2132, 2195, 2239, 2295, 2399, 2443, 2456, 2512, 2587, 2631, 2675, 2774, 2818, 2922, 2978, 3041, 3054, 3112, 3156, 3200, 3256, 3312, 3392, 3495, 3563, 3576] : Array Int)[((20 : Int32).toInt - 0).toNat]? = some 1524 := by decide +kernel
theorem sw_21 : (#[232, 288, 356, 424, 499, 574, 649, 705, 761, 774, 849, 862, 918, 986, 1054, 1134, 1238, 1325, 1400, 1456, 1524, 1599, 1674, 1742, 1822, 1890, 1977, 2057, 2132, 2195, 2239, 2295, 2399, 2443, 2456, 2512, 2587, 2631, 2675, 2774, 2818, 2922, 2978, 3041, 3054, 3112, 3156, 3200, 3256, 3312, 3392, 3495, 3563, 3576] : Array Int)[((21 : Int32).toInt - 0).toNat]? = some 1599 := by decide +kernel
theorem sw_22 : (#[232, 288, 356, 424, 499, 574, 649, 705, 761, 774, 849, 862, 918, 986, 1054, 1134, 1238, 1325, 1400, 1456, 1524, 1599, 1674, 1742, 1822, 1890, 1977, 2057, 2132, 2195, 2239, 2295, 2399, 2443, 2456, 2512, 2587, 2631, 2675, 2774, 2818, 2922, 2978, 3041, 3054, 3112, 3156, 3200, 3256, 3312, 3392, 3495, 3563, 3576] : Array Int)[((22 : Int32).toInt - 0).toNat]? = some 1674 := by decide +kernel
theorem sw_23 : (#[232, 288, 356, 424, 499, 574, 649, 705, 761, 774, 849, 862, 918, 986, 1054, 1134, 1238, 1325, 1400, 1456, 1524, 1599, 1674, 1742, 1822, 1890, 1977, 2057, 2132, 2195, 2239, 2295, 2399, 2443, 2456, 2512, 2587, 2631, 2675, 2774, 2818, 2922, 2978, 3041, 3054, 3112, 3156, 3200, 3256, 3312, 3392, 3495, 3563, 3576] : Array Int)[((23 : Int32).toInt - 0).toNat]? = some 1742 := by decide +kernel
theorem sw_24 : (#[232, 288, 356, 424, 499, 574, 649, 705, 761, 774, 849, 862, 918, 986, 1054, 1134, 1238, 1325, 1400, 1456, 1524, 1599, 1674, 1742, 1822, 1890, 1977, 2057, 2132, 2195, 2239, 2295, 2399, 2443, 2456, 2512, 2587, 2631, 2675, 2774, 2818, 2922, 2978, 3041, 3054, 3112, 3156, 3200, 3256, 3312, 3392, 3495, 3563, 3576] : Array Int)[((24 : Int32).toInt - 0).toNat]? = some 1822 := by decide +kernel
theorem sw_25 : (#[232, 288, 356, 424, 499, 574, 649, 705, 761, 774, 849, 862, 918, 986, 1054, 1134, 1238, 1325, 1400, 1456, 1524, 1599, 1674, 1742, 1822, 1890, 1977, 2057, 2132, 2195, 2239, 2295, 2399, 2443, 2456, 2512, 2587, 2631, 2675, 2774, 2818, 2922, 2978, 3041, 3054, 3112, 3156, 3200, 3256, 3312, 3392, 3495, 3563, 3576] : Array Int)[((25 : Int32).toInt - 0).toNat]? = some 1890 := by decide +kernel
theorem sw_26 : (#[232, 288, 356, 424, 499, 574, 649, 705, 761, 774, 849, 862, 918, 986, 1054, 1134, 1238, 1325, 1400, 1456, 1524, 1599, 1674, 1742, 1822, 1890, 1977, 2057, 2132, 2195, 2239, 2295, 2399, 2443, 2456, 2512, 2587, 2631, 2675, 2774, 2818, 2922, 2978, 3041, 3054, 3112, 3156, 3200, 3256, 3312, 3392, 3495, 3563, 3576] : Array Int)[((26 : Int32).toInt - 0).toNat]? = some 1977 := by decide +kernel
theorem sw_27 : (#[232, 288, 356, 424, 499, 574, 649, 705, 761, 774, 849, 862, 918, 986, 1054, 1134, 1238, 1325, 1400, 1456, 1524, 1599, 1674, 1742, 1822, 1890, 1977, 2057, 2132, 2195, 2239, 2295, 2399, 2443, 2456, 2512, 2587, 2631, 2675, 2774, 2818, 2922, 2978, 3041, 3054, 3112, 3156, 3200, 3256, 3312, 3392, 3495, 3563, 3576] : Array Int)[((27 : Int32).toInt - 0).toNat]? = some 2057 := by decide +kernel
theorem sw_28 : (#[232, 288, 356, 424, 499, 574, 649, 705, 761, 774, 849, 862, 918, 986, 1054, 1134, 1238, 1325, 1400, 1456, 1524, 1599, 1674, 1742, 1822, 1890, 1977, 2057, 2132, 2195, 2239, 2295, 2399, 2443, 2456, 2512, 2587, 2631, 2675, 2774, 2818, 2922, 2978, 3041, 3054, 3112, 3156, 3200, 3256, 3312, 3392, 3495, 3563, 3576] : Array Int)[((28 : Int32).toInt - 0).toNat]? = some 2132 := by decide +kernel
theorem sw_29 : (#[232, 288, 356, 424, 499, 574, 649, 705, 761, 774, 849, 862, 918, 986, 1054, 1134, 1238, 1325, 1400, 1456, 1524, 1599, 1674, 1742, 1822, 1890, 1977, 2057, 2132, 2195, 2239, 2295, 2399, 2443, 2456, 2512, 2587, 2631, 2675, 2774, 2818, 2922, 2978, 3041, 3054, 3112, 3156, 3200, 3256, 3312, 3392, 3495, 3563, 3576] : Array Int)[((29 : Int32).toInt - 0).toNat]? = some 2195 := by decide +kernel
theorem sw_30 : (#[232, 288, 356, 424, 499, 574, 649, 705, 761, 774, 849, 862, 918, 986, 1054, 1134, 1238, 1325, 1400, 1456, 1524, 1599, 1674, 1742, 1822, 1890, 1977, 2057, 2132, 2195, 2239, 2295, 2399, 2443, 2456, 2512, 2587, 2631, 2675, 2774, 2818, 2922, 2978, 3041, 3054, 3112, 3156, 3200, 3256, 3312, 3392, 3495, 3563, 3576] : Array Int)[((30 : Int32).toInt - 0).toNat]? = some 2239 := by decide +kernel
theorem sw_31 : (#[232, 288, 356, 424, 499, 574, 649, 705, 761, 774, 849, 862, 918, 986, 1054, 1134, 1238, 1325, 1400, 1456, 1524, 1599, 1674, 1742, 1822, 1890, 1977, 2057, 2132, 2195, 2239, 2295, 2399, 2443, 2456, 2512, 2587, 2631, 2675, 2774, 2818, 2922, 2978, 3041, 3054, 3112, 3156, 3200, 3256, 3312, 3392, 3495, 3563, 3576] : Array Int)[((31 : Int32).toInt - 0).toNat]? = some 2295 := by decide +kernel
theorem sw_32 : (#[232, 288, 356, 424, 499, 574, 649, 705, 761, 774, 849, 862, 918, 986, 1054, 1134, 1238, 1325, 1400, 1456, 1524, 1599, 1674, 1742, 1822, 1890, 1977, 2057, 2132, 2195, 2239, 2295, 2399, 2443, 2456, 2512, 2587, 2631, 2675, 2774, 2818, 2922, 2978, 3041, 3054, 3112, 3156, 3200, 3256, 3312, 3392, 3495, 3563, 3576] : Array Int)[((32 : Int32).toInt - 0).toNat]? = some 2399 := by decide +kernel
theorem sw_33 : (#[232, 288, 356, 424, 499, 574, 649, 705, 761, 774, 849, 862, 918, 986, 1054, 1134, 1238, 1325, 1400, 1456, 1524, 1599, 1674, 1742, 1822, 1890, 1977, 2057, 2132, 2195, 2239, 2295, 2399, 2443, 2456, 2512, 2587, 2631, 2675, 2774, 2818, 2922, 2978, 3041, 3054, 3112, 3156, 3200, 3256, 3312, 3392, 3495, 3563, 3576] : Array Int)[((33 : Int32).toInt - 0).toNat]? = some 2443 := by decide +kernel
theorem sw_34 : (#[232, 288, 356, 424, 499, 574, 649, 705, 761, 774, 849, 862, 918, 986, 1054, 1134, 1238, 1325, 1400, 1456, 1524, 1599, 1674, 1742, 1822, 1890, 1977, 2057, 2132, 2195, 2239, 2295, 2399, 2443, 2456, 2512, 2587, 2631, 2675, 2774, 2818, 2922, 2978, 3041, 3054, 3112, 3156, 3200, 3256, 3312, 3392, 3495, 3563, 3576] : Array Int)[((34 : Int32).toInt - 0).toNat]? = some 2456 := by decide +kernel
theorem sw_35 : (#[232, 288, 356, 424, 499, 574, 649, 705, 761, 774, 849, 862, 918, 986, 1054, 1134, 1238, 1325, 1400, 1456, 1524, 1599, 1674, 1742, 1822, 1890, 1977, 2057, 2132, 2195, 2239, 2295, 2399, 2443, 2456, 2512, 2587, 2631, 2675, 2774, 2818, 2922, 2978, 3041, 3054, 3112, 3156, 3200, 3256, 3312, 3392, 3495, 3563, 3576] : Array Int)[((35 : Int32).toInt - 0).toNat]? = some 2512 := by decide +kernel
theorem sw_36 : (#[232, 288, 356, 424, 499, 574, 649, 705, 761, 774, 849, 862, 918, 986, 1054, 1134, 1238, 1325, 1400, 1456, 1524, 1599, 1674, 1742, 1822, 1890, 1977, 2057, 2132, 2195, 2239, 2295, 2399, 2443, 2456, 2512, 2587, 2631, 2675, 2774, 2818, 2922, 2978, 3041, 3054, 3112, 3156, 3200, 3256, 3312, 3392, 3495, 3563, 3576] : Array Int)[((36 : Int32).toInt - 0).toNat]? = some 2587 := by decide +kernel
theorem sw_37 : (#[232, 288, 356, 424, 499, 574, 649, 705, 761, 774, 849, 862, 918, 986, 1054, 1134, 1238, 1325, 1400, 1456, 1524, 1599, 1674, 1742, 1822, 1890, 1977, 2057, 2132, 2195, 2239, 2295, 2399, 2443, 2456, 2512, 2587, 2631, 2675, 2774, 2818, 2922, 2978, 3041, 3054, 3112, 3156, 3200, 3256, 3312, 3392, 3495, 3563, 3576] : Array Int)[((37 : Int32).toInt - 0).toNat]? = some 2631 := by decide +kernel
theorem sw_38 : (#[232, 288, 356, 424, 499, 574, 649, 705, 761, 774, 849, 862, 918, 986, 1054, 1134, 1238, 1325, 1400, 1456, 1524, 1599, 1674, 1742, 1822, 1890, 1977, 2057, 2132, 2195, 2239, 2295, 2399, 2443, 2456, 2512, 2587, 2631, 2675, 2774, 2818, 2922, 2978, 3041, 3054, 3112, 3156, 3200, 3256, 3312, 3392, 3495, 3563, 3576] : Array Int)[((38 : Int32).toInt - 0).toNat]? = some 2675 := by decide +kernel
theorem sw_39 : (#[232, 288, 356, 424, 499, 574, 649, 705, 761, 774, 849, 862, 918, 986, 1054, 1134, 1238, 1325, 1400, 1456, 1524, 1599, 1674, 1742, 1822, 1890, 1977, 2057, 2132, 2195, 2239, 2295, 2399, 2443, 2456, 2512, 2587, 2631, 2675, 2774, 2818, 2922, 2978, 3041, 3054, 3112, 3156, 3200, 3256, 3312, 3392, 3495, 3563, 3576] : Array Int)[((39 : Int32).toInt - 0).toNat]? = some 2774 := by decide +kernel
theorem sw_40 : (#[232, 288, 356, 424, 499, 574, 649, 705, 761, 774, 849, 862, 918, 986, 1054, 1134, 1238, 1325, 1400, 1456, 1524, 1599, 1674, 1742, 1822, 1890, 1977, 2057, 2132, 2195, 2239, 2295, 2399, 2443, 2456, 2512, 2587, 2631, 2675, 2774, 2818, 2922, 2978, 3041, 3054, 3112, 3156, 3200, 3256, 3312, 3392, 3495, 3563, 3576] : Array Int)[((40 : Int32).toInt - 0).toNat]? = some 2818 := by decide +kernel
theorem sw_41 : (#[232, 288, 356, 424, 499, 574, 649, 705, 761, 774, 849, 862, 918, 986, 1054, 1134, 1238, 1325, 1400, 1456, 1524, 1599, 1674, 1742, 1822, 1890, 1977, 2057, 2132, 2195, 2239, 2295, 2399, 2443, 2456, 2512, 2587, 2631, 2675, 2774, 2818, 2922, 2978, 3041, 3054, 3112, 3156, 3200, 3256, 3312, 3392, 3495, 3563, 3576] : Array Int)[((41 : Int32).toInt - 0).toNat]? = some 2922 := by decide +kernel
theorem sw_42 : (#[232, 288, 356, 424, 499, 574, 649, 705, 761, 774, 849, 862, 918, 986, 1054, 1134, 1238, 1325, 1400, 1456, 1524, 1599, 1674, 1742, 1822, 1890, 1977, 2057, 2132, 2195, 2239, 2295, 2399, 2443, 2456, 2512, 2587, 2631, 2675, 2774, 2818, 2922, 2978, 3041, 3054, 3112, 3156, 3200, 3256, 3312, 3392, 3495, 3563, 3576] : Array Int)[((42 : Int32).toInt - 0).toNat]? = some 2978 := by decide +kernel
theorem sw_43 : (#[232, 288, 356, 424, 499, 574, 649, 705, 761, 774, 849, 862, 918, 986, 1054, 1134, 1238, 1325, 1400, 1456, 1524, 1599, 1674, 1742, 1822, 1890, 1977, 2057, 2132, 2195, 2239, 2295, 2399, 2443, 2456, 2512, 2587, 2631, 2675, 2774, 2818, 2922, 2978, 3041, 3054, 3112, 3156, 3200, 3256, 3312, 3392, 3495, 3563, 3576] : Array Int)[((43 : Int32).toInt - 0).toNat]? = some 3041 := by decide +kernel
theorem sw_44 : (#[232, 288, 356, 424, 499, 574, 649, 705, 761, 774, 849, 862, 918, 986, 1054, 1134, 1238, 1325, 1400, 1456, 1524, 1599, 1674, 1742, 1822, 1890, 1977, 2057, 2132, 2195, 2239, 2295, 2399, 2443, 2456, 2512, 2587, 2631, 2675, 2774, 2818, 2922, 2978, 3041, 3054, 3112, 3156, 3200, 3256, 3312, 3392, 3495, 3563, 3576] : Array Int)[((44 : Int32).toInt - 0).toNat]? = some 3054 := by decide +kernel
theorem sw_45 : (#[232, 288, 356, 424, 499, 574, 649, 705, 761, 774, 849, 862, 918, 986, 1054, 1134, 1238, 1325, 1400, 1456, 1524, 1599, 1674, 1742, 1822, 1890, 1977, 2057, 2132, 2195, 2239, 2295, 2399, 2443, 2456, 2512, 2587, 2631, 2675, 2774, 2818, 2922, 2978, 3041, 3054, 3112, 3156, 3200, 3256, 3312, 3392, 3495, 3563, 3576] : Array Int)[((45 : Int32).toInt - 0).toNat]? = some 3112 := by decide +kernel
theorem sw_46 : (#[232, 288, 356, 424, 499, 574, 649, 705, 761, 774, 849, 862, 918, 986, 1054, 1134, 1238, 1325, 1400, 1456, 1524, 1599, 1674, 1742, 1822, 1890, 1977, 2057, 2132, 2195, 2239, 2295, 2399, 2443, 2456, 2512, 2587, 2631, 2675, 2774, 2818, 2922, 2978, 3041, 3054, 3112, 3156, 3200, 3256, 3312, 3392, 3495, 3563, 3576] : Array Int)[((46 : Int32).toInt - 0).toNat]? = some 3156 := by decide +kernel
theorem sw_47 : (#[232, 288, 356, 424, 499, 574, 649, 705, 761, 774, 849, 862, 918, 986, 1054, 1134, 1238, 1325, 1400, 1456, 1524, 1599, 1674, 1742, 1822, 1890, 1977, 2057, 2132, 2195, 2239, 2295, 2399, 2443, 2456, 2512, 2587, 2631, 2675, 2774, 2818, 2922, 2978, 3041, 3054, 3112, 3156, 3200, 3256, 3312, 3392, 3495, 3563, 3576] : Array Int)[((47 : Int32).toInt - 0).toNat]? = some 3200 := by decide +kernel
theorem sw_48 : (#[232, 288, 356, 424, 499, 574, 649, 705, 761, 774, 849, 862, 918, 986, 1054, 1134, 1238, 1325, 1400, 1456, 1524, 1599, 1674, 1742, 1822, 1890, 1977, 2057, 2132, 2195, 2239, 2295, 2399, 2443, 2456, 2512, 2587, 2631, 2675, 2774, 2818, 2922, 2978, 3041, 3054, 3112, 3156, 3200, 3256, 3312, 3392, 3495, 3563, 3576] : Array Int)[((48 : Int32).toInt - 0).toNat]? = some 3256 := by decide +kernel
theorem sw_49 : (#[232, 288, 356, 424, 499, 574, 649, 705, 761, 774, 849, 862, 918, 986, 1054, 1134, 1238, 1325, 1400, 1456, 1524, 1599, 1674, 1742, 1822, 1890, 1977, 2057, 2132, 2195, 2239, 2295, 2399, 2443, 2456, 2512, 2587, 2631, 2675, 2774, 2818, 2922, 2978, 3041, 3054, 3112, 3156, 3200, 3256, 3312, 3392, 3495, 3563, 3576] : Array Int)[((49 : Int32).toInt - 0).toNat]? = some 3312 := by decide +kernel
theorem sw_50 : (#[232, 288, 356, 424, 499, 574, 649, 705, 761, 774, 849, 862, 918, 986, 1054, 1134, 1238, 1325, 1400, 1456, 1524, 1599, 1674, 1742, 1822, 1890, 1977, 2057, 2132, 2195, 2239, 2295, 2399, 2443, 2456, 2512, 2587, 2631, 2675, 2774, 2818, 2922, 2978, 3041, 3054, 3112, 3156, 3200, 3256, 3312, 3392, 3495, 3563, 3576] : Array Int)[((50 : Int32).toInt - 0).toNat]? = some 3392 := by decide +kernel
theorem sw_51 : (#[232, 288, 356, 424, 499, 574, 649, 705, 761, 774, 849, 862, 918, 986, 1054, 1134, 1238, 1325, 1400, 1456, 1524, 1599, 1674, 1742, 1822, 1890, 1977, 2057, 2132, 2195, 2239, 2295, 2399, 2443, 2456, 2512, 2587, 2631, 2675, 2774, 2818, 2922, 2978, 3041, 3054, 3112, 3156, 3200, 3256, 3312, 3392, 3495, 3563, 3576] : Array Int)[((51 : Int32).toInt - 0).toNat]? = some 3495 := by decide +kernel
theorem sw_52 : (#[232, 288, 356, 424, 499, 574, 649, 705, 761, 774, 849, 862, 918, 986, 1054, 1134, 1238, 1325, 1400, 1456, 1524, 1599, 1674, 1742, 1822, 1890, 1977, 2057, 2132, 2195, 2239, 2295, 2399, 2443, 2456, 2512, 2587, 2631, 2675, 2774, 2818, 2922, 2978, 3041, 3054, 3112, 3156, 3200, 3256, 3312, 3392, 3495, 3563, 3576] : Array Int)[((52 : Int32).toInt - 0).toNat]? = some 3563 := by decide +kernel
theorem sw_53 : (#[232, 288, 356, 424, 499, 574, 649, 705, 761, 774, 849, 862, 918, 986, 1054, 1134, 1238, 1325, 1400, 1456, 1524, 1599, 1674, 1742, 1822, 1890, 1977, 2057, 2132, 2195, 2239, 2295, 2399, 2443, 2456, 2512, 2587, 2631, 2675, 2774, 2818, 2922, 2978, 3041, 3054, 3112, 3156, 3200, 3256, 3312, 3392, 3495, 3563, 3576] : Array Int)[((53 : Int32).toInt - 0).toNat]? = some 3576 := by decide +kernel
theorem sw_out {z : Int32} (h0 : ¬ z = 0) (h1 : ¬ z = 1) (h2 : ¬ z = 2) (h3 : ¬ z = 3) (h4 : ¬ z = 4) (h5 : ¬ z = 5) (h6 : ¬ z = 6) (h7 : ¬ z = 7) (h8 : ¬ z = 8) (h9 : ¬ z = 9) (h10 : ¬ z = 10) (h11 : ¬ z = 11) (h12 : ¬ z = 12) (h13 : ¬ z = 13) (h14 : ¬ z = 14) (h15 : ¬ z = 15) (h16 : ¬ z = 16) (h17 : ¬ z = 17) (h18 : ¬ z = 18) (h19 : ¬ z = 19) (h20 : ¬ z = 20) (h21 : ¬ z = 21) (h22 : ¬ z = 22) (h23 : ¬ z = 23) (h24 : ¬ z = 24) (h25 : ¬ z = 25) (h26 : ¬ z = 26) (h27 : ¬ z = 27) (h28 : ¬ z = 28) (h29 : ¬ z = 29) (h30 : ¬ z = 30) (h31 : ¬ z = 31) (h32 : ¬ z = 32) (h33 : ¬ z = 33) (h34 : ¬ z = 34) (h35 : ¬ z = 35) (h36 : ¬ z = 36) (h37 : ¬ z = 37) (h38 : ¬ z = 38) (h39 : ¬ z = 39) (h40 : ¬ z = 40) (h41 : ¬ z = 41) (h42 : ¬ z = 42) (h43 : ¬ z = 43) (h44 : ¬ z = 44) (h45 : ¬ z = 45) (h46 : ¬ z = 46) (h47 : ¬ z = 47) (h48 : ¬ z = 48) (h49 : ¬ z = 49) (h50 : ¬ z = 50) (h51 : ¬ z = 51) (h52 : ¬ z = 52) (h53 : ¬ z = 53) : z.toInt < 0 ∨ 53 < z.toInt := by
  rcases Int.lt_or_le z.toInt 0 with q | q
  · exact Or.inl q
  rcases Int.lt_or_le 53 z.toInt with q2 | q2
  · exact Or.inr q2
  exfalso
  have g0 : z.toInt ≠ 0 := fun h => h0 (Int32.toInt_inj.mp (h.trans (by decide +kernel)))
  have g1 : z.toInt ≠ 1 := fun h => h1 (Int32.toInt_inj.mp (h.trans (by decide +kernel)))
  have g2 : z.toInt ≠ 2 := fun h => h2 (Int32.toInt_inj.mp (h.trans (by decide +kernel)))
  have g3 : z.toInt ≠ 3 := fun h => h3 (Int32.toInt_inj.mp (h.trans (by decide +kernel)))
  have g4 : z.toInt ≠ 4 := fun h => h4 (Int32.toInt_inj.mp (h.trans (by decide +kernel)))
  have g5 : z.toInt ≠ 5 := fun h => h5 (Int32.toInt_inj.mp (h.trans (by decide +kernel)))
  have g6 : z.toInt ≠ 6 := fun h => h6 (Int32.toInt_inj.mp (h.trans (by decide +kernel)))
  have g7 : z.toInt ≠ 7 := fun h => h7 (Int32.toInt_inj.mp (h.trans (by decide +kernel)))
  have g8 : z.toInt ≠ 8 := fun h => h8 (Int32.toInt_inj.mp (h.trans (by decide +kernel)))
  have g9 : z.toInt ≠ 9 := fun h => h9 (Int32.toInt_inj.mp (h.trans (by decide +kernel)))
  have g10 : z.toInt ≠ 10 := fun h => h10 (Int32.toInt_inj.mp (h.trans (by decide +kernel)))
  have g11 : z.toInt ≠ 11 := fun h => h11 (Int32.toInt_inj.mp (h.trans (by decide +kernel)))
  have g12 : z.toInt ≠ 12 := fun h => h12 (Int32.toInt_inj.mp (h.trans (by decide +kernel)))
  have g13 : z.toInt ≠ 13 := fun h => h13 (Int32.toInt_inj.mp (h.trans (by decide +kernel)))
  have g14 : z.toInt ≠ 14 := fun h => h14 (Int32.toInt_inj.mp (h.trans (by decide +kernel)))
  have g15 : z.toInt ≠ 15 := fun h => h15 (Int32.toInt_inj.mp (h.trans (by decide +kernel)))
  have g16 : z.toInt ≠ 16 := fun h => h16 (Int32.toInt_inj.mp (h.trans (by decide +kernel)))
  have g17 : z.toInt ≠ 17 := fun h => h17 (Int32.toInt_inj.mp (h.trans (by decide +kernel)))
  have g18 : z.toInt ≠ 18 := fun h => h18 (Int32.toInt_inj.mp (h.trans (by decide +kernel)))
  have g19 : z.toInt ≠ 19 := fun h => h19 (Int32.toInt_inj.mp (h.trans (by decide +kernel)))
  have g20 : z.toInt ≠ 20 := fun h => h20 (Int32.toInt_inj.mp (h.trans (by decide +kernel)))
  have g21 : z.toInt ≠ 21 := fun h => h21 (Int32.toInt_inj.mp (h.trans (by decide +kernel)))
  have g22 : z.toInt ≠ 22 := fun h => h22 (Int32.toInt_inj.mp (h.trans (by decide +kernel)))
  have g23 : z.toInt ≠ 23 := fun h => h23 (Int32.toInt_inj.mp (h.trans (by decide +kernel)))
  have g24 : z.toInt ≠ 24 := fun h => h24 (Int32.toInt_inj.mp (h.trans (by decide +kernel)))
  have g25 : z.toInt ≠ 25 := fun h => h25 (Int32.toInt_inj.mp (h.trans (by decide +kernel)))
  have g26 : z.toInt ≠ 26 := fun h => h26 (Int32.toInt_inj.mp (h.trans (by decide +kernel)))
  have g27 : z.toInt ≠ 27 := fun h => h27 (Int32.toInt_inj.mp (h.trans (by decide +kernel)))
  have g28 : z.toInt ≠ 28 := fun h => h28 (Int32.toInt_inj.mp (h.trans (by decide +kernel)))
  have g29 : z.toInt ≠ 29 := fun h => h29 (Int32.toInt_inj.mp (h.trans (by decide +kernel)))
  have g30 : z.toInt ≠ 30 := fun h => h30 (Int32.toInt_inj.mp (h.trans (by decide +kernel)))
  have g31 : z.toInt ≠ 31 := fun h => h31 (Int32.toInt_inj.mp (h.trans (by decide +kernel)))
  have g32 : z.toInt ≠ 32 := fun h => h32 (Int32.toInt_inj.mp (h.trans (by decide +kernel)))
  have g33 : z.toInt ≠ 33 := fun h => h33 (Int32.toInt_inj.mp (h.trans (by decide +kernel)))
  have g34 : z.toInt ≠ 34 := fun h => h34 (Int32.toInt_inj.mp (h.trans (by decide +kernel)))
  have g35 : z.toInt ≠ 35 := fun h => h35 (Int32.toInt_inj.mp (h.trans (by decide +kernel)))
  have g36 : z.toInt ≠ 36 := fun h => h36 (Int32.toInt_inj.mp (h.trans (by decide +kernel)))
  have g37 : z.toInt ≠ 37 := fun h => h37 (Int32.toInt_inj.mp (h.trans (by decide +kernel)))
  have g38 : z.toInt ≠ 38 := fun h => h38 (Int32.toInt_inj.mp (h.trans (by decide +kernel)))
  have g39 : z.toInt ≠ 39 := fun h => h39 (Int32.toInt_inj.mp (h.trans (by decide +kernel)))
  have g40 : z.toInt ≠ 40 := fun h => h40 (Int32.toInt_inj.mp (h.trans (by decide +kernel)))
  have g41 : z.toInt ≠ 41 := fun h => h41 (Int32.toInt_inj.mp (h.trans (by decide +kernel)))
  have g42 : z.toInt ≠ 42 := fun h => h42 (Int32.toInt_inj.mp (h.trans (by decide +kernel)))
  have g43 : z.toInt ≠ 43 := fun h => h43 (Int32.toInt_inj.mp (h.trans (by decide +kernel)))
  have g44 : z.toInt ≠ 44 := fun h => h44 (Int32.toInt_inj.mp (h.trans (by decide +kernel)))
  have g45 : z.toInt ≠ 45 := fun h => h45 (Int32.toInt_inj.mp (h.trans (by decide +kernel)))
  have g46 : z.toInt ≠ 46 := fun h => h46 (Int32.toInt_inj.mp (h.trans (by decide +kernel)))
  have g47 : z.toInt ≠ 47 := fun h => h47 (Int32.toInt_inj.mp (h.trans (by decide +kernel)))
  have g48 : z.toInt ≠ 48 := fun h => h48 (Int32.toInt_inj.mp (h.trans (by decide +kernel)))
  have g49 : z.toInt ≠ 49 := fun h => h49 (Int32.toInt_inj.mp (h.trans (by decide +kernel)))
  have g50 : z.toInt ≠ 50 := fun h => h50 (Int32.toInt_inj.mp (h.trans (by decide +kernel)))
  have g51 : z.toInt ≠ 51 := fun h => h51 (Int32.toInt_inj.mp (h.trans (by decide +kernel)))
  have g52 : z.toInt ≠ 52 := fun h => h52 (Int32.toInt_inj.mp (h.trans (by decide +kernel)))
  have g53 : z.toInt ≠ 53 := fun h => h53 (Int32.toInt_inj.mp (h.trans (by decide +kernel)))
  omega
set_option maxRecDepth 20000 in
set_option maxHeartbeats 8000000 in
theorem b_law_L {x : Cx} (o : Ok x cL_law 7 RL 100 601024 7293034) {a b c e : Nat → Nat} {oa sb LL : Nat} {xs : Nat → Int32} (hs9 : SF x sb LL xs) (r : (Int32 × St × St × St × St × (Nat → Int64)) ⊕ Int32) (hR : ∀ t, r = .inr t → False) (hX : ∀ s : Int32 × St × St × St × St × (Nat → Int64), r = .inl s → ∀ k n : Nat, k ≤ 601024 → n ≤ 7293034 → G x 7 k n (wLw a s.2.1 b s.2.2.1 c s.2.2.2.1 e s.2.2.2.2.1 oa s.2.2.2.2.2 (cxT x)) [] 3666 []) : ∀ (mm : Nat) (s : Int32 × St × St × St × St × (Nat → Int64)), loopN (f_law_step xs LL) mm s = some r → ∀ k n : Nat, k + 10 * mm ≤ 601024 → n + 60 * mm ≤ 7293034 → G x 7 k n (wLw a s.2.1 b s.2.2.1 c s.2.2.2.1 e s.2.2.2.2.1 oa s.2.2.2.2.2 (cxT x)) [(0, .ref sb), (1, .ref (a 0)), (2, .ref (e 0)), (3, .ref oa), (4, .int s.1)] 23 [] := by
  refine loop_K _ (fun (mm : Nat) (s : Int32 × St × St × St × St × (Nat → Int64)) => ∀ k n : Nat, k + 10 * mm ≤ 601024 → n + 60 * mm ≤ 7293034 → G x 7 k n (wLw a s.2.1 b s.2.2.1 c s.2.2.2.1 e s.2.2.2.2.1 oa s.2.2.2.2.2 (cxT x)) [(0, .ref sb), (1, .ref (a 0)), (2, .ref (e 0)), (3, .ref oa), (4, .int s.1)] 23 []) r ?_
  intro mm s ww hf hw k n hk hn
  unfold f_law_step at hf
  obtain ⟨i, u, v, w, m, f⟩ := s
  try dsimp -simprocs only at hf ⊢
  refine g_iload o 4 rfl dL_law_23 ?_
  refine g_aload_n o 0 rfl rfl dL_law_25 ?_
  refine g_slen o hs9 dL_law_26 ?_
  refine g_bipush o bp_6 dL_law_27 ?_
  refine g_isub o dL_law_29 ?_
  refine g_ic_gt (tgt := 3666) o rfl dL_law_30 hf (fun hc hf => ?_) (fun hc hf => ?_)
  · exact g_perm [] rfl (hX _ (lf_x hf hw) _ _ (by omega) (by omega))
  · refine g_aload_n o 0 rfl rfl dL_law_33 ?_
    refine g_iload o 4 rfl dL_law_34 ?_
    refine g_sld o hs9 dL_law_36 hf (fun hf => ?_)
    refine g_bipush o bp_63 dL_law_37 ?_
    refine g_iand o dL_law_39 ?_
    generalize (xs i.toNatClampNeg) &&& 63 = z at hf ⊢
    unfold f_law_sw at hf
    by_cases h0 : z = 0
    · subst h0
      rw [if_pos rfl] at hf
      exact g_swI (tgt := 272) o dL_law_40 (by decide +kernel) (by decide +kernel) sw_0 rfl (b_law_c0 o hs9 r hR i u v w m f ww hf hw hk hn)
    rw [if_neg h0] at hf
    by_cases h1 : z = 1
    · subst h1
      rw [if_pos rfl] at hf
      exact g_swI (tgt := 328) o dL_law_40 (by decide +kernel) (by decide +kernel) sw_1 rfl (b_law_c1 o hs9 r hR i u v w m f ww hf hw hk hn)
    rw [if_neg h1] at hf
    by_cases h2 : z = 2
    · subst h2
      rw [if_pos rfl] at hf
      exact g_swI (tgt := 396) o dL_law_40 (by decide +kernel) (by decide +kernel) sw_2 rfl (b_law_c2 o hs9 r hR i u v w m f ww hf hw hk hn)
    rw [if_neg h2] at hf
    by_cases h3 : z = 3
    · subst h3
      rw [if_pos rfl] at hf
      exact g_swI (tgt := 464) o dL_law_40 (by decide +kernel) (by decide +kernel) sw_3 rfl (b_law_c3 o hs9 r hR i u v w m f ww hf hw hk hn)
    rw [if_neg h3] at hf
    by_cases h4 : z = 4
    · subst h4
      rw [if_pos rfl] at hf
      exact g_swI (tgt := 539) o dL_law_40 (by decide +kernel) (by decide +kernel) sw_4 rfl (b_law_c4 o hs9 r hR i u v w m f ww hf hw hk hn)
    rw [if_neg h4] at hf
    by_cases h5 : z = 5
    · subst h5
      rw [if_pos rfl] at hf
      exact g_swI (tgt := 614) o dL_law_40 (by decide +kernel) (by decide +kernel) sw_5 rfl (b_law_c5 o hs9 r hR i u v w m f ww hf hw hk hn)
    rw [if_neg h5] at hf
    by_cases h6 : z = 6
    · subst h6
      rw [if_pos rfl] at hf
      exact g_swI (tgt := 689) o dL_law_40 (by decide +kernel) (by decide +kernel) sw_6 rfl (b_law_c6 o hs9 r hR i u v w m f ww hf hw hk hn)
    rw [if_neg h6] at hf
    by_cases h7 : z = 7
    · subst h7
      rw [if_pos rfl] at hf
      exact g_swI (tgt := 745) o dL_law_40 (by decide +kernel) (by decide +kernel) sw_7 rfl (b_law_c7 o hs9 r hR i u v w m f ww hf hw hk hn)
    rw [if_neg h7] at hf
    by_cases h8 : z = 8
    · subst h8
      rw [if_pos rfl] at hf
      exact g_swI (tgt := 801) o dL_law_40 (by decide +kernel) (by decide +kernel) sw_8 rfl (b_law_c8 o hs9 r hR i u v w m f ww hf hw hk hn)
    rw [if_neg h8] at hf
    by_cases h9 : z = 9
    · subst h9
      rw [if_pos rfl] at hf
      exact g_swI (tgt := 814) o dL_law_40 (by decide +kernel) (by decide +kernel) sw_9 rfl (b_law_c9 o hs9 r hR i u v w m f ww hf hw hk hn)
    rw [if_neg h9] at hf
    by_cases h10 : z = 10
    · subst h10
      rw [if_pos rfl] at hf
      exact g_swI (tgt := 889) o dL_law_40 (by decide +kernel) (by decide +kernel) sw_10 rfl (b_law_c10 o hs9 r hR i u v w m f ww hf hw hk hn)
    rw [if_neg h10] at hf
    by_cases h11 : z = 11
    · subst h11
      rw [if_pos rfl] at hf
      exact g_swI (tgt := 902) o dL_law_40 (by decide +kernel) (by decide +kernel) sw_11 rfl (b_law_c11 o hs9 r hR i u v w m f ww hf hw hk hn)
    rw [if_neg h11] at hf
    by_cases h12 : z = 12
    · subst h12
      rw [if_pos rfl] at hf
      exact g_swI (tgt := 958) o dL_law_40 (by decide +kernel) (by decide +kernel) sw_12 rfl (b_law_c12 o hs9 r hR i u v w m f ww hf hw hk hn)
    rw [if_neg h12] at hf
    by_cases h13 : z = 13
    · subst h13
      rw [if_pos rfl] at hf
      exact g_swI (tgt := 1026) o dL_law_40 (by decide +kernel) (by decide +kernel) sw_13 rfl (b_law_c13 o hs9 r hR i u v w m f ww hf hw hk hn)
    rw [if_neg h13] at hf
    by_cases h14 : z = 14
    · subst h14
      rw [if_pos rfl] at hf
      exact g_swI (tgt := 1094) o dL_law_40 (by decide +kernel) (by decide +kernel) sw_14 rfl (b_law_c14 o hs9 r hR i u v w m f ww hf hw hk hn)
    rw [if_neg h14] at hf
    by_cases h15 : z = 15
    · subst h15
      rw [if_pos rfl] at hf
      exact g_swI (tgt := 1174) o dL_law_40 (by decide +kernel) (by decide +kernel) sw_15 rfl (b_law_c15 o hs9 r hR i u v w m f ww hf hw hk hn)
    rw [if_neg h15] at hf
    by_cases h16 : z = 16
    · subst h16
      rw [if_pos rfl] at hf
      exact g_swI (tgt := 1278) o dL_law_40 (by decide +kernel) (by decide +kernel) sw_16 rfl (b_law_c16 o hs9 r hR i u v w m f ww hf hw hk hn)
    rw [if_neg h16] at hf
    by_cases h17 : z = 17
    · subst h17
      rw [if_pos rfl] at hf
      exact g_swI (tgt := 1365) o dL_law_40 (by decide +kernel) (by decide +kernel) sw_17 rfl (b_law_c17 o hs9 r hR i u v w m f ww hf hw hk hn)
    rw [if_neg h17] at hf
    by_cases h18 : z = 18
    · subst h18
      rw [if_pos rfl] at hf
      exact g_swI (tgt := 1440) o dL_law_40 (by decide +kernel) (by decide +kernel) sw_18 rfl (b_law_c18 o hs9 r hR i u v w m f ww hf hw hk hn)
    rw [if_neg h18] at hf
    by_cases h19 : z = 19
    · subst h19
      rw [if_pos rfl] at hf
      exact g_swI (tgt := 1496) o dL_law_40 (by decide +kernel) (by decide +kernel) sw_19 rfl (b_law_c19 o hs9 r hR i u v w m f ww hf hw hk hn)
    rw [if_neg h19] at hf
    by_cases h20 : z = 20
    · subst h20
      rw [if_pos rfl] at hf
      exact g_swI (tgt := 1564) o dL_law_40 (by decide +kernel) (by decide +kernel) sw_20 rfl (b_law_c20 o hs9 r hR i u v w m f ww hf hw hk hn)
    rw [if_neg h20] at hf
    by_cases h21 : z = 21
    · subst h21
      rw [if_pos rfl] at hf
      exact g_swI (tgt := 1639) o dL_law_40 (by decide +kernel) (by decide +kernel) sw_21 rfl (b_law_c21 o hs9 r hR i u v w m f ww hf hw hk hn)
    rw [if_neg h21] at hf
    by_cases h22 : z = 22
    · subst h22
      rw [if_pos rfl] at hf
      exact g_swI (tgt := 1714) o dL_law_40 (by decide +kernel) (by decide +kernel) sw_22 rfl (b_law_c22 o hs9 r hR i u v w m f ww hf hw hk hn)
    rw [if_neg h22] at hf
    by_cases h23 : z = 23
    · subst h23
      rw [if_pos rfl] at hf
      exact g_swI (tgt := 1782) o dL_law_40 (by decide +kernel) (by decide +kernel) sw_23 rfl (b_law_c23 o hs9 r hR i u v w m f ww hf hw hk hn)
    rw [if_neg h23] at hf
    by_cases h24 : z = 24
    · subst h24
      rw [if_pos rfl] at hf
      exact g_swI (tgt := 1862) o dL_law_40 (by decide +kernel) (by decide +kernel) sw_24 rfl (b_law_c24 o hs9 r hR i u v w m f ww hf hw hk hn)
    rw [if_neg h24] at hf
    by_cases h25 : z = 25
    · subst h25
      rw [if_pos rfl] at hf
      exact g_swI (tgt := 1930) o dL_law_40 (by decide +kernel) (by decide +kernel) sw_25 rfl (b_law_c25 o hs9 r hR i u v w m f ww hf hw hk hn)
    rw [if_neg h25] at hf
    by_cases h26 : z = 26
    · subst h26
      rw [if_pos rfl] at hf
      exact g_swI (tgt := 2017) o dL_law_40 (by decide +kernel) (by decide +kernel) sw_26 rfl (b_law_c26 o hs9 r hR i u v w m f ww hf hw hk hn)
    rw [if_neg h26] at hf
    by_cases h27 : z = 27
    · subst h27
      rw [if_pos rfl] at hf
      exact g_swI (tgt := 2097) o dL_law_40 (by decide +kernel) (by decide +kernel) sw_27 rfl (b_law_c27 o hs9 r hR i u v w m f ww hf hw hk hn)
    rw [if_neg h27] at hf
    by_cases h28 : z = 28
    · subst h28
      rw [if_pos rfl] at hf
      exact g_swI (tgt := 2172) o dL_law_40 (by decide +kernel) (by decide +kernel) sw_28 rfl (b_law_c28 o hs9 r hR i u v w m f ww hf hw hk hn)
    rw [if_neg h28] at hf
    by_cases h29 : z = 29
    · subst h29
      rw [if_pos rfl] at hf
      exact g_swI (tgt := 2235) o dL_law_40 (by decide +kernel) (by decide +kernel) sw_29 rfl (b_law_c29 o hs9 r hR i u v w m f ww hf hw hk hn)
    rw [if_neg h29] at hf
    by_cases h30 : z = 30
    · subst h30
      rw [if_pos rfl] at hf
      exact g_swI (tgt := 2279) o dL_law_40 (by decide +kernel) (by decide +kernel) sw_30 rfl (b_law_c30 o hs9 r hR i u v w m f ww hf hw hk hn)
    rw [if_neg h30] at hf
    by_cases h31 : z = 31
    · subst h31
      rw [if_pos rfl] at hf
      exact g_swI (tgt := 2335) o dL_law_40 (by decide +kernel) (by decide +kernel) sw_31 rfl (b_law_c31 o hs9 r hR i u v w m f ww hf hw hk hn)
    rw [if_neg h31] at hf
    by_cases h32 : z = 32
    · subst h32
      rw [if_pos rfl] at hf
      exact g_swI (tgt := 2439) o dL_law_40 (by decide +kernel) (by decide +kernel) sw_32 rfl (b_law_c32 o hs9 r hR i u v w m f ww hf hw hk hn)
    rw [if_neg h32] at hf
    by_cases h33 : z = 33
    · subst h33
      rw [if_pos rfl] at hf
      exact g_swI (tgt := 2483) o dL_law_40 (by decide +kernel) (by decide +kernel) sw_33 rfl (b_law_c33 o hs9 r hR i u v w m f ww hf hw hk hn)
    rw [if_neg h33] at hf
    by_cases h34 : z = 34
    · subst h34
      rw [if_pos rfl] at hf
      exact g_swI (tgt := 2496) o dL_law_40 (by decide +kernel) (by decide +kernel) sw_34 rfl (b_law_c34 o hs9 r hR i u v w m f ww hf hw hk hn)
    rw [if_neg h34] at hf
    by_cases h35 : z = 35
    · subst h35
      rw [if_pos rfl] at hf
      exact g_swI (tgt := 2552) o dL_law_40 (by decide +kernel) (by decide +kernel) sw_35 rfl (b_law_c35 o hs9 r hR i u v w m f ww hf hw hk hn)
    rw [if_neg h35] at hf
    by_cases h36 : z = 36
    · subst h36
      rw [if_pos rfl] at hf
      exact g_swI (tgt := 2627) o dL_law_40 (by decide +kernel) (by decide +kernel) sw_36 rfl (b_law_c36 o hs9 r hR i u v w m f ww hf hw hk hn)
    rw [if_neg h36] at hf
    by_cases h37 : z = 37
    · subst h37
      rw [if_pos rfl] at hf
      exact g_swI (tgt := 2671) o dL_law_40 (by decide +kernel) (by decide +kernel) sw_37 rfl (b_law_c37 o hs9 r hR i u v w m f ww hf hw hk hn)
    rw [if_neg h37] at hf
    by_cases h38 : z = 38
    · subst h38
      rw [if_pos rfl] at hf
      exact g_swI (tgt := 2715) o dL_law_40 (by decide +kernel) (by decide +kernel) sw_38 rfl (b_law_c38 o hs9 r hR i u v w m f ww hf hw hk hn)
    rw [if_neg h38] at hf
    by_cases h39 : z = 39
    · subst h39
      rw [if_pos rfl] at hf
      exact g_swI (tgt := 2814) o dL_law_40 (by decide +kernel) (by decide +kernel) sw_39 rfl (b_law_c39 o hs9 r hR i u v w m f ww hf hw hk hn)
    rw [if_neg h39] at hf
    by_cases h40 : z = 40
    · subst h40
      rw [if_pos rfl] at hf
      exact g_swI (tgt := 2858) o dL_law_40 (by decide +kernel) (by decide +kernel) sw_40 rfl (b_law_c40 o hs9 r hR i u v w m f ww hf hw hk hn)
    rw [if_neg h40] at hf
    by_cases h41 : z = 41
    · subst h41
      rw [if_pos rfl] at hf
      exact g_swI (tgt := 2962) o dL_law_40 (by decide +kernel) (by decide +kernel) sw_41 rfl (b_law_c41 o hs9 r hR i u v w m f ww hf hw hk hn)
    rw [if_neg h41] at hf
    by_cases h42 : z = 42
    · subst h42
      rw [if_pos rfl] at hf
      exact g_swI (tgt := 3018) o dL_law_40 (by decide +kernel) (by decide +kernel) sw_42 rfl (b_law_c42 o hs9 r hR i u v w m f ww hf hw hk hn)
    rw [if_neg h42] at hf
    by_cases h43 : z = 43
    · subst h43
      rw [if_pos rfl] at hf
      exact g_swI (tgt := 3081) o dL_law_40 (by decide +kernel) (by decide +kernel) sw_43 rfl (b_law_c43 o hs9 r hR i u v w m f ww hf hw hk hn)
    rw [if_neg h43] at hf
    by_cases h44 : z = 44
    · subst h44
      rw [if_pos rfl] at hf
      exact g_swI (tgt := 3094) o dL_law_40 (by decide +kernel) (by decide +kernel) sw_44 rfl (b_law_c44 o hs9 r hR i u v w m f ww hf hw hk hn)
    rw [if_neg h44] at hf
    by_cases h45 : z = 45
    · subst h45
      rw [if_pos rfl] at hf
      exact g_swI (tgt := 3152) o dL_law_40 (by decide +kernel) (by decide +kernel) sw_45 rfl (b_law_c45 o hs9 r hR i u v w m f ww hf hw hk hn)
    rw [if_neg h45] at hf
    by_cases h46 : z = 46
    · subst h46
      rw [if_pos rfl] at hf
      exact g_swI (tgt := 3196) o dL_law_40 (by decide +kernel) (by decide +kernel) sw_46 rfl (b_law_c46 o hs9 r hR i u v w m f ww hf hw hk hn)
    rw [if_neg h46] at hf
    by_cases h47 : z = 47
    · subst h47
      rw [if_pos rfl] at hf
      exact g_swI (tgt := 3240) o dL_law_40 (by decide +kernel) (by decide +kernel) sw_47 rfl (b_law_c47 o hs9 r hR i u v w m f ww hf hw hk hn)
    rw [if_neg h47] at hf
    by_cases h48 : z = 48
    · subst h48
      rw [if_pos rfl] at hf
      exact g_swI (tgt := 3296) o dL_law_40 (by decide +kernel) (by decide +kernel) sw_48 rfl (b_law_c48 o hs9 r hR i u v w m f ww hf hw hk hn)
    rw [if_neg h48] at hf
    by_cases h49 : z = 49
    · subst h49
      rw [if_pos rfl] at hf
      exact g_swI (tgt := 3352) o dL_law_40 (by decide +kernel) (by decide +kernel) sw_49 rfl (b_law_c49 o hs9 r hR i u v w m f ww hf hw hk hn)
    rw [if_neg h49] at hf
    by_cases h50 : z = 50
    · subst h50
      rw [if_pos rfl] at hf
      exact g_swI (tgt := 3432) o dL_law_40 (by decide +kernel) (by decide +kernel) sw_50 rfl (b_law_c50 o hs9 r hR i u v w m f ww hf hw hk hn)
    rw [if_neg h50] at hf
    by_cases h51 : z = 51
    · subst h51
      rw [if_pos rfl] at hf
      exact g_swI (tgt := 3535) o dL_law_40 (by decide +kernel) (by decide +kernel) sw_51 rfl (b_law_c51 o hs9 r hR i u v w m f ww hf hw hk hn)
    rw [if_neg h51] at hf
    by_cases h52 : z = 52
    · subst h52
      rw [if_pos rfl] at hf
      exact g_swI (tgt := 3603) o dL_law_40 (by decide +kernel) (by decide +kernel) sw_52 rfl (b_law_c52 o hs9 r hR i u v w m f ww hf hw hk hn)
    rw [if_neg h52] at hf
    by_cases h53 : z = 53
    · subst h53
      rw [if_pos rfl] at hf
      exact g_swI (tgt := 3616) o dL_law_40 (by decide +kernel) (by decide +kernel) sw_53 rfl (b_law_c53 o hs9 r hR i u v w m f ww hf hw hk hn)
    rw [if_neg h53] at hf
    refine g_swO (tgt := 3660) o dL_law_40 ?_ rfl (b_law_c54 o hs9 r hR i u v w m f ww hf hw hk hn)
    exact sw_out h0 h1 h2 h3 h4 h5 h6 h7 h8 h9 h10 h11 h12 h13 h14 h15 h16 h17 h18 h19 h20 h21 h22 h23 h24 h25 h26 h27 h28 h29 h30 h31 h32 h33 h34 h35 h36 h37 h38 h39 h40 h41 h42 h43 h44 h45 h46 h47 h48 h49 h50 h51 h52 h53
