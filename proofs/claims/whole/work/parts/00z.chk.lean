/-! the checks, by the kernel -/
theorem chk_L1 : ctL1.all (fun c => chk 1 false c && chO 1 c) = true := by decide +kernel
theorem chk_L2 : ctL2.all (fun c => chk 2 false c && chO 2 c) = true := by decide +kernel
theorem chk_L3 : ctL3.all (fun c => chk 3 false c && chO 3 c) = true := by decide +kernel
theorem chk_L4 : ctL4.all (fun c => chk 4 false c && chO 4 c) = true := by decide +kernel
theorem chk_L5 : ctL5.all (fun c => chk 5 false c && chO 5 c) = true := by decide +kernel
theorem chk_D1 : ctD1.all (fun c => chk 1 true c && chO 1 c) = true := by decide +kernel
theorem chk_D2 : ctD2.all (fun c => chk 2 true c && chO 2 c) = true := by decide +kernel
theorem chk_D3 : ctD3.all (fun c => chk 3 true c && chO 3 c) = true := by decide +kernel
theorem chk_D4 : ctD4.all (fun c => chk 4 true c && chO 4 c) = true := by decide +kernel
theorem chk_L6_0 : ((ctL6.drop 0).take 12).all (fun c => chk 6 false c && chO 6 c) = true := by decide +kernel
theorem chk_L6_1 : ((ctL6.drop 12).take 12).all (fun c => chk 6 false c && chO 6 c) = true := by decide +kernel
theorem chk_L6_2 : ((ctL6.drop 24).take 12).all (fun c => chk 6 false c && chO 6 c) = true := by decide +kernel
theorem chk_L6_3 : ((ctL6.drop 36).take 12).all (fun c => chk 6 false c && chO 6 c) = true := by decide +kernel
theorem chk_L6_4 : ((ctL6.drop 48).take 12).all (fun c => chk 6 false c && chO 6 c) = true := by decide +kernel
theorem chk_L6_5 : ((ctL6.drop 60).take 12).all (fun c => chk 6 false c && chO 6 c) = true := by decide +kernel
theorem chk_L6_6 : ((ctL6.drop 72).take 12).all (fun c => chk 6 false c && chO 6 c) = true := by decide +kernel
theorem chk_L6_7 : ((ctL6.drop 84).take 12).all (fun c => chk 6 false c && chO 6 c) = true := by decide +kernel
theorem chk_L6_8 : ((ctL6.drop 96).take 12).all (fun c => chk 6 false c && chO 6 c) = true := by decide +kernel
theorem chk_L6_9 : ((ctL6.drop 108).take 12).all (fun c => chk 6 false c && chO 6 c) = true := by decide +kernel
theorem chk_L6_10 : ((ctL6.drop 120).take 12).all (fun c => chk 6 false c && chO 6 c) = true := by decide +kernel
theorem chk_L6_11 : ((ctL6.drop 132).take 12).all (fun c => chk 6 false c && chO 6 c) = true := by decide +kernel
theorem chk_L6_12 : ((ctL6.drop 144).take 12).all (fun c => chk 6 false c && chO 6 c) = true := by decide +kernel
theorem chk_D5_0 : ((ctD5.drop 0).take 34).all (fun c => chk 5 true c && chO 5 c) = true := by decide +kernel
theorem chk_D5_1 : ((ctD5.drop 34).take 34).all (fun c => chk 5 true c && chO 5 c) = true := by decide +kernel
theorem chk_D5_2 : ((ctD5.drop 68).take 34).all (fun c => chk 5 true c && chO 5 c) = true := by decide +kernel
theorem chk_D5_3 : ((ctD5.drop 102).take 34).all (fun c => chk 5 true c && chO 5 c) = true := by decide +kernel
theorem chk_D5_4 : ((ctD5.drop 136).take 34).all (fun c => chk 5 true c && chO 5 c) = true := by decide +kernel
theorem chk_D5_5 : ((ctD5.drop 170).take 34).all (fun c => chk 5 true c && chO 5 c) = true := by decide +kernel
theorem chk_D5_6 : ((ctD5.drop 204).take 34).all (fun c => chk 5 true c && chO 5 c) = true := by decide +kernel
theorem chk_D5_7 : ((ctD5.drop 238).take 34).all (fun c => chk 5 true c && chO 5 c) = true := by decide +kernel
theorem chk_D5_8 : ((ctD5.drop 272).take 34).all (fun c => chk 5 true c && chO 5 c) = true := by decide +kernel
theorem chk_D5_9 : ((ctD5.drop 306).take 34).all (fun c => chk 5 true c && chO 5 c) = true := by decide +kernel
theorem chk_D5_10 : ((ctD5.drop 340).take 34).all (fun c => chk 5 true c && chO 5 c) = true := by decide +kernel
theorem chk_D5_11 : ((ctD5.drop 374).take 34).all (fun c => chk 5 true c && chO 5 c) = true := by decide +kernel
theorem chk_D5_12 : ((ctD5.drop 408).take 34).all (fun c => chk 5 true c && chO 5 c) = true := by decide +kernel
theorem chk_D5_13 : ((ctD5.drop 442).take 34).all (fun c => chk 5 true c && chO 5 c) = true := by decide +kernel
theorem chk_D5_14 : ((ctD5.drop 476).take 34).all (fun c => chk 5 true c && chO 5 c) = true := by decide +kernel
theorem chk_D5_15 : ((ctD5.drop 510).take 34).all (fun c => chk 5 true c && chO 5 c) = true := by decide +kernel
