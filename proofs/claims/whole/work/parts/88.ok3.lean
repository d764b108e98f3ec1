/-! THE TABLES TELL THE TRUTH (calls, throws). -/
set_option maxRecDepth 20000 in
theorem tb_eall : mm_allL (fun q : ByteArray × List (Nat × Instr) => ∀ r ∈ q.2, decode q.1 r.1 = .ok (r.2, mm_ln r.2)) tb_KX := ⟨tb_e0, tb_e1, tb_e2, tb_e3, tb_e4, tb_e5, tb_e6, tb_e7, tb_e8, tb_e9, tb_e10, tb_e11, tb_e12, tb_e13, tb_e14, tb_e15, tb_e16, tb_e17, tb_e18, tb_e19, tb_e20, tb_e21, tb_e22, tb_e23, tb_e24, tb_e25, tb_e26, tb_e27, tb_e28, tb_e29, tb_e30, tb_e31, tb_e32, tb_e33, tb_e34, tb_e35, tb_e36, tb_e37, tb_e38, tb_e39, tb_e40, tb_e41, tb_e42, tb_e43, tb_e44, tb_e45, tb_e46, tb_e47, tb_e48, tb_e49, tb_e50, tb_e51, tb_e52, tb_e53, tb_e54, tb_e55, tb_e56, tb_e57, tb_e58, tb_e59, tb_e60, tb_e61, tb_e62, tb_e63, tb_e64, tb_e65, tb_e66, tb_e67, tb_e68, tb_e69, tb_e70, tb_e71, tb_e72, tb_e73, tb_e74, tb_e75, tb_e76, tb_e77, tb_e78, tb_e79, tb_e80, tb_e81, tb_e82, tb_e83, tb_e84, tb_e85, tb_e86, tb_e87, tb_e88, tb_e89, tb_e90, tb_e91, tb_e92, tb_e93, tb_e94, tb_e95, tb_e96, tb_e97, tb_e98, tb_e99, tb_e100, tb_e101, tb_e102, tb_e103, tb_e104, tb_e105, tb_e106, tb_e107, tb_e108, tb_e109, tb_e110, tb_e111, tb_e112, tb_e113, tb_e114, tb_e115, tb_e116, tb_e117, tb_e118, tb_e119, tb_e120, tb_e121, tb_e122, tb_e123, tb_e124, tb_e125, tb_e126, tb_e127, tb_e128, tb_e129, tb_e130, tb_e131, tb_e132, tb_e133, tb_e134, tb_e135, tb_e136, tb_e137, tb_e138, tb_e139, tb_e140, tb_e141, tb_e142, tb_e143, tb_e144, tb_e145, tb_e146, tb_e147, tb_e148, tb_e149, tb_e150, tb_e151, tb_e152, tb_e153, tb_e154, tb_e155, tb_e156, tb_e157, tb_e158, tb_e159, tb_e160, tb_e161, tb_e162, tb_e163, tb_e164, tb_e165, tb_e166, tb_e167, tb_e168, tb_e169, tb_e170, tb_e171, tb_e172, tb_e173, tb_e174, tb_e175, tb_e176, tb_e177, tb_e178, tb_e179, tb_e180, tb_e181, tb_e182, tb_e183, tb_e184, tb_e185, tb_e186, tb_e187, tb_e188, tb_e189, tb_e190, tb_e191, tb_e192, tb_e193, tb_e194, tb_e195, tb_e196, tb_e197, tb_e198, tb_e199, tb_e200, tb_e201, tb_e202, tb_e203, tb_e204, tb_e205, tb_e206, tb_e207, tb_e208, tb_e209, tb_e210, tb_e211, tb_e212, tb_e213, tb_e214, tb_e215, tb_e216, tb_e217, tb_e218, tb_e219, tb_e220, tb_e221, tb_e222, tb_e223, tb_e224, tb_e225, tb_e226, tb_e227, tb_e228, tb_e229, tb_e230, tb_e231, tb_e232, tb_e233, tb_e234, tb_e235, tb_e236, tb_e237, tb_e238, tb_e239, tb_e240, tb_e241, tb_e242, tb_e243, tb_e244, tb_e245, tb_e246, tb_e247, tb_e248, tb_e249, tb_e250, tb_e251, tb_e252, tb_e253, tb_e254, tb_e255, tb_e256, tb_e257, tb_e258, tb_e259, tb_e260, tb_e261, tb_e262, tb_e263, tb_e264, tb_e265, tb_e266, tb_e267, tb_e268, tb_e269, tb_e270, tb_e271, tb_e272, tb_e273, tb_e274, tb_e275, tb_e276, tb_e277, tb_e278, tb_e279, tb_e280, tb_e281, tb_e282, tb_e283, tb_e284, tb_e285, tb_e286, tb_e287, tb_e288, tb_e289, tb_e290, tb_e291, tb_e292, tb_e293, tb_e294, tb_e295, tb_e296, tb_e297, tb_e298, tb_e299, tb_e300, tb_e301, tb_e302, tb_e303, tb_e304, tb_e305, tb_e306, tb_e307, tb_e308, tb_e309, tb_e310, tb_e311, tb_e312, tb_e313, tb_e314, tb_e315, tb_e316, tb_e317, tb_e318, tb_e319, tb_e320, tb_e321, tb_e322, tb_e323, tb_e324, tb_e325, tb_e326, tb_e327, tb_e328, tb_e329, tb_e330, tb_e331, tb_e332, tb_e333, tb_e334, tb_e335, tb_e336, tb_e337, tb_e338, tb_e339, tb_e340, tb_e341, tb_e342, tb_e343, tb_e344, tb_e345, tb_e346, tb_e347, tb_e348, tb_e349, tb_e350, tb_e351, tb_e352, tb_e353, tb_e354, tb_e355, tb_e356, tb_e357, tb_e358, tb_e359, tb_e360, tb_e361, tb_e362, tb_e363, tb_e364, tb_e365, tb_e366, tb_e367, tb_e368, tb_e369, tb_e370, tb_e371, tb_e372, tb_e373, tb_e374, tb_e375, tb_e376, tb_e377, tb_e378, tb_e379, trivial⟩
theorem tb_dec (k : Nat) (q : Nat × Instr) (h : q ∈ tb_kd k) : decode (tb_kb k) q.1 = .ok (q.2, mm_ln q.2) := by
  unfold tb_kd at h
  unfold tb_kb
  cases hk : tb_KX[k]? with
  | none => rw [hk] at h; exact (List.not_mem_nil h).elim
  | some r => rw [hk] at h; exact mm_allL_mem tb_eall r (List.mem_of_getElem? hk) q h
theorem tb_s0 : mm_allL (fun q => mm_swc (tb_kb 0) q.1 q.2 = true) ((tb_SW[0]?).getD []) := ⟨by decide +kernel, trivial⟩
theorem tb_s1 : mm_allL (fun q => mm_swc (tb_kb 1) q.1 q.2 = true) ((tb_SW[1]?).getD []) := trivial
theorem tb_s2 : mm_allL (fun q => mm_swc (tb_kb 2) q.1 q.2 = true) ((tb_SW[2]?).getD []) := trivial
theorem tb_s3 : mm_allL (fun q => mm_swc (tb_kb 3) q.1 q.2 = true) ((tb_SW[3]?).getD []) := trivial
theorem tb_s4 : mm_allL (fun q => mm_swc (tb_kb 4) q.1 q.2 = true) ((tb_SW[4]?).getD []) := trivial
theorem tb_s5 : mm_allL (fun q => mm_swc (tb_kb 5) q.1 q.2 = true) ((tb_SW[5]?).getD []) := trivial
theorem tb_s6 : mm_allL (fun q => mm_swc (tb_kb 6) q.1 q.2 = true) ((tb_SW[6]?).getD []) := trivial
theorem tb_s7 : mm_allL (fun q => mm_swc (tb_kb 7) q.1 q.2 = true) ((tb_SW[7]?).getD []) := trivial
theorem tb_s8 : mm_allL (fun q => mm_swc (tb_kb 8) q.1 q.2 = true) ((tb_SW[8]?).getD []) := trivial
theorem tb_s9 : mm_allL (fun q => mm_swc (tb_kb 9) q.1 q.2 = true) ((tb_SW[9]?).getD []) := trivial
theorem tb_s10 : mm_allL (fun q => mm_swc (tb_kb 10) q.1 q.2 = true) ((tb_SW[10]?).getD []) := trivial
theorem tb_s11 : mm_allL (fun q => mm_swc (tb_kb 11) q.1 q.2 = true) ((tb_SW[11]?).getD []) := trivial
theorem tb_s12 : mm_allL (fun q => mm_swc (tb_kb 12) q.1 q.2 = true) ((tb_SW[12]?).getD []) := trivial
theorem tb_s13 : mm_allL (fun q => mm_swc (tb_kb 13) q.1 q.2 = true) ((tb_SW[13]?).getD []) := trivial
theorem tb_s14 : mm_allL (fun q => mm_swc (tb_kb 14) q.1 q.2 = true) ((tb_SW[14]?).getD []) := trivial
theorem tb_s15 : mm_allL (fun q => mm_swc (tb_kb 15) q.1 q.2 = true) ((tb_SW[15]?).getD []) := trivial
theorem tb_s16 : mm_allL (fun q => mm_swc (tb_kb 16) q.1 q.2 = true) ((tb_SW[16]?).getD []) := trivial
theorem tb_s17 : mm_allL (fun q => mm_swc (tb_kb 17) q.1 q.2 = true) ((tb_SW[17]?).getD []) := trivial
theorem tb_s18 : mm_allL (fun q => mm_swc (tb_kb 18) q.1 q.2 = true) ((tb_SW[18]?).getD []) := trivial
theorem tb_s19 : mm_allL (fun q => mm_swc (tb_kb 19) q.1 q.2 = true) ((tb_SW[19]?).getD []) := trivial
theorem tb_s20 : mm_allL (fun q => mm_swc (tb_kb 20) q.1 q.2 = true) ((tb_SW[20]?).getD []) := trivial
theorem tb_s21 : mm_allL (fun q => mm_swc (tb_kb 21) q.1 q.2 = true) ((tb_SW[21]?).getD []) := trivial
theorem tb_s22 : mm_allL (fun q => mm_swc (tb_kb 22) q.1 q.2 = true) ((tb_SW[22]?).getD []) := trivial
theorem tb_s23 : mm_allL (fun q => mm_swc (tb_kb 23) q.1 q.2 = true) ((tb_SW[23]?).getD []) := trivial
theorem tb_s24 : mm_allL (fun q => mm_swc (tb_kb 24) q.1 q.2 = true) ((tb_SW[24]?).getD []) := trivial
theorem tb_s25 : mm_allL (fun q => mm_swc (tb_kb 25) q.1 q.2 = true) ((tb_SW[25]?).getD []) := trivial
theorem tb_s26 : mm_allL (fun q => mm_swc (tb_kb 26) q.1 q.2 = true) ((tb_SW[26]?).getD []) := trivial
theorem tb_s27 : mm_allL (fun q => mm_swc (tb_kb 27) q.1 q.2 = true) ((tb_SW[27]?).getD []) := trivial
theorem tb_s28 : mm_allL (fun q => mm_swc (tb_kb 28) q.1 q.2 = true) ((tb_SW[28]?).getD []) := trivial
theorem tb_s29 : mm_allL (fun q => mm_swc (tb_kb 29) q.1 q.2 = true) ((tb_SW[29]?).getD []) := trivial
theorem tb_s30 : mm_allL (fun q => mm_swc (tb_kb 30) q.1 q.2 = true) ((tb_SW[30]?).getD []) := trivial
theorem tb_s31 : mm_allL (fun q => mm_swc (tb_kb 31) q.1 q.2 = true) ((tb_SW[31]?).getD []) := trivial
theorem tb_s32 : mm_allL (fun q => mm_swc (tb_kb 32) q.1 q.2 = true) ((tb_SW[32]?).getD []) := trivial
theorem tb_s33 : mm_allL (fun q => mm_swc (tb_kb 33) q.1 q.2 = true) ((tb_SW[33]?).getD []) := trivial
theorem tb_s34 : mm_allL (fun q => mm_swc (tb_kb 34) q.1 q.2 = true) ((tb_SW[34]?).getD []) := trivial
theorem tb_s35 : mm_allL (fun q => mm_swc (tb_kb 35) q.1 q.2 = true) ((tb_SW[35]?).getD []) := trivial
theorem tb_s36 : mm_allL (fun q => mm_swc (tb_kb 36) q.1 q.2 = true) ((tb_SW[36]?).getD []) := trivial
theorem tb_s37 : mm_allL (fun q => mm_swc (tb_kb 37) q.1 q.2 = true) ((tb_SW[37]?).getD []) := trivial
theorem tb_s38 : mm_allL (fun q => mm_swc (tb_kb 38) q.1 q.2 = true) ((tb_SW[38]?).getD []) := trivial
theorem tb_s39 : mm_allL (fun q => mm_swc (tb_kb 39) q.1 q.2 = true) ((tb_SW[39]?).getD []) := trivial
theorem tb_s40 : mm_allL (fun q => mm_swc (tb_kb 40) q.1 q.2 = true) ((tb_SW[40]?).getD []) := trivial
theorem tb_s41 : mm_allL (fun q => mm_swc (tb_kb 41) q.1 q.2 = true) ((tb_SW[41]?).getD []) := trivial
theorem tb_s42 : mm_allL (fun q => mm_swc (tb_kb 42) q.1 q.2 = true) ((tb_SW[42]?).getD []) := trivial
theorem tb_s43 : mm_allL (fun q => mm_swc (tb_kb 43) q.1 q.2 = true) ((tb_SW[43]?).getD []) := trivial
theorem tb_s44 : mm_allL (fun q => mm_swc (tb_kb 44) q.1 q.2 = true) ((tb_SW[44]?).getD []) := trivial
theorem tb_s45 : mm_allL (fun q => mm_swc (tb_kb 45) q.1 q.2 = true) ((tb_SW[45]?).getD []) := ⟨by decide +kernel, trivial⟩
theorem tb_s46 : mm_allL (fun q => mm_swc (tb_kb 46) q.1 q.2 = true) ((tb_SW[46]?).getD []) := trivial
theorem tb_s47 : mm_allL (fun q => mm_swc (tb_kb 47) q.1 q.2 = true) ((tb_SW[47]?).getD []) := trivial
theorem tb_s48 : mm_allL (fun q => mm_swc (tb_kb 48) q.1 q.2 = true) ((tb_SW[48]?).getD []) := trivial
theorem tb_s49 : mm_allL (fun q => mm_swc (tb_kb 49) q.1 q.2 = true) ((tb_SW[49]?).getD []) := trivial
theorem tb_s50 : mm_allL (fun q => mm_swc (tb_kb 50) q.1 q.2 = true) ((tb_SW[50]?).getD []) := ⟨by decide +kernel, trivial⟩
theorem tb_s51 : mm_allL (fun q => mm_swc (tb_kb 51) q.1 q.2 = true) ((tb_SW[51]?).getD []) := trivial
theorem tb_s52 : mm_allL (fun q => mm_swc (tb_kb 52) q.1 q.2 = true) ((tb_SW[52]?).getD []) := trivial
theorem tb_s53 : mm_allL (fun q => mm_swc (tb_kb 53) q.1 q.2 = true) ((tb_SW[53]?).getD []) := ⟨by decide +kernel, trivial⟩
theorem tb_s54 : mm_allL (fun q => mm_swc (tb_kb 54) q.1 q.2 = true) ((tb_SW[54]?).getD []) := trivial
theorem tb_s55 : mm_allL (fun q => mm_swc (tb_kb 55) q.1 q.2 = true) ((tb_SW[55]?).getD []) := trivial
theorem tb_s56 : mm_allL (fun q => mm_swc (tb_kb 56) q.1 q.2 = true) ((tb_SW[56]?).getD []) := trivial
theorem tb_s57 : mm_allL (fun q => mm_swc (tb_kb 57) q.1 q.2 = true) ((tb_SW[57]?).getD []) := trivial
theorem tb_s58 : mm_allL (fun q => mm_swc (tb_kb 58) q.1 q.2 = true) ((tb_SW[58]?).getD []) := trivial
theorem tb_s59 : mm_allL (fun q => mm_swc (tb_kb 59) q.1 q.2 = true) ((tb_SW[59]?).getD []) := trivial
theorem tb_s60 : mm_allL (fun q => mm_swc (tb_kb 60) q.1 q.2 = true) ((tb_SW[60]?).getD []) := trivial
theorem tb_s61 : mm_allL (fun q => mm_swc (tb_kb 61) q.1 q.2 = true) ((tb_SW[61]?).getD []) := trivial
theorem tb_s62 : mm_allL (fun q => mm_swc (tb_kb 62) q.1 q.2 = true) ((tb_SW[62]?).getD []) := trivial
theorem tb_s63 : mm_allL (fun q => mm_swc (tb_kb 63) q.1 q.2 = true) ((tb_SW[63]?).getD []) := trivial
theorem tb_s64 : mm_allL (fun q => mm_swc (tb_kb 64) q.1 q.2 = true) ((tb_SW[64]?).getD []) := trivial
theorem tb_s65 : mm_allL (fun q => mm_swc (tb_kb 65) q.1 q.2 = true) ((tb_SW[65]?).getD []) := trivial
theorem tb_s66 : mm_allL (fun q => mm_swc (tb_kb 66) q.1 q.2 = true) ((tb_SW[66]?).getD []) := trivial
theorem tb_s67 : mm_allL (fun q => mm_swc (tb_kb 67) q.1 q.2 = true) ((tb_SW[67]?).getD []) := trivial
theorem tb_s68 : mm_allL (fun q => mm_swc (tb_kb 68) q.1 q.2 = true) ((tb_SW[68]?).getD []) := trivial
theorem tb_s69 : mm_allL (fun q => mm_swc (tb_kb 69) q.1 q.2 = true) ((tb_SW[69]?).getD []) := trivial
theorem tb_s70 : mm_allL (fun q => mm_swc (tb_kb 70) q.1 q.2 = true) ((tb_SW[70]?).getD []) := trivial
theorem tb_s71 : mm_allL (fun q => mm_swc (tb_kb 71) q.1 q.2 = true) ((tb_SW[71]?).getD []) := trivial
theorem tb_s72 : mm_allL (fun q => mm_swc (tb_kb 72) q.1 q.2 = true) ((tb_SW[72]?).getD []) := trivial
theorem tb_s73 : mm_allL (fun q => mm_swc (tb_kb 73) q.1 q.2 = true) ((tb_SW[73]?).getD []) := trivial
theorem tb_s74 : mm_allL (fun q => mm_swc (tb_kb 74) q.1 q.2 = true) ((tb_SW[74]?).getD []) := trivial
theorem tb_s75 : mm_allL (fun q => mm_swc (tb_kb 75) q.1 q.2 = true) ((tb_SW[75]?).getD []) := trivial
theorem tb_s76 : mm_allL (fun q => mm_swc (tb_kb 76) q.1 q.2 = true) ((tb_SW[76]?).getD []) := trivial
theorem tb_s77 : mm_allL (fun q => mm_swc (tb_kb 77) q.1 q.2 = true) ((tb_SW[77]?).getD []) := trivial
theorem tb_s78 : mm_allL (fun q => mm_swc (tb_kb 78) q.1 q.2 = true) ((tb_SW[78]?).getD []) := trivial
theorem tb_s79 : mm_allL (fun q => mm_swc (tb_kb 79) q.1 q.2 = true) ((tb_SW[79]?).getD []) := ⟨by decide +kernel, trivial⟩
theorem tb_s80 : mm_allL (fun q => mm_swc (tb_kb 80) q.1 q.2 = true) ((tb_SW[80]?).getD []) := trivial
theorem tb_s81 : mm_allL (fun q => mm_swc (tb_kb 81) q.1 q.2 = true) ((tb_SW[81]?).getD []) := trivial
theorem tb_s82 : mm_allL (fun q => mm_swc (tb_kb 82) q.1 q.2 = true) ((tb_SW[82]?).getD []) := trivial
theorem tb_s83 : mm_allL (fun q => mm_swc (tb_kb 83) q.1 q.2 = true) ((tb_SW[83]?).getD []) := trivial
theorem tb_s84 : mm_allL (fun q => mm_swc (tb_kb 84) q.1 q.2 = true) ((tb_SW[84]?).getD []) := trivial
theorem tb_s85 : mm_allL (fun q => mm_swc (tb_kb 85) q.1 q.2 = true) ((tb_SW[85]?).getD []) := trivial
theorem tb_s86 : mm_allL (fun q => mm_swc (tb_kb 86) q.1 q.2 = true) ((tb_SW[86]?).getD []) := trivial
theorem tb_s87 : mm_allL (fun q => mm_swc (tb_kb 87) q.1 q.2 = true) ((tb_SW[87]?).getD []) := ⟨by decide +kernel, trivial⟩
theorem tb_s88 : mm_allL (fun q => mm_swc (tb_kb 88) q.1 q.2 = true) ((tb_SW[88]?).getD []) := trivial
theorem tb_s89 : mm_allL (fun q => mm_swc (tb_kb 89) q.1 q.2 = true) ((tb_SW[89]?).getD []) := trivial
theorem tb_s90 : mm_allL (fun q => mm_swc (tb_kb 90) q.1 q.2 = true) ((tb_SW[90]?).getD []) := trivial
theorem tb_s91 : mm_allL (fun q => mm_swc (tb_kb 91) q.1 q.2 = true) ((tb_SW[91]?).getD []) := trivial
theorem tb_s92 : mm_allL (fun q => mm_swc (tb_kb 92) q.1 q.2 = true) ((tb_SW[92]?).getD []) := trivial
theorem tb_s93 : mm_allL (fun q => mm_swc (tb_kb 93) q.1 q.2 = true) ((tb_SW[93]?).getD []) := trivial
theorem tb_s94 : mm_allL (fun q => mm_swc (tb_kb 94) q.1 q.2 = true) ((tb_SW[94]?).getD []) := trivial
theorem tb_s95 : mm_allL (fun q => mm_swc (tb_kb 95) q.1 q.2 = true) ((tb_SW[95]?).getD []) := trivial
theorem tb_s96 : mm_allL (fun q => mm_swc (tb_kb 96) q.1 q.2 = true) ((tb_SW[96]?).getD []) := trivial
theorem tb_s97 : mm_allL (fun q => mm_swc (tb_kb 97) q.1 q.2 = true) ((tb_SW[97]?).getD []) := trivial
theorem tb_s98 : mm_allL (fun q => mm_swc (tb_kb 98) q.1 q.2 = true) ((tb_SW[98]?).getD []) := trivial
theorem tb_s99 : mm_allL (fun q => mm_swc (tb_kb 99) q.1 q.2 = true) ((tb_SW[99]?).getD []) := trivial
theorem tb_s100 : mm_allL (fun q => mm_swc (tb_kb 100) q.1 q.2 = true) ((tb_SW[100]?).getD []) := trivial
theorem tb_s101 : mm_allL (fun q => mm_swc (tb_kb 101) q.1 q.2 = true) ((tb_SW[101]?).getD []) := trivial
theorem tb_s102 : mm_allL (fun q => mm_swc (tb_kb 102) q.1 q.2 = true) ((tb_SW[102]?).getD []) := trivial
theorem tb_s103 : mm_allL (fun q => mm_swc (tb_kb 103) q.1 q.2 = true) ((tb_SW[103]?).getD []) := trivial
theorem tb_s104 : mm_allL (fun q => mm_swc (tb_kb 104) q.1 q.2 = true) ((tb_SW[104]?).getD []) := trivial
theorem tb_s105 : mm_allL (fun q => mm_swc (tb_kb 105) q.1 q.2 = true) ((tb_SW[105]?).getD []) := trivial
theorem tb_s106 : mm_allL (fun q => mm_swc (tb_kb 106) q.1 q.2 = true) ((tb_SW[106]?).getD []) := trivial
theorem tb_s107 : mm_allL (fun q => mm_swc (tb_kb 107) q.1 q.2 = true) ((tb_SW[107]?).getD []) := trivial
theorem tb_s108 : mm_allL (fun q => mm_swc (tb_kb 108) q.1 q.2 = true) ((tb_SW[108]?).getD []) := trivial
theorem tb_s109 : mm_allL (fun q => mm_swc (tb_kb 109) q.1 q.2 = true) ((tb_SW[109]?).getD []) := ⟨by decide +kernel, trivial⟩
theorem tb_s110 : mm_allL (fun q => mm_swc (tb_kb 110) q.1 q.2 = true) ((tb_SW[110]?).getD []) := trivial
theorem tb_s111 : mm_allL (fun q => mm_swc (tb_kb 111) q.1 q.2 = true) ((tb_SW[111]?).getD []) := trivial
theorem tb_s112 : mm_allL (fun q => mm_swc (tb_kb 112) q.1 q.2 = true) ((tb_SW[112]?).getD []) := trivial
theorem tb_s113 : mm_allL (fun q => mm_swc (tb_kb 113) q.1 q.2 = true) ((tb_SW[113]?).getD []) := trivial
theorem tb_s114 : mm_allL (fun q => mm_swc (tb_kb 114) q.1 q.2 = true) ((tb_SW[114]?).getD []) := trivial
theorem tb_s115 : mm_allL (fun q => mm_swc (tb_kb 115) q.1 q.2 = true) ((tb_SW[115]?).getD []) := ⟨by decide +kernel, trivial⟩
theorem tb_s116 : mm_allL (fun q => mm_swc (tb_kb 116) q.1 q.2 = true) ((tb_SW[116]?).getD []) := trivial
theorem tb_s117 : mm_allL (fun q => mm_swc (tb_kb 117) q.1 q.2 = true) ((tb_SW[117]?).getD []) := trivial
theorem tb_s118 : mm_allL (fun q => mm_swc (tb_kb 118) q.1 q.2 = true) ((tb_SW[118]?).getD []) := trivial
theorem tb_s119 : mm_allL (fun q => mm_swc (tb_kb 119) q.1 q.2 = true) ((tb_SW[119]?).getD []) := trivial
theorem tb_s120 : mm_allL (fun q => mm_swc (tb_kb 120) q.1 q.2 = true) ((tb_SW[120]?).getD []) := trivial
theorem tb_s121 : mm_allL (fun q => mm_swc (tb_kb 121) q.1 q.2 = true) ((tb_SW[121]?).getD []) := trivial
theorem tb_s122 : mm_allL (fun q => mm_swc (tb_kb 122) q.1 q.2 = true) ((tb_SW[122]?).getD []) := trivial
theorem tb_s123 : mm_allL (fun q => mm_swc (tb_kb 123) q.1 q.2 = true) ((tb_SW[123]?).getD []) := ⟨by decide +kernel, trivial⟩
theorem tb_s124 : mm_allL (fun q => mm_swc (tb_kb 124) q.1 q.2 = true) ((tb_SW[124]?).getD []) := trivial
theorem tb_s125 : mm_allL (fun q => mm_swc (tb_kb 125) q.1 q.2 = true) ((tb_SW[125]?).getD []) := ⟨by decide +kernel, trivial⟩
theorem tb_s126 : mm_allL (fun q => mm_swc (tb_kb 126) q.1 q.2 = true) ((tb_SW[126]?).getD []) := trivial
theorem tb_s127 : mm_allL (fun q => mm_swc (tb_kb 127) q.1 q.2 = true) ((tb_SW[127]?).getD []) := trivial
theorem tb_s128 : mm_allL (fun q => mm_swc (tb_kb 128) q.1 q.2 = true) ((tb_SW[128]?).getD []) := trivial
theorem tb_s129 : mm_allL (fun q => mm_swc (tb_kb 129) q.1 q.2 = true) ((tb_SW[129]?).getD []) := trivial
theorem tb_s130 : mm_allL (fun q => mm_swc (tb_kb 130) q.1 q.2 = true) ((tb_SW[130]?).getD []) := trivial
theorem tb_s131 : mm_allL (fun q => mm_swc (tb_kb 131) q.1 q.2 = true) ((tb_SW[131]?).getD []) := trivial
theorem tb_s132 : mm_allL (fun q => mm_swc (tb_kb 132) q.1 q.2 = true) ((tb_SW[132]?).getD []) := trivial
theorem tb_s133 : mm_allL (fun q => mm_swc (tb_kb 133) q.1 q.2 = true) ((tb_SW[133]?).getD []) := trivial
theorem tb_s134 : mm_allL (fun q => mm_swc (tb_kb 134) q.1 q.2 = true) ((tb_SW[134]?).getD []) := trivial
theorem tb_s135 : mm_allL (fun q => mm_swc (tb_kb 135) q.1 q.2 = true) ((tb_SW[135]?).getD []) := trivial
theorem tb_s136 : mm_allL (fun q => mm_swc (tb_kb 136) q.1 q.2 = true) ((tb_SW[136]?).getD []) := trivial
theorem tb_s137 : mm_allL (fun q => mm_swc (tb_kb 137) q.1 q.2 = true) ((tb_SW[137]?).getD []) := trivial
theorem tb_s138 : mm_allL (fun q => mm_swc (tb_kb 138) q.1 q.2 = true) ((tb_SW[138]?).getD []) := trivial
theorem tb_s139 : mm_allL (fun q => mm_swc (tb_kb 139) q.1 q.2 = true) ((tb_SW[139]?).getD []) := trivial
theorem tb_s140 : mm_allL (fun q => mm_swc (tb_kb 140) q.1 q.2 = true) ((tb_SW[140]?).getD []) := trivial
theorem tb_s141 : mm_allL (fun q => mm_swc (tb_kb 141) q.1 q.2 = true) ((tb_SW[141]?).getD []) := ⟨by decide +kernel, trivial⟩
theorem tb_s142 : mm_allL (fun q => mm_swc (tb_kb 142) q.1 q.2 = true) ((tb_SW[142]?).getD []) := trivial
theorem tb_s143 : mm_allL (fun q => mm_swc (tb_kb 143) q.1 q.2 = true) ((tb_SW[143]?).getD []) := ⟨by decide +kernel, trivial⟩
theorem tb_s144 : mm_allL (fun q => mm_swc (tb_kb 144) q.1 q.2 = true) ((tb_SW[144]?).getD []) := trivial
theorem tb_s145 : mm_allL (fun q => mm_swc (tb_kb 145) q.1 q.2 = true) ((tb_SW[145]?).getD []) := trivial
theorem tb_s146 : mm_allL (fun q => mm_swc (tb_kb 146) q.1 q.2 = true) ((tb_SW[146]?).getD []) := trivial
theorem tb_s147 : mm_allL (fun q => mm_swc (tb_kb 147) q.1 q.2 = true) ((tb_SW[147]?).getD []) := trivial
theorem tb_s148 : mm_allL (fun q => mm_swc (tb_kb 148) q.1 q.2 = true) ((tb_SW[148]?).getD []) := trivial
theorem tb_s149 : mm_allL (fun q => mm_swc (tb_kb 149) q.1 q.2 = true) ((tb_SW[149]?).getD []) := trivial
theorem tb_s150 : mm_allL (fun q => mm_swc (tb_kb 150) q.1 q.2 = true) ((tb_SW[150]?).getD []) := ⟨by decide +kernel, trivial⟩
theorem tb_s151 : mm_allL (fun q => mm_swc (tb_kb 151) q.1 q.2 = true) ((tb_SW[151]?).getD []) := trivial
theorem tb_s152 : mm_allL (fun q => mm_swc (tb_kb 152) q.1 q.2 = true) ((tb_SW[152]?).getD []) := trivial
theorem tb_s153 : mm_allL (fun q => mm_swc (tb_kb 153) q.1 q.2 = true) ((tb_SW[153]?).getD []) := trivial
theorem tb_s154 : mm_allL (fun q => mm_swc (tb_kb 154) q.1 q.2 = true) ((tb_SW[154]?).getD []) := trivial
theorem tb_s155 : mm_allL (fun q => mm_swc (tb_kb 155) q.1 q.2 = true) ((tb_SW[155]?).getD []) := trivial
theorem tb_s156 : mm_allL (fun q => mm_swc (tb_kb 156) q.1 q.2 = true) ((tb_SW[156]?).getD []) := trivial
theorem tb_s157 : mm_allL (fun q => mm_swc (tb_kb 157) q.1 q.2 = true) ((tb_SW[157]?).getD []) := trivial
theorem tb_s158 : mm_allL (fun q => mm_swc (tb_kb 158) q.1 q.2 = true) ((tb_SW[158]?).getD []) := trivial
theorem tb_s159 : mm_allL (fun q => mm_swc (tb_kb 159) q.1 q.2 = true) ((tb_SW[159]?).getD []) := trivial
theorem tb_s160 : mm_allL (fun q => mm_swc (tb_kb 160) q.1 q.2 = true) ((tb_SW[160]?).getD []) := trivial
theorem tb_s161 : mm_allL (fun q => mm_swc (tb_kb 161) q.1 q.2 = true) ((tb_SW[161]?).getD []) := trivial
theorem tb_s162 : mm_allL (fun q => mm_swc (tb_kb 162) q.1 q.2 = true) ((tb_SW[162]?).getD []) := trivial
theorem tb_s163 : mm_allL (fun q => mm_swc (tb_kb 163) q.1 q.2 = true) ((tb_SW[163]?).getD []) := trivial
theorem tb_s164 : mm_allL (fun q => mm_swc (tb_kb 164) q.1 q.2 = true) ((tb_SW[164]?).getD []) := trivial
theorem tb_s165 : mm_allL (fun q => mm_swc (tb_kb 165) q.1 q.2 = true) ((tb_SW[165]?).getD []) := trivial
theorem tb_s166 : mm_allL (fun q => mm_swc (tb_kb 166) q.1 q.2 = true) ((tb_SW[166]?).getD []) := trivial
theorem tb_s167 : mm_allL (fun q => mm_swc (tb_kb 167) q.1 q.2 = true) ((tb_SW[167]?).getD []) := trivial
theorem tb_s168 : mm_allL (fun q => mm_swc (tb_kb 168) q.1 q.2 = true) ((tb_SW[168]?).getD []) := trivial
theorem tb_s169 : mm_allL (fun q => mm_swc (tb_kb 169) q.1 q.2 = true) ((tb_SW[169]?).getD []) := trivial
theorem tb_s170 : mm_allL (fun q => mm_swc (tb_kb 170) q.1 q.2 = true) ((tb_SW[170]?).getD []) := trivial
theorem tb_s171 : mm_allL (fun q => mm_swc (tb_kb 171) q.1 q.2 = true) ((tb_SW[171]?).getD []) := trivial
theorem tb_s172 : mm_allL (fun q => mm_swc (tb_kb 172) q.1 q.2 = true) ((tb_SW[172]?).getD []) := trivial
theorem tb_s173 : mm_allL (fun q => mm_swc (tb_kb 173) q.1 q.2 = true) ((tb_SW[173]?).getD []) := trivial
theorem tb_s174 : mm_allL (fun q => mm_swc (tb_kb 174) q.1 q.2 = true) ((tb_SW[174]?).getD []) := trivial
theorem tb_s175 : mm_allL (fun q => mm_swc (tb_kb 175) q.1 q.2 = true) ((tb_SW[175]?).getD []) := trivial
theorem tb_s176 : mm_allL (fun q => mm_swc (tb_kb 176) q.1 q.2 = true) ((tb_SW[176]?).getD []) := trivial
theorem tb_s177 : mm_allL (fun q => mm_swc (tb_kb 177) q.1 q.2 = true) ((tb_SW[177]?).getD []) := trivial
theorem tb_s178 : mm_allL (fun q => mm_swc (tb_kb 178) q.1 q.2 = true) ((tb_SW[178]?).getD []) := trivial
theorem tb_s179 : mm_allL (fun q => mm_swc (tb_kb 179) q.1 q.2 = true) ((tb_SW[179]?).getD []) := trivial
theorem tb_s180 : mm_allL (fun q => mm_swc (tb_kb 180) q.1 q.2 = true) ((tb_SW[180]?).getD []) := trivial
theorem tb_s181 : mm_allL (fun q => mm_swc (tb_kb 181) q.1 q.2 = true) ((tb_SW[181]?).getD []) := trivial
theorem tb_s182 : mm_allL (fun q => mm_swc (tb_kb 182) q.1 q.2 = true) ((tb_SW[182]?).getD []) := trivial
theorem tb_s183 : mm_allL (fun q => mm_swc (tb_kb 183) q.1 q.2 = true) ((tb_SW[183]?).getD []) := trivial
theorem tb_s184 : mm_allL (fun q => mm_swc (tb_kb 184) q.1 q.2 = true) ((tb_SW[184]?).getD []) := trivial
theorem tb_s185 : mm_allL (fun q => mm_swc (tb_kb 185) q.1 q.2 = true) ((tb_SW[185]?).getD []) := trivial
theorem tb_s186 : mm_allL (fun q => mm_swc (tb_kb 186) q.1 q.2 = true) ((tb_SW[186]?).getD []) := trivial
theorem tb_s187 : mm_allL (fun q => mm_swc (tb_kb 187) q.1 q.2 = true) ((tb_SW[187]?).getD []) := trivial
theorem tb_s188 : mm_allL (fun q => mm_swc (tb_kb 188) q.1 q.2 = true) ((tb_SW[188]?).getD []) := trivial
theorem tb_s189 : mm_allL (fun q => mm_swc (tb_kb 189) q.1 q.2 = true) ((tb_SW[189]?).getD []) := trivial
theorem tb_s190 : mm_allL (fun q => mm_swc (tb_kb 190) q.1 q.2 = true) ((tb_SW[190]?).getD []) := trivial
theorem tb_s191 : mm_allL (fun q => mm_swc (tb_kb 191) q.1 q.2 = true) ((tb_SW[191]?).getD []) := trivial
theorem tb_s192 : mm_allL (fun q => mm_swc (tb_kb 192) q.1 q.2 = true) ((tb_SW[192]?).getD []) := trivial
theorem tb_s193 : mm_allL (fun q => mm_swc (tb_kb 193) q.1 q.2 = true) ((tb_SW[193]?).getD []) := trivial
theorem tb_s194 : mm_allL (fun q => mm_swc (tb_kb 194) q.1 q.2 = true) ((tb_SW[194]?).getD []) := trivial
theorem tb_s195 : mm_allL (fun q => mm_swc (tb_kb 195) q.1 q.2 = true) ((tb_SW[195]?).getD []) := trivial
theorem tb_s196 : mm_allL (fun q => mm_swc (tb_kb 196) q.1 q.2 = true) ((tb_SW[196]?).getD []) := trivial
theorem tb_s197 : mm_allL (fun q => mm_swc (tb_kb 197) q.1 q.2 = true) ((tb_SW[197]?).getD []) := trivial
theorem tb_s198 : mm_allL (fun q => mm_swc (tb_kb 198) q.1 q.2 = true) ((tb_SW[198]?).getD []) := trivial
theorem tb_s199 : mm_allL (fun q => mm_swc (tb_kb 199) q.1 q.2 = true) ((tb_SW[199]?).getD []) := trivial
theorem tb_s200 : mm_allL (fun q => mm_swc (tb_kb 200) q.1 q.2 = true) ((tb_SW[200]?).getD []) := trivial
theorem tb_s201 : mm_allL (fun q => mm_swc (tb_kb 201) q.1 q.2 = true) ((tb_SW[201]?).getD []) := trivial
theorem tb_s202 : mm_allL (fun q => mm_swc (tb_kb 202) q.1 q.2 = true) ((tb_SW[202]?).getD []) := trivial
theorem tb_s203 : mm_allL (fun q => mm_swc (tb_kb 203) q.1 q.2 = true) ((tb_SW[203]?).getD []) := trivial
theorem tb_s204 : mm_allL (fun q => mm_swc (tb_kb 204) q.1 q.2 = true) ((tb_SW[204]?).getD []) := trivial
theorem tb_s205 : mm_allL (fun q => mm_swc (tb_kb 205) q.1 q.2 = true) ((tb_SW[205]?).getD []) := trivial
theorem tb_s206 : mm_allL (fun q => mm_swc (tb_kb 206) q.1 q.2 = true) ((tb_SW[206]?).getD []) := trivial
theorem tb_s207 : mm_allL (fun q => mm_swc (tb_kb 207) q.1 q.2 = true) ((tb_SW[207]?).getD []) := trivial
theorem tb_s208 : mm_allL (fun q => mm_swc (tb_kb 208) q.1 q.2 = true) ((tb_SW[208]?).getD []) := trivial
theorem tb_s209 : mm_allL (fun q => mm_swc (tb_kb 209) q.1 q.2 = true) ((tb_SW[209]?).getD []) := trivial
theorem tb_s210 : mm_allL (fun q => mm_swc (tb_kb 210) q.1 q.2 = true) ((tb_SW[210]?).getD []) := trivial
theorem tb_s211 : mm_allL (fun q => mm_swc (tb_kb 211) q.1 q.2 = true) ((tb_SW[211]?).getD []) := trivial
theorem tb_s212 : mm_allL (fun q => mm_swc (tb_kb 212) q.1 q.2 = true) ((tb_SW[212]?).getD []) := trivial
theorem tb_s213 : mm_allL (fun q => mm_swc (tb_kb 213) q.1 q.2 = true) ((tb_SW[213]?).getD []) := trivial
theorem tb_s214 : mm_allL (fun q => mm_swc (tb_kb 214) q.1 q.2 = true) ((tb_SW[214]?).getD []) := trivial
theorem tb_s215 : mm_allL (fun q => mm_swc (tb_kb 215) q.1 q.2 = true) ((tb_SW[215]?).getD []) := trivial
theorem tb_s216 : mm_allL (fun q => mm_swc (tb_kb 216) q.1 q.2 = true) ((tb_SW[216]?).getD []) := trivial
theorem tb_s217 : mm_allL (fun q => mm_swc (tb_kb 217) q.1 q.2 = true) ((tb_SW[217]?).getD []) := trivial
theorem tb_s218 : mm_allL (fun q => mm_swc (tb_kb 218) q.1 q.2 = true) ((tb_SW[218]?).getD []) := trivial
theorem tb_s219 : mm_allL (fun q => mm_swc (tb_kb 219) q.1 q.2 = true) ((tb_SW[219]?).getD []) := trivial
theorem tb_s220 : mm_allL (fun q => mm_swc (tb_kb 220) q.1 q.2 = true) ((tb_SW[220]?).getD []) := trivial
theorem tb_s221 : mm_allL (fun q => mm_swc (tb_kb 221) q.1 q.2 = true) ((tb_SW[221]?).getD []) := trivial
theorem tb_s222 : mm_allL (fun q => mm_swc (tb_kb 222) q.1 q.2 = true) ((tb_SW[222]?).getD []) := trivial
theorem tb_s223 : mm_allL (fun q => mm_swc (tb_kb 223) q.1 q.2 = true) ((tb_SW[223]?).getD []) := trivial
theorem tb_s224 : mm_allL (fun q => mm_swc (tb_kb 224) q.1 q.2 = true) ((tb_SW[224]?).getD []) := trivial
theorem tb_s225 : mm_allL (fun q => mm_swc (tb_kb 225) q.1 q.2 = true) ((tb_SW[225]?).getD []) := trivial
theorem tb_s226 : mm_allL (fun q => mm_swc (tb_kb 226) q.1 q.2 = true) ((tb_SW[226]?).getD []) := trivial
theorem tb_s227 : mm_allL (fun q => mm_swc (tb_kb 227) q.1 q.2 = true) ((tb_SW[227]?).getD []) := trivial
theorem tb_s228 : mm_allL (fun q => mm_swc (tb_kb 228) q.1 q.2 = true) ((tb_SW[228]?).getD []) := trivial
theorem tb_s229 : mm_allL (fun q => mm_swc (tb_kb 229) q.1 q.2 = true) ((tb_SW[229]?).getD []) := trivial
theorem tb_s230 : mm_allL (fun q => mm_swc (tb_kb 230) q.1 q.2 = true) ((tb_SW[230]?).getD []) := trivial
theorem tb_s231 : mm_allL (fun q => mm_swc (tb_kb 231) q.1 q.2 = true) ((tb_SW[231]?).getD []) := trivial
theorem tb_s232 : mm_allL (fun q => mm_swc (tb_kb 232) q.1 q.2 = true) ((tb_SW[232]?).getD []) := trivial
theorem tb_s233 : mm_allL (fun q => mm_swc (tb_kb 233) q.1 q.2 = true) ((tb_SW[233]?).getD []) := trivial
theorem tb_s234 : mm_allL (fun q => mm_swc (tb_kb 234) q.1 q.2 = true) ((tb_SW[234]?).getD []) := trivial
theorem tb_s235 : mm_allL (fun q => mm_swc (tb_kb 235) q.1 q.2 = true) ((tb_SW[235]?).getD []) := trivial
theorem tb_s236 : mm_allL (fun q => mm_swc (tb_kb 236) q.1 q.2 = true) ((tb_SW[236]?).getD []) := trivial
theorem tb_s237 : mm_allL (fun q => mm_swc (tb_kb 237) q.1 q.2 = true) ((tb_SW[237]?).getD []) := trivial
theorem tb_s238 : mm_allL (fun q => mm_swc (tb_kb 238) q.1 q.2 = true) ((tb_SW[238]?).getD []) := trivial
theorem tb_s239 : mm_allL (fun q => mm_swc (tb_kb 239) q.1 q.2 = true) ((tb_SW[239]?).getD []) := trivial
theorem tb_s240 : mm_allL (fun q => mm_swc (tb_kb 240) q.1 q.2 = true) ((tb_SW[240]?).getD []) := trivial
theorem tb_s241 : mm_allL (fun q => mm_swc (tb_kb 241) q.1 q.2 = true) ((tb_SW[241]?).getD []) := trivial
theorem tb_s242 : mm_allL (fun q => mm_swc (tb_kb 242) q.1 q.2 = true) ((tb_SW[242]?).getD []) := trivial
theorem tb_s243 : mm_allL (fun q => mm_swc (tb_kb 243) q.1 q.2 = true) ((tb_SW[243]?).getD []) := trivial
theorem tb_s244 : mm_allL (fun q => mm_swc (tb_kb 244) q.1 q.2 = true) ((tb_SW[244]?).getD []) := trivial
theorem tb_s245 : mm_allL (fun q => mm_swc (tb_kb 245) q.1 q.2 = true) ((tb_SW[245]?).getD []) := trivial
theorem tb_s246 : mm_allL (fun q => mm_swc (tb_kb 246) q.1 q.2 = true) ((tb_SW[246]?).getD []) := trivial
theorem tb_s247 : mm_allL (fun q => mm_swc (tb_kb 247) q.1 q.2 = true) ((tb_SW[247]?).getD []) := trivial
theorem tb_s248 : mm_allL (fun q => mm_swc (tb_kb 248) q.1 q.2 = true) ((tb_SW[248]?).getD []) := trivial
theorem tb_s249 : mm_allL (fun q => mm_swc (tb_kb 249) q.1 q.2 = true) ((tb_SW[249]?).getD []) := trivial
theorem tb_s250 : mm_allL (fun q => mm_swc (tb_kb 250) q.1 q.2 = true) ((tb_SW[250]?).getD []) := trivial
theorem tb_s251 : mm_allL (fun q => mm_swc (tb_kb 251) q.1 q.2 = true) ((tb_SW[251]?).getD []) := trivial
theorem tb_s252 : mm_allL (fun q => mm_swc (tb_kb 252) q.1 q.2 = true) ((tb_SW[252]?).getD []) := trivial
theorem tb_s253 : mm_allL (fun q => mm_swc (tb_kb 253) q.1 q.2 = true) ((tb_SW[253]?).getD []) := trivial
theorem tb_s254 : mm_allL (fun q => mm_swc (tb_kb 254) q.1 q.2 = true) ((tb_SW[254]?).getD []) := trivial
theorem tb_s255 : mm_allL (fun q => mm_swc (tb_kb 255) q.1 q.2 = true) ((tb_SW[255]?).getD []) := trivial
theorem tb_s256 : mm_allL (fun q => mm_swc (tb_kb 256) q.1 q.2 = true) ((tb_SW[256]?).getD []) := trivial
theorem tb_s257 : mm_allL (fun q => mm_swc (tb_kb 257) q.1 q.2 = true) ((tb_SW[257]?).getD []) := trivial
theorem tb_s258 : mm_allL (fun q => mm_swc (tb_kb 258) q.1 q.2 = true) ((tb_SW[258]?).getD []) := trivial
theorem tb_s259 : mm_allL (fun q => mm_swc (tb_kb 259) q.1 q.2 = true) ((tb_SW[259]?).getD []) := trivial
theorem tb_s260 : mm_allL (fun q => mm_swc (tb_kb 260) q.1 q.2 = true) ((tb_SW[260]?).getD []) := trivial
theorem tb_s261 : mm_allL (fun q => mm_swc (tb_kb 261) q.1 q.2 = true) ((tb_SW[261]?).getD []) := trivial
theorem tb_s262 : mm_allL (fun q => mm_swc (tb_kb 262) q.1 q.2 = true) ((tb_SW[262]?).getD []) := trivial
theorem tb_s263 : mm_allL (fun q => mm_swc (tb_kb 263) q.1 q.2 = true) ((tb_SW[263]?).getD []) := trivial
theorem tb_s264 : mm_allL (fun q => mm_swc (tb_kb 264) q.1 q.2 = true) ((tb_SW[264]?).getD []) := trivial
theorem tb_s265 : mm_allL (fun q => mm_swc (tb_kb 265) q.1 q.2 = true) ((tb_SW[265]?).getD []) := trivial
theorem tb_s266 : mm_allL (fun q => mm_swc (tb_kb 266) q.1 q.2 = true) ((tb_SW[266]?).getD []) := trivial
theorem tb_s267 : mm_allL (fun q => mm_swc (tb_kb 267) q.1 q.2 = true) ((tb_SW[267]?).getD []) := trivial
theorem tb_s268 : mm_allL (fun q => mm_swc (tb_kb 268) q.1 q.2 = true) ((tb_SW[268]?).getD []) := trivial
theorem tb_s269 : mm_allL (fun q => mm_swc (tb_kb 269) q.1 q.2 = true) ((tb_SW[269]?).getD []) := trivial
theorem tb_s270 : mm_allL (fun q => mm_swc (tb_kb 270) q.1 q.2 = true) ((tb_SW[270]?).getD []) := trivial
theorem tb_s271 : mm_allL (fun q => mm_swc (tb_kb 271) q.1 q.2 = true) ((tb_SW[271]?).getD []) := trivial
theorem tb_s272 : mm_allL (fun q => mm_swc (tb_kb 272) q.1 q.2 = true) ((tb_SW[272]?).getD []) := trivial
theorem tb_s273 : mm_allL (fun q => mm_swc (tb_kb 273) q.1 q.2 = true) ((tb_SW[273]?).getD []) := ⟨by decide +kernel, trivial⟩
theorem tb_s274 : mm_allL (fun q => mm_swc (tb_kb 274) q.1 q.2 = true) ((tb_SW[274]?).getD []) := trivial
theorem tb_s275 : mm_allL (fun q => mm_swc (tb_kb 275) q.1 q.2 = true) ((tb_SW[275]?).getD []) := ⟨by decide +kernel, trivial⟩
theorem tb_s276 : mm_allL (fun q => mm_swc (tb_kb 276) q.1 q.2 = true) ((tb_SW[276]?).getD []) := trivial
theorem tb_s277 : mm_allL (fun q => mm_swc (tb_kb 277) q.1 q.2 = true) ((tb_SW[277]?).getD []) := trivial
theorem tb_s278 : mm_allL (fun q => mm_swc (tb_kb 278) q.1 q.2 = true) ((tb_SW[278]?).getD []) := trivial
theorem tb_s279 : mm_allL (fun q => mm_swc (tb_kb 279) q.1 q.2 = true) ((tb_SW[279]?).getD []) := trivial
theorem tb_s280 : mm_allL (fun q => mm_swc (tb_kb 280) q.1 q.2 = true) ((tb_SW[280]?).getD []) := trivial
theorem tb_s281 : mm_allL (fun q => mm_swc (tb_kb 281) q.1 q.2 = true) ((tb_SW[281]?).getD []) := trivial
theorem tb_s282 : mm_allL (fun q => mm_swc (tb_kb 282) q.1 q.2 = true) ((tb_SW[282]?).getD []) := trivial
theorem tb_s283 : mm_allL (fun q => mm_swc (tb_kb 283) q.1 q.2 = true) ((tb_SW[283]?).getD []) := trivial
theorem tb_s284 : mm_allL (fun q => mm_swc (tb_kb 284) q.1 q.2 = true) ((tb_SW[284]?).getD []) := trivial
theorem tb_s285 : mm_allL (fun q => mm_swc (tb_kb 285) q.1 q.2 = true) ((tb_SW[285]?).getD []) := trivial
theorem tb_s286 : mm_allL (fun q => mm_swc (tb_kb 286) q.1 q.2 = true) ((tb_SW[286]?).getD []) := ⟨by decide +kernel, trivial⟩
theorem tb_s287 : mm_allL (fun q => mm_swc (tb_kb 287) q.1 q.2 = true) ((tb_SW[287]?).getD []) := trivial
theorem tb_s288 : mm_allL (fun q => mm_swc (tb_kb 288) q.1 q.2 = true) ((tb_SW[288]?).getD []) := trivial
theorem tb_s289 : mm_allL (fun q => mm_swc (tb_kb 289) q.1 q.2 = true) ((tb_SW[289]?).getD []) := trivial
theorem tb_s290 : mm_allL (fun q => mm_swc (tb_kb 290) q.1 q.2 = true) ((tb_SW[290]?).getD []) := trivial
theorem tb_s291 : mm_allL (fun q => mm_swc (tb_kb 291) q.1 q.2 = true) ((tb_SW[291]?).getD []) := trivial
theorem tb_s292 : mm_allL (fun q => mm_swc (tb_kb 292) q.1 q.2 = true) ((tb_SW[292]?).getD []) := trivial
theorem tb_s293 : mm_allL (fun q => mm_swc (tb_kb 293) q.1 q.2 = true) ((tb_SW[293]?).getD []) := trivial
theorem tb_s294 : mm_allL (fun q => mm_swc (tb_kb 294) q.1 q.2 = true) ((tb_SW[294]?).getD []) := trivial
theorem tb_s295 : mm_allL (fun q => mm_swc (tb_kb 295) q.1 q.2 = true) ((tb_SW[295]?).getD []) := trivial
theorem tb_s296 : mm_allL (fun q => mm_swc (tb_kb 296) q.1 q.2 = true) ((tb_SW[296]?).getD []) := trivial
theorem tb_s297 : mm_allL (fun q => mm_swc (tb_kb 297) q.1 q.2 = true) ((tb_SW[297]?).getD []) := trivial
theorem tb_s298 : mm_allL (fun q => mm_swc (tb_kb 298) q.1 q.2 = true) ((tb_SW[298]?).getD []) := trivial
theorem tb_s299 : mm_allL (fun q => mm_swc (tb_kb 299) q.1 q.2 = true) ((tb_SW[299]?).getD []) := trivial
theorem tb_s300 : mm_allL (fun q => mm_swc (tb_kb 300) q.1 q.2 = true) ((tb_SW[300]?).getD []) := ⟨by decide +kernel, trivial⟩
theorem tb_s301 : mm_allL (fun q => mm_swc (tb_kb 301) q.1 q.2 = true) ((tb_SW[301]?).getD []) := trivial
theorem tb_s302 : mm_allL (fun q => mm_swc (tb_kb 302) q.1 q.2 = true) ((tb_SW[302]?).getD []) := trivial
theorem tb_s303 : mm_allL (fun q => mm_swc (tb_kb 303) q.1 q.2 = true) ((tb_SW[303]?).getD []) := trivial
theorem tb_s304 : mm_allL (fun q => mm_swc (tb_kb 304) q.1 q.2 = true) ((tb_SW[304]?).getD []) := ⟨by decide +kernel, trivial⟩
theorem tb_s305 : mm_allL (fun q => mm_swc (tb_kb 305) q.1 q.2 = true) ((tb_SW[305]?).getD []) := trivial
theorem tb_s306 : mm_allL (fun q => mm_swc (tb_kb 306) q.1 q.2 = true) ((tb_SW[306]?).getD []) := trivial
theorem tb_s307 : mm_allL (fun q => mm_swc (tb_kb 307) q.1 q.2 = true) ((tb_SW[307]?).getD []) := trivial
theorem tb_s308 : mm_allL (fun q => mm_swc (tb_kb 308) q.1 q.2 = true) ((tb_SW[308]?).getD []) := trivial
theorem tb_s309 : mm_allL (fun q => mm_swc (tb_kb 309) q.1 q.2 = true) ((tb_SW[309]?).getD []) := trivial
theorem tb_s310 : mm_allL (fun q => mm_swc (tb_kb 310) q.1 q.2 = true) ((tb_SW[310]?).getD []) := trivial
theorem tb_s311 : mm_allL (fun q => mm_swc (tb_kb 311) q.1 q.2 = true) ((tb_SW[311]?).getD []) := trivial
theorem tb_s312 : mm_allL (fun q => mm_swc (tb_kb 312) q.1 q.2 = true) ((tb_SW[312]?).getD []) := trivial
theorem tb_s313 : mm_allL (fun q => mm_swc (tb_kb 313) q.1 q.2 = true) ((tb_SW[313]?).getD []) := trivial
theorem tb_s314 : mm_allL (fun q => mm_swc (tb_kb 314) q.1 q.2 = true) ((tb_SW[314]?).getD []) := trivial
theorem tb_s315 : mm_allL (fun q => mm_swc (tb_kb 315) q.1 q.2 = true) ((tb_SW[315]?).getD []) := trivial
theorem tb_s316 : mm_allL (fun q => mm_swc (tb_kb 316) q.1 q.2 = true) ((tb_SW[316]?).getD []) := trivial
theorem tb_s317 : mm_allL (fun q => mm_swc (tb_kb 317) q.1 q.2 = true) ((tb_SW[317]?).getD []) := trivial
theorem tb_s318 : mm_allL (fun q => mm_swc (tb_kb 318) q.1 q.2 = true) ((tb_SW[318]?).getD []) := trivial
theorem tb_s319 : mm_allL (fun q => mm_swc (tb_kb 319) q.1 q.2 = true) ((tb_SW[319]?).getD []) := trivial
theorem tb_s320 : mm_allL (fun q => mm_swc (tb_kb 320) q.1 q.2 = true) ((tb_SW[320]?).getD []) := trivial
theorem tb_s321 : mm_allL (fun q => mm_swc (tb_kb 321) q.1 q.2 = true) ((tb_SW[321]?).getD []) := trivial
theorem tb_s322 : mm_allL (fun q => mm_swc (tb_kb 322) q.1 q.2 = true) ((tb_SW[322]?).getD []) := trivial
theorem tb_s323 : mm_allL (fun q => mm_swc (tb_kb 323) q.1 q.2 = true) ((tb_SW[323]?).getD []) := trivial
theorem tb_s324 : mm_allL (fun q => mm_swc (tb_kb 324) q.1 q.2 = true) ((tb_SW[324]?).getD []) := ⟨by decide +kernel, trivial⟩
theorem tb_s325 : mm_allL (fun q => mm_swc (tb_kb 325) q.1 q.2 = true) ((tb_SW[325]?).getD []) := trivial
theorem tb_s326 : mm_allL (fun q => mm_swc (tb_kb 326) q.1 q.2 = true) ((tb_SW[326]?).getD []) := trivial
theorem tb_s327 : mm_allL (fun q => mm_swc (tb_kb 327) q.1 q.2 = true) ((tb_SW[327]?).getD []) := trivial
theorem tb_s328 : mm_allL (fun q => mm_swc (tb_kb 328) q.1 q.2 = true) ((tb_SW[328]?).getD []) := trivial
theorem tb_s329 : mm_allL (fun q => mm_swc (tb_kb 329) q.1 q.2 = true) ((tb_SW[329]?).getD []) := trivial
theorem tb_s330 : mm_allL (fun q => mm_swc (tb_kb 330) q.1 q.2 = true) ((tb_SW[330]?).getD []) := trivial
theorem tb_s331 : mm_allL (fun q => mm_swc (tb_kb 331) q.1 q.2 = true) ((tb_SW[331]?).getD []) := trivial
theorem tb_s332 : mm_allL (fun q => mm_swc (tb_kb 332) q.1 q.2 = true) ((tb_SW[332]?).getD []) := trivial
theorem tb_s333 : mm_allL (fun q => mm_swc (tb_kb 333) q.1 q.2 = true) ((tb_SW[333]?).getD []) := trivial
theorem tb_s334 : mm_allL (fun q => mm_swc (tb_kb 334) q.1 q.2 = true) ((tb_SW[334]?).getD []) := trivial
theorem tb_s335 : mm_allL (fun q => mm_swc (tb_kb 335) q.1 q.2 = true) ((tb_SW[335]?).getD []) := trivial
theorem tb_s336 : mm_allL (fun q => mm_swc (tb_kb 336) q.1 q.2 = true) ((tb_SW[336]?).getD []) := trivial
theorem tb_s337 : mm_allL (fun q => mm_swc (tb_kb 337) q.1 q.2 = true) ((tb_SW[337]?).getD []) := ⟨by decide +kernel, trivial⟩
theorem tb_s338 : mm_allL (fun q => mm_swc (tb_kb 338) q.1 q.2 = true) ((tb_SW[338]?).getD []) := trivial
theorem tb_s339 : mm_allL (fun q => mm_swc (tb_kb 339) q.1 q.2 = true) ((tb_SW[339]?).getD []) := trivial
theorem tb_s340 : mm_allL (fun q => mm_swc (tb_kb 340) q.1 q.2 = true) ((tb_SW[340]?).getD []) := trivial
theorem tb_s341 : mm_allL (fun q => mm_swc (tb_kb 341) q.1 q.2 = true) ((tb_SW[341]?).getD []) := trivial
theorem tb_s342 : mm_allL (fun q => mm_swc (tb_kb 342) q.1 q.2 = true) ((tb_SW[342]?).getD []) := trivial
theorem tb_s343 : mm_allL (fun q => mm_swc (tb_kb 343) q.1 q.2 = true) ((tb_SW[343]?).getD []) := trivial
theorem tb_s344 : mm_allL (fun q => mm_swc (tb_kb 344) q.1 q.2 = true) ((tb_SW[344]?).getD []) := trivial
theorem tb_s345 : mm_allL (fun q => mm_swc (tb_kb 345) q.1 q.2 = true) ((tb_SW[345]?).getD []) := ⟨by decide +kernel, trivial⟩
theorem tb_s346 : mm_allL (fun q => mm_swc (tb_kb 346) q.1 q.2 = true) ((tb_SW[346]?).getD []) := trivial
theorem tb_s347 : mm_allL (fun q => mm_swc (tb_kb 347) q.1 q.2 = true) ((tb_SW[347]?).getD []) := trivial
theorem tb_s348 : mm_allL (fun q => mm_swc (tb_kb 348) q.1 q.2 = true) ((tb_SW[348]?).getD []) := trivial
theorem tb_s349 : mm_allL (fun q => mm_swc (tb_kb 349) q.1 q.2 = true) ((tb_SW[349]?).getD []) := trivial
theorem tb_s350 : mm_allL (fun q => mm_swc (tb_kb 350) q.1 q.2 = true) ((tb_SW[350]?).getD []) := trivial
theorem tb_s351 : mm_allL (fun q => mm_swc (tb_kb 351) q.1 q.2 = true) ((tb_SW[351]?).getD []) := trivial
theorem tb_s352 : mm_allL (fun q => mm_swc (tb_kb 352) q.1 q.2 = true) ((tb_SW[352]?).getD []) := trivial
theorem tb_s353 : mm_allL (fun q => mm_swc (tb_kb 353) q.1 q.2 = true) ((tb_SW[353]?).getD []) := trivial
theorem tb_s354 : mm_allL (fun q => mm_swc (tb_kb 354) q.1 q.2 = true) ((tb_SW[354]?).getD []) := trivial
theorem tb_s355 : mm_allL (fun q => mm_swc (tb_kb 355) q.1 q.2 = true) ((tb_SW[355]?).getD []) := trivial
theorem tb_s356 : mm_allL (fun q => mm_swc (tb_kb 356) q.1 q.2 = true) ((tb_SW[356]?).getD []) := trivial
theorem tb_s357 : mm_allL (fun q => mm_swc (tb_kb 357) q.1 q.2 = true) ((tb_SW[357]?).getD []) := trivial
theorem tb_s358 : mm_allL (fun q => mm_swc (tb_kb 358) q.1 q.2 = true) ((tb_SW[358]?).getD []) := trivial
theorem tb_s359 : mm_allL (fun q => mm_swc (tb_kb 359) q.1 q.2 = true) ((tb_SW[359]?).getD []) := trivial
theorem tb_s360 : mm_allL (fun q => mm_swc (tb_kb 360) q.1 q.2 = true) ((tb_SW[360]?).getD []) := trivial
theorem tb_s361 : mm_allL (fun q => mm_swc (tb_kb 361) q.1 q.2 = true) ((tb_SW[361]?).getD []) := trivial
theorem tb_s362 : mm_allL (fun q => mm_swc (tb_kb 362) q.1 q.2 = true) ((tb_SW[362]?).getD []) := trivial
theorem tb_s363 : mm_allL (fun q => mm_swc (tb_kb 363) q.1 q.2 = true) ((tb_SW[363]?).getD []) := trivial
theorem tb_s364 : mm_allL (fun q => mm_swc (tb_kb 364) q.1 q.2 = true) ((tb_SW[364]?).getD []) := trivial
theorem tb_s365 : mm_allL (fun q => mm_swc (tb_kb 365) q.1 q.2 = true) ((tb_SW[365]?).getD []) := trivial
theorem tb_s366 : mm_allL (fun q => mm_swc (tb_kb 366) q.1 q.2 = true) ((tb_SW[366]?).getD []) := trivial
theorem tb_s367 : mm_allL (fun q => mm_swc (tb_kb 367) q.1 q.2 = true) ((tb_SW[367]?).getD []) := trivial
theorem tb_s368 : mm_allL (fun q => mm_swc (tb_kb 368) q.1 q.2 = true) ((tb_SW[368]?).getD []) := trivial
theorem tb_s369 : mm_allL (fun q => mm_swc (tb_kb 369) q.1 q.2 = true) ((tb_SW[369]?).getD []) := trivial
theorem tb_s370 : mm_allL (fun q => mm_swc (tb_kb 370) q.1 q.2 = true) ((tb_SW[370]?).getD []) := trivial
theorem tb_s371 : mm_allL (fun q => mm_swc (tb_kb 371) q.1 q.2 = true) ((tb_SW[371]?).getD []) := trivial
theorem tb_s372 : mm_allL (fun q => mm_swc (tb_kb 372) q.1 q.2 = true) ((tb_SW[372]?).getD []) := trivial
theorem tb_s373 : mm_allL (fun q => mm_swc (tb_kb 373) q.1 q.2 = true) ((tb_SW[373]?).getD []) := trivial
theorem tb_s374 : mm_allL (fun q => mm_swc (tb_kb 374) q.1 q.2 = true) ((tb_SW[374]?).getD []) := trivial
theorem tb_s375 : mm_allL (fun q => mm_swc (tb_kb 375) q.1 q.2 = true) ((tb_SW[375]?).getD []) := trivial
theorem tb_s376 : mm_allL (fun q => mm_swc (tb_kb 376) q.1 q.2 = true) ((tb_SW[376]?).getD []) := trivial
theorem tb_s377 : mm_allL (fun q => mm_swc (tb_kb 377) q.1 q.2 = true) ((tb_SW[377]?).getD []) := trivial
theorem tb_s378 : mm_allL (fun q => mm_swc (tb_kb 378) q.1 q.2 = true) ((tb_SW[378]?).getD []) := trivial
theorem tb_s379 : mm_allL (fun q => mm_swc (tb_kb 379) q.1 q.2 = true) ((tb_SW[379]?).getD []) := trivial
set_option maxRecDepth 20000 in
theorem tb_sall : mm_all2P (fun k pc v => mm_swc (tb_kb k) pc v = true) 0 tb_SW := ⟨tb_s0, tb_s1, tb_s2, tb_s3, tb_s4, tb_s5, tb_s6, tb_s7, tb_s8, tb_s9, tb_s10, tb_s11, tb_s12, tb_s13, tb_s14, tb_s15, tb_s16, tb_s17, tb_s18, tb_s19, tb_s20, tb_s21, tb_s22, tb_s23, tb_s24, tb_s25, tb_s26, tb_s27, tb_s28, tb_s29, tb_s30, tb_s31, tb_s32, tb_s33, tb_s34, tb_s35, tb_s36, tb_s37, tb_s38, tb_s39, tb_s40, tb_s41, tb_s42, tb_s43, tb_s44, tb_s45, tb_s46, tb_s47, tb_s48, tb_s49, tb_s50, tb_s51, tb_s52, tb_s53, tb_s54, tb_s55, tb_s56, tb_s57, tb_s58, tb_s59, tb_s60, tb_s61, tb_s62, tb_s63, tb_s64, tb_s65, tb_s66, tb_s67, tb_s68, tb_s69, tb_s70, tb_s71, tb_s72, tb_s73, tb_s74, tb_s75, tb_s76, tb_s77, tb_s78, tb_s79, tb_s80, tb_s81, tb_s82, tb_s83, tb_s84, tb_s85, tb_s86, tb_s87, tb_s88, tb_s89, tb_s90, tb_s91, tb_s92, tb_s93, tb_s94, tb_s95, tb_s96, tb_s97, tb_s98, tb_s99, tb_s100, tb_s101, tb_s102, tb_s103, tb_s104, tb_s105, tb_s106, tb_s107, tb_s108, tb_s109, tb_s110, tb_s111, tb_s112, tb_s113, tb_s114, tb_s115, tb_s116, tb_s117, tb_s118, tb_s119, tb_s120, tb_s121, tb_s122, tb_s123, tb_s124, tb_s125, tb_s126, tb_s127, tb_s128, tb_s129, tb_s130, tb_s131, tb_s132, tb_s133, tb_s134, tb_s135, tb_s136, tb_s137, tb_s138, tb_s139, tb_s140, tb_s141, tb_s142, tb_s143, tb_s144, tb_s145, tb_s146, tb_s147, tb_s148, tb_s149, tb_s150, tb_s151, tb_s152, tb_s153, tb_s154, tb_s155, tb_s156, tb_s157, tb_s158, tb_s159, tb_s160, tb_s161, tb_s162, tb_s163, tb_s164, tb_s165, tb_s166, tb_s167, tb_s168, tb_s169, tb_s170, tb_s171, tb_s172, tb_s173, tb_s174, tb_s175, tb_s176, tb_s177, tb_s178, tb_s179, tb_s180, tb_s181, tb_s182, tb_s183, tb_s184, tb_s185, tb_s186, tb_s187, tb_s188, tb_s189, tb_s190, tb_s191, tb_s192, tb_s193, tb_s194, tb_s195, tb_s196, tb_s197, tb_s198, tb_s199, tb_s200, tb_s201, tb_s202, tb_s203, tb_s204, tb_s205, tb_s206, tb_s207, tb_s208, tb_s209, tb_s210, tb_s211, tb_s212, tb_s213, tb_s214, tb_s215, tb_s216, tb_s217, tb_s218, tb_s219, tb_s220, tb_s221, tb_s222, tb_s223, tb_s224, tb_s225, tb_s226, tb_s227, tb_s228, tb_s229, tb_s230, tb_s231, tb_s232, tb_s233, tb_s234, tb_s235, tb_s236, tb_s237, tb_s238, tb_s239, tb_s240, tb_s241, tb_s242, tb_s243, tb_s244, tb_s245, tb_s246, tb_s247, tb_s248, tb_s249, tb_s250, tb_s251, tb_s252, tb_s253, tb_s254, tb_s255, tb_s256, tb_s257, tb_s258, tb_s259, tb_s260, tb_s261, tb_s262, tb_s263, tb_s264, tb_s265, tb_s266, tb_s267, tb_s268, tb_s269, tb_s270, tb_s271, tb_s272, tb_s273, tb_s274, tb_s275, tb_s276, tb_s277, tb_s278, tb_s279, tb_s280, tb_s281, tb_s282, tb_s283, tb_s284, tb_s285, tb_s286, tb_s287, tb_s288, tb_s289, tb_s290, tb_s291, tb_s292, tb_s293, tb_s294, tb_s295, tb_s296, tb_s297, tb_s298, tb_s299, tb_s300, tb_s301, tb_s302, tb_s303, tb_s304, tb_s305, tb_s306, tb_s307, tb_s308, tb_s309, tb_s310, tb_s311, tb_s312, tb_s313, tb_s314, tb_s315, tb_s316, tb_s317, tb_s318, tb_s319, tb_s320, tb_s321, tb_s322, tb_s323, tb_s324, tb_s325, tb_s326, tb_s327, tb_s328, tb_s329, tb_s330, tb_s331, tb_s332, tb_s333, tb_s334, tb_s335, tb_s336, tb_s337, tb_s338, tb_s339, tb_s340, tb_s341, tb_s342, tb_s343, tb_s344, tb_s345, tb_s346, tb_s347, tb_s348, tb_s349, tb_s350, tb_s351, tb_s352, tb_s353, tb_s354, tb_s355, tb_s356, tb_s357, tb_s358, tb_s359, tb_s360, tb_s361, tb_s362, tb_s363, tb_s364, tb_s365, tb_s366, tb_s367, tb_s368, tb_s369, tb_s370, tb_s371, tb_s372, tb_s373, tb_s374, tb_s375, tb_s376, tb_s377, tb_s378, tb_s379, trivial⟩
theorem tb_nh0 : "IndexedCompiler" ≠ "java/lang/invoke/MethodHandle" ∧ "IndexedCompiler" ≠ "java/lang/invoke/VarHandle" := ⟨by decide +kernel, by decide +kernel⟩
theorem tb_pn0 : plainName "IndexedCompiler" = true := by decide +kernel
theorem tb_nh6 : "IndexedCompiler$Checker" ≠ "java/lang/invoke/MethodHandle" ∧ "IndexedCompiler$Checker" ≠ "java/lang/invoke/VarHandle" := ⟨by decide +kernel, by decide +kernel⟩
theorem tb_pn6 : plainName "IndexedCompiler$Checker" = true := by decide +kernel
theorem tb_nh7 : "IndexedCompiler$Coder" ≠ "java/lang/invoke/MethodHandle" ∧ "IndexedCompiler$Coder" ≠ "java/lang/invoke/VarHandle" := ⟨by decide +kernel, by decide +kernel⟩
theorem tb_pn7 : plainName "IndexedCompiler$Coder" = true := by decide +kernel
theorem tb_nh4 : "IndexedCompiler$Expression" ≠ "java/lang/invoke/MethodHandle" ∧ "IndexedCompiler$Expression" ≠ "java/lang/invoke/VarHandle" := ⟨by decide +kernel, by decide +kernel⟩
theorem tb_pn4 : plainName "IndexedCompiler$Expression" = true := by decide +kernel
theorem tb_nh5 : "IndexedCompiler$Ground" ≠ "java/lang/invoke/MethodHandle" ∧ "IndexedCompiler$Ground" ≠ "java/lang/invoke/VarHandle" := ⟨by decide +kernel, by decide +kernel⟩
theorem tb_pn5 : plainName "IndexedCompiler$Ground" = true := by decide +kernel
theorem tb_nh1 : "IndexedCompiler$Line" ≠ "java/lang/invoke/MethodHandle" ∧ "IndexedCompiler$Line" ≠ "java/lang/invoke/VarHandle" := ⟨by decide +kernel, by decide +kernel⟩
theorem tb_pn1 : plainName "IndexedCompiler$Line" = true := by decide +kernel
theorem tb_nh9 : "IndexedCompiler$Machine" ≠ "java/lang/invoke/MethodHandle" ∧ "IndexedCompiler$Machine" ≠ "java/lang/invoke/VarHandle" := ⟨by decide +kernel, by decide +kernel⟩
theorem tb_pn9 : plainName "IndexedCompiler$Machine" = true := by decide +kernel
theorem tb_nh2 : "IndexedCompiler$Reader" ≠ "java/lang/invoke/MethodHandle" ∧ "IndexedCompiler$Reader" ≠ "java/lang/invoke/VarHandle" := ⟨by decide +kernel, by decide +kernel⟩
theorem tb_pn2 : plainName "IndexedCompiler$Reader" = true := by decide +kernel
theorem tb_nh11 : "IndexedCompiler$Shape" ≠ "java/lang/invoke/MethodHandle" ∧ "IndexedCompiler$Shape" ≠ "java/lang/invoke/VarHandle" := ⟨by decide +kernel, by decide +kernel⟩
theorem tb_pn11 : plainName "IndexedCompiler$Shape" = true := by decide +kernel
theorem tb_nh8 : "IndexedCompiler$Slots" ≠ "java/lang/invoke/MethodHandle" ∧ "IndexedCompiler$Slots" ≠ "java/lang/invoke/VarHandle" := ⟨by decide +kernel, by decide +kernel⟩
theorem tb_pn8 : plainName "IndexedCompiler$Slots" = true := by decide +kernel
theorem tb_nh3 : "IndexedCompiler$Solver" ≠ "java/lang/invoke/MethodHandle" ∧ "IndexedCompiler$Solver" ≠ "java/lang/invoke/VarHandle" := ⟨by decide +kernel, by decide +kernel⟩
theorem tb_pn3 : plainName "IndexedCompiler$Solver" = true := by decide +kernel
theorem tb_nh10 : "IndexedCompiler$Tree" ≠ "java/lang/invoke/MethodHandle" ∧ "IndexedCompiler$Tree" ≠ "java/lang/invoke/VarHandle" := ⟨by decide +kernel, by decide +kernel⟩
theorem tb_pn10 : plainName "IndexedCompiler$Tree" = true := by decide +kernel
theorem tb_nh15 : "IndexedCompilerLaw" ≠ "java/lang/invoke/MethodHandle" ∧ "IndexedCompilerLaw" ≠ "java/lang/invoke/VarHandle" := ⟨by decide +kernel, by decide +kernel⟩
theorem tb_pn15 : plainName "IndexedCompilerLaw" = true := by decide +kernel
theorem tb_nh12 : "IndexedCompilerModel" ≠ "java/lang/invoke/MethodHandle" ∧ "IndexedCompilerModel" ≠ "java/lang/invoke/VarHandle" := ⟨by decide +kernel, by decide +kernel⟩
theorem tb_pn12 : plainName "IndexedCompilerModel" = true := by decide +kernel
theorem tb_nh16 : "java/lang/Math" ≠ "java/lang/invoke/MethodHandle" ∧ "java/lang/Math" ≠ "java/lang/invoke/VarHandle" := ⟨by decide +kernel, by decide +kernel⟩
theorem tb_nh18 : "java/lang/String" ≠ "java/lang/invoke/MethodHandle" ∧ "java/lang/String" ≠ "java/lang/invoke/VarHandle" := ⟨by decide +kernel, by decide +kernel⟩
theorem tb_nh19 : "java/lang/StringLatin1" ≠ "java/lang/invoke/MethodHandle" ∧ "java/lang/StringLatin1" ≠ "java/lang/invoke/VarHandle" := ⟨by decide +kernel, by decide +kernel⟩
theorem tb_nh17 : "java/util/Arrays" ≠ "java/lang/invoke/MethodHandle" ∧ "java/util/Arrays" ≠ "java/lang/invoke/VarHandle" := ⟨by decide +kernel, by decide +kernel⟩
set_option maxRecDepth 20000 in
theorem tb_k1 : mm_cf tb_P tb_TB tb_cn tb_ky tb_kb tb_hs 1 := ⟨Or.inr (tb_i6 (List.mem_of_getElem? (i := 38) rfl) rfl), (tb_i1 (List.mem_of_getElem? (i := 0) rfl) rfl), tb_nh15, plainFor_of_name tb_pn15, rfl, fun h => Bool.noConfusion h⟩
set_option maxRecDepth 20000 in
theorem tb_k2 : mm_cf tb_P tb_TB tb_cn tb_ky tb_kb tb_hs 2 := ⟨Or.inr (tb_i6 (List.mem_of_getElem? (i := 56) rfl) rfl), (tb_i1 (List.mem_of_getElem? (i := 0) rfl) rfl), tb_nh15, plainFor_of_name tb_pn15, rfl, fun h => Bool.noConfusion h⟩
set_option maxRecDepth 20000 in
theorem tb_k3 : mm_cf tb_P tb_TB tb_cn tb_ky tb_kb tb_hs 3 := ⟨Or.inr (tb_i6 (List.mem_of_getElem? (i := 84) rfl) rfl), (tb_i1 (List.mem_of_getElem? (i := 0) rfl) rfl), tb_nh15, plainFor_of_name tb_pn15, rfl, fun h => Bool.noConfusion h⟩
set_option maxRecDepth 20000 in
theorem tb_k4 : mm_cf tb_P tb_TB tb_cn tb_ky tb_kb tb_hs 4 := ⟨Or.inr (tb_i6 (List.mem_of_getElem? (i := 100) rfl) rfl), (tb_i1 (List.mem_of_getElem? (i := 0) rfl) rfl), tb_nh15, plainFor_of_name tb_pn15, rfl, fun h => Bool.noConfusion h⟩
set_option maxRecDepth 20000 in
theorem tb_k5 : mm_cf tb_P tb_TB tb_cn tb_ky tb_kb tb_hs 5 := ⟨Or.inr (tb_i6 (List.mem_of_getElem? (i := 117) rfl) rfl), (tb_i1 (List.mem_of_getElem? (i := 0) rfl) rfl), tb_nh15, plainFor_of_name tb_pn15, rfl, fun h => Bool.noConfusion h⟩
set_option maxRecDepth 20000 in
theorem tb_k6 : mm_cf tb_P tb_TB tb_cn tb_ky tb_kb tb_hs 6 := ⟨Or.inr (tb_i6 (List.mem_of_getElem? (i := 138) rfl) rfl), (tb_i1 (List.mem_of_getElem? (i := 0) rfl) rfl), tb_nh15, plainFor_of_name tb_pn15, rfl, fun h => Bool.noConfusion h⟩
set_option maxRecDepth 20000 in
theorem tb_k7 : mm_cf tb_P tb_TB tb_cn tb_ky tb_kb tb_hs 7 := ⟨Or.inr (tb_i6 (List.mem_of_getElem? (i := 150) rfl) rfl), (tb_i1 (List.mem_of_getElem? (i := 0) rfl) rfl), tb_nh15, plainFor_of_name tb_pn15, rfl, fun h => Bool.noConfusion h⟩
set_option maxRecDepth 20000 in
theorem tb_k8 : mm_cf tb_P tb_TB tb_cn tb_ky tb_kb tb_hs 8 := ⟨Or.inr (tb_i6 (List.mem_of_getElem? (i := 171) rfl) rfl), (tb_i1 (List.mem_of_getElem? (i := 0) rfl) rfl), tb_nh15, plainFor_of_name tb_pn15, rfl, fun h => Bool.noConfusion h⟩
set_option maxRecDepth 20000 in
theorem tb_k9 : mm_cf tb_P tb_TB tb_cn tb_ky tb_kb tb_hs 9 := ⟨Or.inr (tb_i6 (List.mem_of_getElem? (i := 187) rfl) rfl), (tb_i1 (List.mem_of_getElem? (i := 0) rfl) rfl), tb_nh15, plainFor_of_name tb_pn15, rfl, fun h => Bool.noConfusion h⟩
set_option maxRecDepth 20000 in
theorem tb_k10 : mm_cf tb_P tb_TB tb_cn tb_ky tb_kb tb_hs 10 := ⟨Or.inr (tb_i6 (List.mem_of_getElem? (i := 199) rfl) rfl), (tb_i1 (List.mem_of_getElem? (i := 0) rfl) rfl), tb_nh15, plainFor_of_name tb_pn15, rfl, fun h => Bool.noConfusion h⟩
set_option maxRecDepth 20000 in
theorem tb_k11 : mm_cf tb_P tb_TB tb_cn tb_ky tb_kb tb_hs 11 := ⟨Or.inr (tb_i7 (List.mem_of_getElem? (i := 89) rfl) rfl), (tb_i1 (List.mem_of_getElem? (i := 0) rfl) rfl), tb_nh15, plainFor_of_name tb_pn15, rfl, fun h => Bool.noConfusion h⟩
set_option maxRecDepth 20000 in
theorem tb_k12 : mm_cf tb_P tb_TB tb_cn tb_ky tb_kb tb_hs 12 := ⟨Or.inr (tb_i7 (List.mem_of_getElem? (i := 101) rfl) rfl), (tb_i1 (List.mem_of_getElem? (i := 0) rfl) rfl), tb_nh15, plainFor_of_name tb_pn15, rfl, fun h => Bool.noConfusion h⟩
set_option maxRecDepth 20000 in
theorem tb_k13 : mm_cf tb_P tb_TB tb_cn tb_ky tb_kb tb_hs 13 := ⟨Or.inr (tb_i7 (List.mem_of_getElem? (i := 122) rfl) rfl), (tb_i1 (List.mem_of_getElem? (i := 0) rfl) rfl), tb_nh15, plainFor_of_name tb_pn15, rfl, fun h => Bool.noConfusion h⟩
set_option maxRecDepth 20000 in
theorem tb_k14 : mm_cf tb_P tb_TB tb_cn tb_ky tb_kb tb_hs 14 := ⟨Or.inl ⟨(tb_i7 (List.mem_of_getElem? (i := 135) rfl) rfl), rfl⟩, (tb_i1 (List.mem_of_getElem? (i := 12) rfl) rfl), tb_nh12, plainFor_of_name tb_pn12, rfl, fun _ => rfl⟩
set_option maxRecDepth 20000 in
theorem tb_k15 : mm_cf tb_P tb_TB tb_cn tb_ky tb_kb tb_hs 15 := ⟨Or.inl ⟨(tb_i9 (List.mem_of_getElem? (i := 96) rfl) rfl), rfl⟩, (tb_i1 (List.mem_of_getElem? (i := 12) rfl) rfl), tb_nh12, plainFor_of_name tb_pn12, rfl, fun h => Bool.noConfusion h⟩
set_option maxRecDepth 20000 in
theorem tb_k16 : mm_cf tb_P tb_TB tb_cn tb_ky tb_kb tb_hs 16 := ⟨Or.inl ⟨(tb_i9 (List.mem_of_getElem? (i := 100) rfl) rfl), rfl⟩, (tb_i1 (List.mem_of_getElem? (i := 12) rfl) rfl), tb_nh12, plainFor_of_name tb_pn12, rfl, fun h => Bool.noConfusion h⟩
set_option maxRecDepth 20000 in
theorem tb_k17 : mm_cf tb_P tb_TB tb_cn tb_ky tb_kb tb_hs 17 := ⟨Or.inl ⟨(tb_i9 (List.mem_of_getElem? (i := 104) rfl) rfl), rfl⟩, (tb_i1 (List.mem_of_getElem? (i := 12) rfl) rfl), tb_nh12, plainFor_of_name tb_pn12, rfl, fun h => Bool.noConfusion h⟩
set_option maxRecDepth 20000 in
theorem tb_k18 : mm_cf tb_P tb_TB tb_cn tb_ky tb_kb tb_hs 18 := ⟨Or.inl ⟨(tb_i9 (List.mem_of_getElem? (i := 108) rfl) rfl), rfl⟩, (tb_i1 (List.mem_of_getElem? (i := 12) rfl) rfl), tb_nh12, plainFor_of_name tb_pn12, rfl, fun h => Bool.noConfusion h⟩
set_option maxRecDepth 20000 in
theorem tb_k19 : mm_cf tb_P tb_TB tb_cn tb_ky tb_kb tb_hs 19 := ⟨Or.inl ⟨(tb_i9 (List.mem_of_getElem? (i := 112) rfl) rfl), rfl⟩, (tb_i1 (List.mem_of_getElem? (i := 12) rfl) rfl), tb_nh12, plainFor_of_name tb_pn12, rfl, fun h => Bool.noConfusion h⟩
set_option maxRecDepth 20000 in
theorem tb_k20 : mm_cf tb_P tb_TB tb_cn tb_ky tb_kb tb_hs 20 := ⟨Or.inl ⟨(tb_i9 (List.mem_of_getElem? (i := 116) rfl) rfl), rfl⟩, (tb_i1 (List.mem_of_getElem? (i := 12) rfl) rfl), tb_nh12, plainFor_of_name tb_pn12, rfl, fun h => Bool.noConfusion h⟩
set_option maxRecDepth 20000 in
theorem tb_k21 : mm_cf tb_P tb_TB tb_cn tb_ky tb_kb tb_hs 21 := ⟨Or.inl ⟨(tb_i9 (List.mem_of_getElem? (i := 120) rfl) rfl), rfl⟩, (tb_i1 (List.mem_of_getElem? (i := 12) rfl) rfl), tb_nh12, plainFor_of_name tb_pn12, rfl, fun h => Bool.noConfusion h⟩
set_option maxRecDepth 20000 in
theorem tb_k22 : mm_cf tb_P tb_TB tb_cn tb_ky tb_kb tb_hs 22 := ⟨Or.inl ⟨(tb_i9 (List.mem_of_getElem? (i := 124) rfl) rfl), rfl⟩, (tb_i1 (List.mem_of_getElem? (i := 12) rfl) rfl), tb_nh12, plainFor_of_name tb_pn12, rfl, fun h => Bool.noConfusion h⟩
set_option maxRecDepth 20000 in
theorem tb_k23 : mm_cf tb_P tb_TB tb_cn tb_ky tb_kb tb_hs 23 := ⟨Or.inl ⟨(tb_i9 (List.mem_of_getElem? (i := 127) rfl) rfl), rfl⟩, (tb_i1 (List.mem_of_getElem? (i := 12) rfl) rfl), tb_nh12, plainFor_of_name tb_pn12, rfl, fun h => Bool.noConfusion h⟩
set_option maxRecDepth 20000 in
theorem tb_k24 : mm_cf tb_P tb_TB tb_cn tb_ky tb_kb tb_hs 24 := ⟨Or.inl ⟨(tb_i9 (List.mem_of_getElem? (i := 131) rfl) rfl), rfl⟩, (tb_i1 (List.mem_of_getElem? (i := 12) rfl) rfl), tb_nh12, plainFor_of_name tb_pn12, rfl, fun h => Bool.noConfusion h⟩
set_option maxRecDepth 20000 in
theorem tb_k25 : mm_cf tb_P tb_TB tb_cn tb_ky tb_kb tb_hs 25 := ⟨Or.inl ⟨(tb_i9 (List.mem_of_getElem? (i := 134) rfl) rfl), rfl⟩, (tb_i1 (List.mem_of_getElem? (i := 12) rfl) rfl), tb_nh12, plainFor_of_name tb_pn12, rfl, fun h => Bool.noConfusion h⟩
set_option maxRecDepth 20000 in
theorem tb_k26 : mm_cf tb_P tb_TB tb_cn tb_ky tb_kb tb_hs 26 := ⟨Or.inl ⟨(tb_i9 (List.mem_of_getElem? (i := 137) rfl) rfl), rfl⟩, (tb_i1 (List.mem_of_getElem? (i := 12) rfl) rfl), tb_nh12, plainFor_of_name tb_pn12, rfl, fun h => Bool.noConfusion h⟩
set_option maxRecDepth 20000 in
theorem tb_k27 : mm_cf tb_P tb_TB tb_cn tb_ky tb_kb tb_hs 27 := ⟨Or.inl ⟨(tb_i9 (List.mem_of_getElem? (i := 141) rfl) rfl), rfl⟩, (tb_i1 (List.mem_of_getElem? (i := 12) rfl) rfl), tb_nh12, plainFor_of_name tb_pn12, rfl, fun h => Bool.noConfusion h⟩
set_option maxRecDepth 20000 in
theorem tb_k28 : mm_cf tb_P tb_TB tb_cn tb_ky tb_kb tb_hs 28 := ⟨Or.inl ⟨(tb_i9 (List.mem_of_getElem? (i := 145) rfl) rfl), rfl⟩, (tb_i1 (List.mem_of_getElem? (i := 12) rfl) rfl), tb_nh12, plainFor_of_name tb_pn12, rfl, fun h => Bool.noConfusion h⟩
set_option maxRecDepth 20000 in
theorem tb_k29 : mm_cf tb_P tb_TB tb_cn tb_ky tb_kb tb_hs 29 := ⟨Or.inl ⟨(tb_i9 (List.mem_of_getElem? (i := 149) rfl) rfl), rfl⟩, (tb_i1 (List.mem_of_getElem? (i := 12) rfl) rfl), tb_nh12, plainFor_of_name tb_pn12, rfl, fun h => Bool.noConfusion h⟩
set_option maxRecDepth 20000 in
theorem tb_k30 : mm_cf tb_P tb_TB tb_cn tb_ky tb_kb tb_hs 30 := ⟨Or.inl ⟨(tb_i9 (List.mem_of_getElem? (i := 153) rfl) rfl), rfl⟩, (tb_i1 (List.mem_of_getElem? (i := 12) rfl) rfl), tb_nh12, plainFor_of_name tb_pn12, rfl, fun h => Bool.noConfusion h⟩
set_option maxRecDepth 20000 in
theorem tb_k31 : mm_cf tb_P tb_TB tb_cn tb_ky tb_kb tb_hs 31 := ⟨Or.inl ⟨(tb_i9 (List.mem_of_getElem? (i := 157) rfl) rfl), rfl⟩, (tb_i1 (List.mem_of_getElem? (i := 12) rfl) rfl), tb_nh12, plainFor_of_name tb_pn12, rfl, fun h => Bool.noConfusion h⟩
set_option maxRecDepth 20000 in
theorem tb_k32 : mm_cf tb_P tb_TB tb_cn tb_ky tb_kb tb_hs 32 := ⟨Or.inl ⟨(tb_i9 (List.mem_of_getElem? (i := 160) rfl) rfl), rfl⟩, (tb_i1 (List.mem_of_getElem? (i := 12) rfl) rfl), tb_nh12, plainFor_of_name tb_pn12, rfl, fun h => Bool.noConfusion h⟩
set_option maxRecDepth 20000 in
theorem tb_k33 : mm_cf tb_P tb_TB tb_cn tb_ky tb_kb tb_hs 33 := ⟨Or.inl ⟨(tb_i9 (List.mem_of_getElem? (i := 166) rfl) rfl), rfl⟩, (tb_i1 (List.mem_of_getElem? (i := 12) rfl) rfl), tb_nh12, plainFor_of_name tb_pn12, rfl, fun h => Bool.noConfusion h⟩
set_option maxRecDepth 20000 in
theorem tb_k34 : mm_cf tb_P tb_TB tb_cn tb_ky tb_kb tb_hs 34 := ⟨Or.inl ⟨(tb_i9 (List.mem_of_getElem? (i := 170) rfl) rfl), rfl⟩, (tb_i1 (List.mem_of_getElem? (i := 12) rfl) rfl), tb_nh12, plainFor_of_name tb_pn12, rfl, fun h => Bool.noConfusion h⟩
set_option maxRecDepth 20000 in
theorem tb_k35 : mm_cf tb_P tb_TB tb_cn tb_ky tb_kb tb_hs 35 := ⟨Or.inl ⟨(tb_i9 (List.mem_of_getElem? (i := 174) rfl) rfl), rfl⟩, (tb_i1 (List.mem_of_getElem? (i := 12) rfl) rfl), tb_nh12, plainFor_of_name tb_pn12, rfl, fun h => Bool.noConfusion h⟩
set_option maxRecDepth 20000 in
theorem tb_k36 : mm_cf tb_P tb_TB tb_cn tb_ky tb_kb tb_hs 36 := ⟨Or.inl ⟨(tb_i9 (List.mem_of_getElem? (i := 178) rfl) rfl), rfl⟩, (tb_i1 (List.mem_of_getElem? (i := 12) rfl) rfl), tb_nh12, plainFor_of_name tb_pn12, rfl, fun h => Bool.noConfusion h⟩
set_option maxRecDepth 20000 in
theorem tb_k37 : mm_cf tb_P tb_TB tb_cn tb_ky tb_kb tb_hs 37 := ⟨Or.inl ⟨(tb_i9 (List.mem_of_getElem? (i := 182) rfl) rfl), rfl⟩, (tb_i1 (List.mem_of_getElem? (i := 12) rfl) rfl), tb_nh12, plainFor_of_name tb_pn12, rfl, fun h => Bool.noConfusion h⟩
set_option maxRecDepth 20000 in
theorem tb_k38 : mm_cf tb_P tb_TB tb_cn tb_ky tb_kb tb_hs 38 := ⟨Or.inl ⟨(tb_i9 (List.mem_of_getElem? (i := 186) rfl) rfl), rfl⟩, (tb_i1 (List.mem_of_getElem? (i := 12) rfl) rfl), tb_nh12, plainFor_of_name tb_pn12, rfl, fun h => Bool.noConfusion h⟩
set_option maxRecDepth 20000 in
theorem tb_k39 : mm_cf tb_P tb_TB tb_cn tb_ky tb_kb tb_hs 39 := ⟨Or.inl ⟨(tb_i9 (List.mem_of_getElem? (i := 190) rfl) rfl), rfl⟩, (tb_i1 (List.mem_of_getElem? (i := 12) rfl) rfl), tb_nh12, plainFor_of_name tb_pn12, rfl, fun h => Bool.noConfusion h⟩
set_option maxRecDepth 20000 in
theorem tb_k40 : mm_cf tb_P tb_TB tb_cn tb_ky tb_kb tb_hs 40 := ⟨Or.inl ⟨(tb_i9 (List.mem_of_getElem? (i := 194) rfl) rfl), rfl⟩, (tb_i1 (List.mem_of_getElem? (i := 12) rfl) rfl), tb_nh12, plainFor_of_name tb_pn12, rfl, fun h => Bool.noConfusion h⟩
set_option maxRecDepth 20000 in
theorem tb_k41 : mm_cf tb_P tb_TB tb_cn tb_ky tb_kb tb_hs 41 := ⟨Or.inl ⟨(tb_i9 (List.mem_of_getElem? (i := 198) rfl) rfl), rfl⟩, (tb_i1 (List.mem_of_getElem? (i := 12) rfl) rfl), tb_nh12, plainFor_of_name tb_pn12, rfl, fun h => Bool.noConfusion h⟩
set_option maxRecDepth 20000 in
theorem tb_k42 : mm_cf tb_P tb_TB tb_cn tb_ky tb_kb tb_hs 42 := ⟨Or.inl ⟨(tb_i9 (List.mem_of_getElem? (i := 202) rfl) rfl), rfl⟩, (tb_i1 (List.mem_of_getElem? (i := 12) rfl) rfl), tb_nh12, plainFor_of_name tb_pn12, rfl, fun h => Bool.noConfusion h⟩
set_option maxRecDepth 20000 in
theorem tb_k43 : mm_cf tb_P tb_TB tb_cn tb_ky tb_kb tb_hs 43 := ⟨Or.inl ⟨(tb_i9 (List.mem_of_getElem? (i := 206) rfl) rfl), rfl⟩, (tb_i1 (List.mem_of_getElem? (i := 12) rfl) rfl), tb_nh12, plainFor_of_name tb_pn12, rfl, fun h => Bool.noConfusion h⟩
set_option maxRecDepth 20000 in
theorem tb_k44 : mm_cf tb_P tb_TB tb_cn tb_ky tb_kb tb_hs 44 := ⟨Or.inl ⟨(tb_i9 (List.mem_of_getElem? (i := 210) rfl) rfl), rfl⟩, (tb_i1 (List.mem_of_getElem? (i := 12) rfl) rfl), tb_nh12, plainFor_of_name tb_pn12, rfl, fun h => Bool.noConfusion h⟩
set_option maxRecDepth 20000 in
theorem tb_k45 : mm_cf tb_P tb_TB tb_cn tb_ky tb_kb tb_hs 45 := ⟨Or.inl ⟨(tb_i9 (List.mem_of_getElem? (i := 214) rfl) rfl), rfl⟩, (tb_i1 (List.mem_of_getElem? (i := 12) rfl) rfl), tb_nh12, plainFor_of_name tb_pn12, rfl, fun h => Bool.noConfusion h⟩
set_option maxRecDepth 20000 in
theorem tb_k46 : mm_cf tb_P tb_TB tb_cn tb_ky tb_kb tb_hs 46 := ⟨Or.inl ⟨(tb_i9 (List.mem_of_getElem? (i := 218) rfl) rfl), rfl⟩, (tb_i1 (List.mem_of_getElem? (i := 12) rfl) rfl), tb_nh12, plainFor_of_name tb_pn12, rfl, fun h => Bool.noConfusion h⟩
set_option maxRecDepth 20000 in
theorem tb_k47 : mm_cf tb_P tb_TB tb_cn tb_ky tb_kb tb_hs 47 := ⟨Or.inl ⟨(tb_i9 (List.mem_of_getElem? (i := 222) rfl) rfl), rfl⟩, (tb_i1 (List.mem_of_getElem? (i := 12) rfl) rfl), tb_nh12, plainFor_of_name tb_pn12, rfl, fun h => Bool.noConfusion h⟩
set_option maxRecDepth 20000 in
theorem tb_k48 : mm_cf tb_P tb_TB tb_cn tb_ky tb_kb tb_hs 48 := ⟨Or.inl ⟨(tb_i9 (List.mem_of_getElem? (i := 226) rfl) rfl), rfl⟩, (tb_i1 (List.mem_of_getElem? (i := 12) rfl) rfl), tb_nh12, plainFor_of_name tb_pn12, rfl, fun h => Bool.noConfusion h⟩
set_option maxRecDepth 20000 in
theorem tb_k49 : mm_cf tb_P tb_TB tb_cn tb_ky tb_kb tb_hs 49 := ⟨Or.inl ⟨(tb_i9 (List.mem_of_getElem? (i := 230) rfl) rfl), rfl⟩, (tb_i1 (List.mem_of_getElem? (i := 12) rfl) rfl), tb_nh12, plainFor_of_name tb_pn12, rfl, fun h => Bool.noConfusion h⟩
set_option maxRecDepth 20000 in
theorem tb_k50 : mm_cf tb_P tb_TB tb_cn tb_ky tb_kb tb_hs 50 := ⟨Or.inl ⟨(tb_i9 (List.mem_of_getElem? (i := 234) rfl) rfl), rfl⟩, (tb_i1 (List.mem_of_getElem? (i := 12) rfl) rfl), tb_nh12, plainFor_of_name tb_pn12, rfl, fun h => Bool.noConfusion h⟩
set_option maxRecDepth 20000 in
theorem tb_k51 : mm_cf tb_P tb_TB tb_cn tb_ky tb_kb tb_hs 51 := ⟨Or.inl ⟨(tb_i9 (List.mem_of_getElem? (i := 238) rfl) rfl), rfl⟩, (tb_i1 (List.mem_of_getElem? (i := 12) rfl) rfl), tb_nh12, plainFor_of_name tb_pn12, rfl, fun h => Bool.noConfusion h⟩
set_option maxRecDepth 20000 in
theorem tb_k52 : mm_cf tb_P tb_TB tb_cn tb_ky tb_kb tb_hs 52 := ⟨Or.inl ⟨(tb_i10 (List.mem_of_getElem? (i := 2) rfl) rfl), rfl⟩, (tb_i1 (List.mem_of_getElem? (i := 12) rfl) rfl), tb_nh12, plainFor_of_name tb_pn12, rfl, fun h => Bool.noConfusion h⟩
set_option maxRecDepth 20000 in
theorem tb_k53 : mm_cf tb_P tb_TB tb_cn tb_ky tb_kb tb_hs 53 := ⟨Or.inl ⟨(tb_i10 (List.mem_of_getElem? (i := 6) rfl) rfl), rfl⟩, (tb_i1 (List.mem_of_getElem? (i := 12) rfl) rfl), tb_nh12, plainFor_of_name tb_pn12, rfl, fun h => Bool.noConfusion h⟩
set_option maxRecDepth 20000 in
theorem tb_k54 : mm_cf tb_P tb_TB tb_cn tb_ky tb_kb tb_hs 54 := ⟨Or.inl ⟨(tb_i10 (List.mem_of_getElem? (i := 10) rfl) rfl), rfl⟩, (tb_i1 (List.mem_of_getElem? (i := 12) rfl) rfl), tb_nh12, plainFor_of_name tb_pn12, rfl, fun h => Bool.noConfusion h⟩
set_option maxRecDepth 20000 in
theorem tb_k55 : mm_cf tb_P tb_TB tb_cn tb_ky tb_kb tb_hs 55 := ⟨Or.inl ⟨(tb_i10 (List.mem_of_getElem? (i := 14) rfl) rfl), rfl⟩, (tb_i1 (List.mem_of_getElem? (i := 12) rfl) rfl), tb_nh12, plainFor_of_name tb_pn12, rfl, fun h => Bool.noConfusion h⟩
set_option maxRecDepth 20000 in
theorem tb_k56 : mm_cf tb_P tb_TB tb_cn tb_ky tb_kb tb_hs 56 := ⟨Or.inl ⟨(tb_i10 (List.mem_of_getElem? (i := 18) rfl) rfl), rfl⟩, (tb_i1 (List.mem_of_getElem? (i := 12) rfl) rfl), tb_nh12, plainFor_of_name tb_pn12, rfl, fun h => Bool.noConfusion h⟩
set_option maxRecDepth 20000 in
theorem tb_k57 : mm_cf tb_P tb_TB tb_cn tb_ky tb_kb tb_hs 57 := ⟨Or.inl ⟨(tb_i10 (List.mem_of_getElem? (i := 22) rfl) rfl), rfl⟩, (tb_i1 (List.mem_of_getElem? (i := 12) rfl) rfl), tb_nh12, plainFor_of_name tb_pn12, rfl, fun h => Bool.noConfusion h⟩
set_option maxRecDepth 20000 in
theorem tb_k58 : mm_cf tb_P tb_TB tb_cn tb_ky tb_kb tb_hs 58 := ⟨Or.inl ⟨(tb_i10 (List.mem_of_getElem? (i := 26) rfl) rfl), rfl⟩, (tb_i1 (List.mem_of_getElem? (i := 12) rfl) rfl), tb_nh12, plainFor_of_name tb_pn12, rfl, fun h => Bool.noConfusion h⟩
set_option maxRecDepth 20000 in
theorem tb_k59 : mm_cf tb_P tb_TB tb_cn tb_ky tb_kb tb_hs 59 := ⟨Or.inl ⟨(tb_i10 (List.mem_of_getElem? (i := 30) rfl) rfl), rfl⟩, (tb_i1 (List.mem_of_getElem? (i := 12) rfl) rfl), tb_nh12, plainFor_of_name tb_pn12, rfl, fun h => Bool.noConfusion h⟩
set_option maxRecDepth 20000 in
theorem tb_k60 : mm_cf tb_P tb_TB tb_cn tb_ky tb_kb tb_hs 60 := ⟨Or.inl ⟨(tb_i10 (List.mem_of_getElem? (i := 34) rfl) rfl), rfl⟩, (tb_i1 (List.mem_of_getElem? (i := 12) rfl) rfl), tb_nh12, plainFor_of_name tb_pn12, rfl, fun h => Bool.noConfusion h⟩
set_option maxRecDepth 20000 in
theorem tb_k61 : mm_cf tb_P tb_TB tb_cn tb_ky tb_kb tb_hs 61 := ⟨Or.inl ⟨(tb_i10 (List.mem_of_getElem? (i := 38) rfl) rfl), rfl⟩, (tb_i1 (List.mem_of_getElem? (i := 12) rfl) rfl), tb_nh12, plainFor_of_name tb_pn12, rfl, fun h => Bool.noConfusion h⟩
set_option maxRecDepth 20000 in
theorem tb_k62 : mm_cf tb_P tb_TB tb_cn tb_ky tb_kb tb_hs 62 := ⟨Or.inl ⟨(tb_i10 (List.mem_of_getElem? (i := 42) rfl) rfl), rfl⟩, (tb_i1 (List.mem_of_getElem? (i := 12) rfl) rfl), tb_nh12, plainFor_of_name tb_pn12, rfl, fun h => Bool.noConfusion h⟩
set_option maxRecDepth 20000 in
theorem tb_k63 : mm_cf tb_P tb_TB tb_cn tb_ky tb_kb tb_hs 63 := ⟨Or.inl ⟨(tb_i10 (List.mem_of_getElem? (i := 46) rfl) rfl), rfl⟩, (tb_i1 (List.mem_of_getElem? (i := 12) rfl) rfl), tb_nh12, plainFor_of_name tb_pn12, rfl, fun h => Bool.noConfusion h⟩
set_option maxRecDepth 20000 in
theorem tb_k64 : mm_cf tb_P tb_TB tb_cn tb_ky tb_kb tb_hs 64 := ⟨Or.inl ⟨(tb_i10 (List.mem_of_getElem? (i := 50) rfl) rfl), rfl⟩, (tb_i1 (List.mem_of_getElem? (i := 12) rfl) rfl), tb_nh12, plainFor_of_name tb_pn12, rfl, fun h => Bool.noConfusion h⟩
set_option maxRecDepth 20000 in
theorem tb_k65 : mm_cf tb_P tb_TB tb_cn tb_ky tb_kb tb_hs 65 := ⟨Or.inl ⟨(tb_i10 (List.mem_of_getElem? (i := 54) rfl) rfl), rfl⟩, (tb_i1 (List.mem_of_getElem? (i := 12) rfl) rfl), tb_nh12, plainFor_of_name tb_pn12, rfl, fun h => Bool.noConfusion h⟩
set_option maxRecDepth 20000 in
theorem tb_k66 : mm_cf tb_P tb_TB tb_cn tb_ky tb_kb tb_hs 66 := ⟨Or.inl ⟨(tb_i10 (List.mem_of_getElem? (i := 58) rfl) rfl), rfl⟩, (tb_i1 (List.mem_of_getElem? (i := 12) rfl) rfl), tb_nh12, plainFor_of_name tb_pn12, rfl, fun h => Bool.noConfusion h⟩
set_option maxRecDepth 20000 in
theorem tb_k67 : mm_cf tb_P tb_TB tb_cn tb_ky tb_kb tb_hs 67 := ⟨Or.inl ⟨(tb_i10 (List.mem_of_getElem? (i := 62) rfl) rfl), rfl⟩, (tb_i1 (List.mem_of_getElem? (i := 12) rfl) rfl), tb_nh12, plainFor_of_name tb_pn12, rfl, fun h => Bool.noConfusion h⟩
set_option maxRecDepth 20000 in
theorem tb_k68 : mm_cf tb_P tb_TB tb_cn tb_ky tb_kb tb_hs 68 := ⟨Or.inl ⟨(tb_i10 (List.mem_of_getElem? (i := 66) rfl) rfl), rfl⟩, (tb_i1 (List.mem_of_getElem? (i := 12) rfl) rfl), tb_nh12, plainFor_of_name tb_pn12, rfl, fun h => Bool.noConfusion h⟩
set_option maxRecDepth 20000 in
theorem tb_k69 : mm_cf tb_P tb_TB tb_cn tb_ky tb_kb tb_hs 69 := ⟨Or.inl ⟨(tb_i10 (List.mem_of_getElem? (i := 70) rfl) rfl), rfl⟩, (tb_i1 (List.mem_of_getElem? (i := 12) rfl) rfl), tb_nh12, plainFor_of_name tb_pn12, rfl, fun h => Bool.noConfusion h⟩
set_option maxRecDepth 20000 in
theorem tb_k70 : mm_cf tb_P tb_TB tb_cn tb_ky tb_kb tb_hs 70 := ⟨Or.inl ⟨(tb_i10 (List.mem_of_getElem? (i := 73) rfl) rfl), rfl⟩, (tb_i1 (List.mem_of_getElem? (i := 12) rfl) rfl), tb_nh12, plainFor_of_name tb_pn12, rfl, fun h => Bool.noConfusion h⟩
set_option maxRecDepth 20000 in
theorem tb_k71 : mm_cf tb_P tb_TB tb_cn tb_ky tb_kb tb_hs 71 := ⟨Or.inl ⟨(tb_i10 (List.mem_of_getElem? (i := 79) rfl) rfl), rfl⟩, (tb_i1 (List.mem_of_getElem? (i := 12) rfl) rfl), tb_nh12, plainFor_of_name tb_pn12, rfl, fun h => Bool.noConfusion h⟩
set_option maxRecDepth 20000 in
theorem tb_k72 : mm_cf tb_P tb_TB tb_cn tb_ky tb_kb tb_hs 72 := ⟨Or.inl ⟨(tb_i10 (List.mem_of_getElem? (i := 83) rfl) rfl), rfl⟩, (tb_i1 (List.mem_of_getElem? (i := 12) rfl) rfl), tb_nh12, plainFor_of_name tb_pn12, rfl, fun h => Bool.noConfusion h⟩
set_option maxRecDepth 20000 in
theorem tb_k73 : mm_cf tb_P tb_TB tb_cn tb_ky tb_kb tb_hs 73 := ⟨Or.inl ⟨(tb_i10 (List.mem_of_getElem? (i := 87) rfl) rfl), rfl⟩, (tb_i1 (List.mem_of_getElem? (i := 12) rfl) rfl), tb_nh12, plainFor_of_name tb_pn12, rfl, fun h => Bool.noConfusion h⟩
set_option maxRecDepth 20000 in
theorem tb_k74 : mm_cf tb_P tb_TB tb_cn tb_ky tb_kb tb_hs 74 := ⟨Or.inl ⟨(tb_i10 (List.mem_of_getElem? (i := 91) rfl) rfl), rfl⟩, (tb_i1 (List.mem_of_getElem? (i := 12) rfl) rfl), tb_nh12, plainFor_of_name tb_pn12, rfl, fun h => Bool.noConfusion h⟩
set_option maxRecDepth 20000 in
theorem tb_k75 : mm_cf tb_P tb_TB tb_cn tb_ky tb_kb tb_hs 75 := ⟨Or.inl ⟨(tb_i10 (List.mem_of_getElem? (i := 95) rfl) rfl), rfl⟩, (tb_i1 (List.mem_of_getElem? (i := 12) rfl) rfl), tb_nh12, plainFor_of_name tb_pn12, rfl, fun h => Bool.noConfusion h⟩
set_option maxRecDepth 20000 in
theorem tb_k76 : mm_cf tb_P tb_TB tb_cn tb_ky tb_kb tb_hs 76 := ⟨Or.inl ⟨(tb_i10 (List.mem_of_getElem? (i := 98) rfl) rfl), rfl⟩, (tb_i1 (List.mem_of_getElem? (i := 12) rfl) rfl), tb_nh12, plainFor_of_name tb_pn12, rfl, fun h => Bool.noConfusion h⟩
set_option maxRecDepth 20000 in
theorem tb_k77 : mm_cf tb_P tb_TB tb_cn tb_ky tb_kb tb_hs 77 := ⟨Or.inl ⟨(tb_i10 (List.mem_of_getElem? (i := 106) rfl) rfl), rfl⟩, (tb_i1 (List.mem_of_getElem? (i := 12) rfl) rfl), tb_nh12, plainFor_of_name tb_pn12, rfl, fun h => Bool.noConfusion h⟩
set_option maxRecDepth 20000 in
theorem tb_k78 : mm_cf tb_P tb_TB tb_cn tb_ky tb_kb tb_hs 78 := ⟨Or.inl ⟨(tb_i10 (List.mem_of_getElem? (i := 110) rfl) rfl), rfl⟩, (tb_i1 (List.mem_of_getElem? (i := 12) rfl) rfl), tb_nh12, plainFor_of_name tb_pn12, rfl, fun h => Bool.noConfusion h⟩
set_option maxRecDepth 20000 in
theorem tb_k79 : mm_cf tb_P tb_TB tb_cn tb_ky tb_kb tb_hs 79 := ⟨Or.inl ⟨(tb_i10 (List.mem_of_getElem? (i := 114) rfl) rfl), rfl⟩, (tb_i1 (List.mem_of_getElem? (i := 12) rfl) rfl), tb_nh12, plainFor_of_name tb_pn12, rfl, fun h => Bool.noConfusion h⟩
set_option maxRecDepth 20000 in
theorem tb_k80 : mm_cf tb_P tb_TB tb_cn tb_ky tb_kb tb_hs 80 := ⟨Or.inl ⟨(tb_i10 (List.mem_of_getElem? (i := 118) rfl) rfl), rfl⟩, (tb_i1 (List.mem_of_getElem? (i := 12) rfl) rfl), tb_nh12, plainFor_of_name tb_pn12, rfl, fun h => Bool.noConfusion h⟩
set_option maxRecDepth 20000 in
theorem tb_k81 : mm_cf tb_P tb_TB tb_cn tb_ky tb_kb tb_hs 81 := ⟨Or.inl ⟨(tb_i10 (List.mem_of_getElem? (i := 122) rfl) rfl), rfl⟩, (tb_i1 (List.mem_of_getElem? (i := 12) rfl) rfl), tb_nh12, plainFor_of_name tb_pn12, rfl, fun h => Bool.noConfusion h⟩
set_option maxRecDepth 20000 in
theorem tb_k82 : mm_cf tb_P tb_TB tb_cn tb_ky tb_kb tb_hs 82 := ⟨Or.inl ⟨(tb_i10 (List.mem_of_getElem? (i := 126) rfl) rfl), rfl⟩, (tb_i1 (List.mem_of_getElem? (i := 12) rfl) rfl), tb_nh12, plainFor_of_name tb_pn12, rfl, fun h => Bool.noConfusion h⟩
set_option maxRecDepth 20000 in
theorem tb_k83 : mm_cf tb_P tb_TB tb_cn tb_ky tb_kb tb_hs 83 := ⟨Or.inl ⟨(tb_i10 (List.mem_of_getElem? (i := 130) rfl) rfl), rfl⟩, (tb_i1 (List.mem_of_getElem? (i := 12) rfl) rfl), tb_nh12, plainFor_of_name tb_pn12, rfl, fun h => Bool.noConfusion h⟩
set_option maxRecDepth 20000 in
theorem tb_k84 : mm_cf tb_P tb_TB tb_cn tb_ky tb_kb tb_hs 84 := ⟨Or.inl ⟨(tb_i10 (List.mem_of_getElem? (i := 134) rfl) rfl), rfl⟩, (tb_i1 (List.mem_of_getElem? (i := 12) rfl) rfl), tb_nh12, plainFor_of_name tb_pn12, rfl, fun h => Bool.noConfusion h⟩
set_option maxRecDepth 20000 in
theorem tb_k85 : mm_cf tb_P tb_TB tb_cn tb_ky tb_kb tb_hs 85 := ⟨Or.inl ⟨(tb_i10 (List.mem_of_getElem? (i := 138) rfl) rfl), rfl⟩, (tb_i1 (List.mem_of_getElem? (i := 12) rfl) rfl), tb_nh12, plainFor_of_name tb_pn12, rfl, fun h => Bool.noConfusion h⟩
set_option maxRecDepth 20000 in
theorem tb_k86 : mm_cf tb_P tb_TB tb_cn tb_ky tb_kb tb_hs 86 := ⟨Or.inl ⟨(tb_i10 (List.mem_of_getElem? (i := 142) rfl) rfl), rfl⟩, (tb_i1 (List.mem_of_getElem? (i := 12) rfl) rfl), tb_nh12, plainFor_of_name tb_pn12, rfl, fun h => Bool.noConfusion h⟩
set_option maxRecDepth 20000 in
theorem tb_k87 : mm_cf tb_P tb_TB tb_cn tb_ky tb_kb tb_hs 87 := ⟨Or.inl ⟨(tb_i10 (List.mem_of_getElem? (i := 146) rfl) rfl), rfl⟩, (tb_i1 (List.mem_of_getElem? (i := 12) rfl) rfl), tb_nh12, plainFor_of_name tb_pn12, rfl, fun h => Bool.noConfusion h⟩
set_option maxRecDepth 20000 in
theorem tb_k88 : mm_cf tb_P tb_TB tb_cn tb_ky tb_kb tb_hs 88 := ⟨Or.inl ⟨(tb_i10 (List.mem_of_getElem? (i := 150) rfl) rfl), rfl⟩, (tb_i1 (List.mem_of_getElem? (i := 12) rfl) rfl), tb_nh12, plainFor_of_name tb_pn12, rfl, fun h => Bool.noConfusion h⟩
set_option maxRecDepth 20000 in
theorem tb_k89 : mm_cf tb_P tb_TB tb_cn tb_ky tb_kb tb_hs 89 := ⟨Or.inl ⟨(tb_i10 (List.mem_of_getElem? (i := 154) rfl) rfl), rfl⟩, (tb_i1 (List.mem_of_getElem? (i := 12) rfl) rfl), tb_nh12, plainFor_of_name tb_pn12, rfl, fun h => Bool.noConfusion h⟩
set_option maxRecDepth 20000 in
theorem tb_k90 : mm_cf tb_P tb_TB tb_cn tb_ky tb_kb tb_hs 90 := ⟨Or.inl ⟨(tb_i10 (List.mem_of_getElem? (i := 158) rfl) rfl), rfl⟩, (tb_i1 (List.mem_of_getElem? (i := 12) rfl) rfl), tb_nh12, plainFor_of_name tb_pn12, rfl, fun h => Bool.noConfusion h⟩
set_option maxRecDepth 20000 in
theorem tb_k91 : mm_cf tb_P tb_TB tb_cn tb_ky tb_kb tb_hs 91 := ⟨Or.inl ⟨(tb_i10 (List.mem_of_getElem? (i := 162) rfl) rfl), rfl⟩, (tb_i1 (List.mem_of_getElem? (i := 12) rfl) rfl), tb_nh12, plainFor_of_name tb_pn12, rfl, fun h => Bool.noConfusion h⟩
set_option maxRecDepth 20000 in
theorem tb_k92 : mm_cf tb_P tb_TB tb_cn tb_ky tb_kb tb_hs 92 := ⟨Or.inl ⟨(tb_i10 (List.mem_of_getElem? (i := 166) rfl) rfl), rfl⟩, (tb_i1 (List.mem_of_getElem? (i := 12) rfl) rfl), tb_nh12, plainFor_of_name tb_pn12, rfl, fun h => Bool.noConfusion h⟩
set_option maxRecDepth 20000 in
theorem tb_k93 : mm_cf tb_P tb_TB tb_cn tb_ky tb_kb tb_hs 93 := ⟨Or.inl ⟨(tb_i10 (List.mem_of_getElem? (i := 170) rfl) rfl), rfl⟩, (tb_i1 (List.mem_of_getElem? (i := 12) rfl) rfl), tb_nh12, plainFor_of_name tb_pn12, rfl, fun h => Bool.noConfusion h⟩
set_option maxRecDepth 20000 in
theorem tb_k94 : mm_cf tb_P tb_TB tb_cn tb_ky tb_kb tb_hs 94 := ⟨Or.inl ⟨(tb_i10 (List.mem_of_getElem? (i := 174) rfl) rfl), rfl⟩, (tb_i1 (List.mem_of_getElem? (i := 12) rfl) rfl), tb_nh12, plainFor_of_name tb_pn12, rfl, fun h => Bool.noConfusion h⟩
set_option maxRecDepth 20000 in
theorem tb_k95 : mm_cf tb_P tb_TB tb_cn tb_ky tb_kb tb_hs 95 := ⟨Or.inl ⟨(tb_i10 (List.mem_of_getElem? (i := 178) rfl) rfl), rfl⟩, (tb_i1 (List.mem_of_getElem? (i := 12) rfl) rfl), tb_nh12, plainFor_of_name tb_pn12, rfl, fun h => Bool.noConfusion h⟩
set_option maxRecDepth 20000 in
theorem tb_k96 : mm_cf tb_P tb_TB tb_cn tb_ky tb_kb tb_hs 96 := ⟨Or.inl ⟨(tb_i10 (List.mem_of_getElem? (i := 182) rfl) rfl), rfl⟩, (tb_i1 (List.mem_of_getElem? (i := 12) rfl) rfl), tb_nh12, plainFor_of_name tb_pn12, rfl, fun h => Bool.noConfusion h⟩
set_option maxRecDepth 20000 in
theorem tb_k97 : mm_cf tb_P tb_TB tb_cn tb_ky tb_kb tb_hs 97 := ⟨Or.inl ⟨(tb_i10 (List.mem_of_getElem? (i := 186) rfl) rfl), rfl⟩, (tb_i1 (List.mem_of_getElem? (i := 12) rfl) rfl), tb_nh12, plainFor_of_name tb_pn12, rfl, fun h => Bool.noConfusion h⟩
set_option maxRecDepth 20000 in
theorem tb_k98 : mm_cf tb_P tb_TB tb_cn tb_ky tb_kb tb_hs 98 := ⟨Or.inl ⟨(tb_i10 (List.mem_of_getElem? (i := 190) rfl) rfl), rfl⟩, (tb_i1 (List.mem_of_getElem? (i := 12) rfl) rfl), tb_nh12, plainFor_of_name tb_pn12, rfl, fun h => Bool.noConfusion h⟩
set_option maxRecDepth 20000 in
theorem tb_k99 : mm_cf tb_P tb_TB tb_cn tb_ky tb_kb tb_hs 99 := ⟨Or.inl ⟨(tb_i10 (List.mem_of_getElem? (i := 194) rfl) rfl), rfl⟩, (tb_i1 (List.mem_of_getElem? (i := 12) rfl) rfl), tb_nh12, plainFor_of_name tb_pn12, rfl, fun h => Bool.noConfusion h⟩
set_option maxRecDepth 20000 in
theorem tb_k100 : mm_cf tb_P tb_TB tb_cn tb_ky tb_kb tb_hs 100 := ⟨Or.inl ⟨(tb_i10 (List.mem_of_getElem? (i := 198) rfl) rfl), rfl⟩, (tb_i1 (List.mem_of_getElem? (i := 12) rfl) rfl), tb_nh12, plainFor_of_name tb_pn12, rfl, fun h => Bool.noConfusion h⟩
set_option maxRecDepth 20000 in
theorem tb_k101 : mm_cf tb_P tb_TB tb_cn tb_ky tb_kb tb_hs 101 := ⟨Or.inl ⟨(tb_i10 (List.mem_of_getElem? (i := 202) rfl) rfl), rfl⟩, (tb_i1 (List.mem_of_getElem? (i := 12) rfl) rfl), tb_nh12, plainFor_of_name tb_pn12, rfl, fun h => Bool.noConfusion h⟩
set_option maxRecDepth 20000 in
theorem tb_k102 : mm_cf tb_P tb_TB tb_cn tb_ky tb_kb tb_hs 102 := ⟨Or.inl ⟨(tb_i10 (List.mem_of_getElem? (i := 206) rfl) rfl), rfl⟩, (tb_i1 (List.mem_of_getElem? (i := 12) rfl) rfl), tb_nh12, plainFor_of_name tb_pn12, rfl, fun h => Bool.noConfusion h⟩
set_option maxRecDepth 20000 in
theorem tb_k103 : mm_cf tb_P tb_TB tb_cn tb_ky tb_kb tb_hs 103 := ⟨Or.inl ⟨(tb_i10 (List.mem_of_getElem? (i := 210) rfl) rfl), rfl⟩, (tb_i1 (List.mem_of_getElem? (i := 12) rfl) rfl), tb_nh12, plainFor_of_name tb_pn12, rfl, fun h => Bool.noConfusion h⟩
set_option maxRecDepth 20000 in
theorem tb_k104 : mm_cf tb_P tb_TB tb_cn tb_ky tb_kb tb_hs 104 := ⟨Or.inl ⟨(tb_i10 (List.mem_of_getElem? (i := 214) rfl) rfl), rfl⟩, (tb_i1 (List.mem_of_getElem? (i := 12) rfl) rfl), tb_nh12, plainFor_of_name tb_pn12, rfl, fun h => Bool.noConfusion h⟩
set_option maxRecDepth 20000 in
theorem tb_k105 : mm_cf tb_P tb_TB tb_cn tb_ky tb_kb tb_hs 105 := ⟨Or.inl ⟨(tb_i10 (List.mem_of_getElem? (i := 217) rfl) rfl), rfl⟩, (tb_i1 (List.mem_of_getElem? (i := 12) rfl) rfl), tb_nh12, plainFor_of_name tb_pn12, rfl, fun h => Bool.noConfusion h⟩
set_option maxRecDepth 20000 in
theorem tb_k106 : mm_cf tb_P tb_TB tb_cn tb_ky tb_kb tb_hs 106 := ⟨Or.inl ⟨(tb_i10 (List.mem_of_getElem? (i := 222) rfl) rfl), rfl⟩, (tb_i1 (List.mem_of_getElem? (i := 12) rfl) rfl), tb_nh12, plainFor_of_name tb_pn12, rfl, fun h => Bool.noConfusion h⟩
set_option maxRecDepth 20000 in
theorem tb_k107 : mm_cf tb_P tb_TB tb_cn tb_ky tb_kb tb_hs 107 := ⟨Or.inl ⟨(tb_i10 (List.mem_of_getElem? (i := 226) rfl) rfl), rfl⟩, (tb_i1 (List.mem_of_getElem? (i := 12) rfl) rfl), tb_nh12, plainFor_of_name tb_pn12, rfl, fun h => Bool.noConfusion h⟩
set_option maxRecDepth 20000 in
theorem tb_k108 : mm_cf tb_P tb_TB tb_cn tb_ky tb_kb tb_hs 108 := ⟨Or.inl ⟨(tb_i10 (List.mem_of_getElem? (i := 230) rfl) rfl), rfl⟩, (tb_i1 (List.mem_of_getElem? (i := 12) rfl) rfl), tb_nh12, plainFor_of_name tb_pn12, rfl, fun h => Bool.noConfusion h⟩
set_option maxRecDepth 20000 in
theorem tb_k109 : mm_cf tb_P tb_TB tb_cn tb_ky tb_kb tb_hs 109 := ⟨Or.inl ⟨(tb_i10 (List.mem_of_getElem? (i := 234) rfl) rfl), rfl⟩, (tb_i1 (List.mem_of_getElem? (i := 12) rfl) rfl), tb_nh12, plainFor_of_name tb_pn12, rfl, fun h => Bool.noConfusion h⟩
set_option maxRecDepth 20000 in
theorem tb_k110 : mm_cf tb_P tb_TB tb_cn tb_ky tb_kb tb_hs 110 := ⟨Or.inl ⟨(tb_i10 (List.mem_of_getElem? (i := 238) rfl) rfl), rfl⟩, (tb_i1 (List.mem_of_getElem? (i := 12) rfl) rfl), tb_nh12, plainFor_of_name tb_pn12, rfl, fun h => Bool.noConfusion h⟩
set_option maxRecDepth 20000 in
theorem tb_k111 : mm_cf tb_P tb_TB tb_cn tb_ky tb_kb tb_hs 111 := ⟨Or.inl ⟨(tb_i11 (List.mem_of_getElem? (i := 1) rfl) rfl), rfl⟩, (tb_i1 (List.mem_of_getElem? (i := 12) rfl) rfl), tb_nh12, plainFor_of_name tb_pn12, rfl, fun h => Bool.noConfusion h⟩
set_option maxRecDepth 20000 in
theorem tb_k112 : mm_cf tb_P tb_TB tb_cn tb_ky tb_kb tb_hs 112 := ⟨Or.inl ⟨(tb_i11 (List.mem_of_getElem? (i := 5) rfl) rfl), rfl⟩, (tb_i1 (List.mem_of_getElem? (i := 12) rfl) rfl), tb_nh12, plainFor_of_name tb_pn12, rfl, fun h => Bool.noConfusion h⟩
set_option maxRecDepth 20000 in
theorem tb_k113 : mm_cf tb_P tb_TB tb_cn tb_ky tb_kb tb_hs 113 := ⟨Or.inl ⟨(tb_i11 (List.mem_of_getElem? (i := 9) rfl) rfl), rfl⟩, (tb_i1 (List.mem_of_getElem? (i := 12) rfl) rfl), tb_nh12, plainFor_of_name tb_pn12, rfl, fun h => Bool.noConfusion h⟩
set_option maxRecDepth 20000 in
theorem tb_k114 : mm_cf tb_P tb_TB tb_cn tb_ky tb_kb tb_hs 114 := ⟨Or.inl ⟨(tb_i11 (List.mem_of_getElem? (i := 13) rfl) rfl), rfl⟩, (tb_i1 (List.mem_of_getElem? (i := 12) rfl) rfl), tb_nh12, plainFor_of_name tb_pn12, rfl, fun h => Bool.noConfusion h⟩
set_option maxRecDepth 20000 in
theorem tb_k115 : mm_cf tb_P tb_TB tb_cn tb_ky tb_kb tb_hs 115 := ⟨Or.inl ⟨(tb_i11 (List.mem_of_getElem? (i := 17) rfl) rfl), rfl⟩, (tb_i1 (List.mem_of_getElem? (i := 12) rfl) rfl), tb_nh12, plainFor_of_name tb_pn12, rfl, fun h => Bool.noConfusion h⟩
set_option maxRecDepth 20000 in
theorem tb_k116 : mm_cf tb_P tb_TB tb_cn tb_ky tb_kb tb_hs 116 := ⟨Or.inl ⟨(tb_i11 (List.mem_of_getElem? (i := 21) rfl) rfl), rfl⟩, (tb_i1 (List.mem_of_getElem? (i := 12) rfl) rfl), tb_nh12, plainFor_of_name tb_pn12, rfl, fun h => Bool.noConfusion h⟩
set_option maxRecDepth 20000 in
theorem tb_k117 : mm_cf tb_P tb_TB tb_cn tb_ky tb_kb tb_hs 117 := ⟨Or.inl ⟨(tb_i11 (List.mem_of_getElem? (i := 25) rfl) rfl), rfl⟩, (tb_i1 (List.mem_of_getElem? (i := 12) rfl) rfl), tb_nh12, plainFor_of_name tb_pn12, rfl, fun h => Bool.noConfusion h⟩
set_option maxRecDepth 20000 in
theorem tb_k118 : mm_cf tb_P tb_TB tb_cn tb_ky tb_kb tb_hs 118 := ⟨Or.inl ⟨(tb_i11 (List.mem_of_getElem? (i := 29) rfl) rfl), rfl⟩, (tb_i1 (List.mem_of_getElem? (i := 12) rfl) rfl), tb_nh12, plainFor_of_name tb_pn12, rfl, fun h => Bool.noConfusion h⟩
set_option maxRecDepth 20000 in
theorem tb_k119 : mm_cf tb_P tb_TB tb_cn tb_ky tb_kb tb_hs 119 := ⟨Or.inl ⟨(tb_i11 (List.mem_of_getElem? (i := 33) rfl) rfl), rfl⟩, (tb_i1 (List.mem_of_getElem? (i := 12) rfl) rfl), tb_nh12, plainFor_of_name tb_pn12, rfl, fun h => Bool.noConfusion h⟩
set_option maxRecDepth 20000 in
theorem tb_k120 : mm_cf tb_P tb_TB tb_cn tb_ky tb_kb tb_hs 120 := ⟨Or.inl ⟨(tb_i11 (List.mem_of_getElem? (i := 37) rfl) rfl), rfl⟩, (tb_i1 (List.mem_of_getElem? (i := 12) rfl) rfl), tb_nh12, plainFor_of_name tb_pn12, rfl, fun h => Bool.noConfusion h⟩
set_option maxRecDepth 20000 in
theorem tb_k121 : mm_cf tb_P tb_TB tb_cn tb_ky tb_kb tb_hs 121 := ⟨Or.inl ⟨(tb_i11 (List.mem_of_getElem? (i := 41) rfl) rfl), rfl⟩, (tb_i1 (List.mem_of_getElem? (i := 12) rfl) rfl), tb_nh12, plainFor_of_name tb_pn12, rfl, fun h => Bool.noConfusion h⟩
set_option maxRecDepth 20000 in
theorem tb_k122 : mm_cf tb_P tb_TB tb_cn tb_ky tb_kb tb_hs 122 := ⟨Or.inl ⟨(tb_i11 (List.mem_of_getElem? (i := 45) rfl) rfl), rfl⟩, (tb_i1 (List.mem_of_getElem? (i := 12) rfl) rfl), tb_nh12, plainFor_of_name tb_pn12, rfl, fun h => Bool.noConfusion h⟩
set_option maxRecDepth 20000 in
theorem tb_k123 : mm_cf tb_P tb_TB tb_cn tb_ky tb_kb tb_hs 123 := ⟨Or.inl ⟨(tb_i11 (List.mem_of_getElem? (i := 49) rfl) rfl), rfl⟩, (tb_i1 (List.mem_of_getElem? (i := 12) rfl) rfl), tb_nh12, plainFor_of_name tb_pn12, rfl, fun h => Bool.noConfusion h⟩
set_option maxRecDepth 20000 in
theorem tb_k124 : mm_cf tb_P tb_TB tb_cn tb_ky tb_kb tb_hs 124 := ⟨Or.inl ⟨(tb_i11 (List.mem_of_getElem? (i := 53) rfl) rfl), rfl⟩, (tb_i1 (List.mem_of_getElem? (i := 12) rfl) rfl), tb_nh12, plainFor_of_name tb_pn12, rfl, fun h => Bool.noConfusion h⟩
set_option maxRecDepth 20000 in
theorem tb_k125 : mm_cf tb_P tb_TB tb_cn tb_ky tb_kb tb_hs 125 := ⟨Or.inl ⟨(tb_i11 (List.mem_of_getElem? (i := 57) rfl) rfl), rfl⟩, (tb_i1 (List.mem_of_getElem? (i := 12) rfl) rfl), tb_nh12, plainFor_of_name tb_pn12, rfl, fun h => Bool.noConfusion h⟩
set_option maxRecDepth 20000 in
theorem tb_k126 : mm_cf tb_P tb_TB tb_cn tb_ky tb_kb tb_hs 126 := ⟨Or.inl ⟨(tb_i11 (List.mem_of_getElem? (i := 61) rfl) rfl), rfl⟩, (tb_i1 (List.mem_of_getElem? (i := 12) rfl) rfl), tb_nh12, plainFor_of_name tb_pn12, rfl, fun h => Bool.noConfusion h⟩
set_option maxRecDepth 20000 in
theorem tb_k127 : mm_cf tb_P tb_TB tb_cn tb_ky tb_kb tb_hs 127 := ⟨Or.inl ⟨(tb_i11 (List.mem_of_getElem? (i := 65) rfl) rfl), rfl⟩, (tb_i1 (List.mem_of_getElem? (i := 12) rfl) rfl), tb_nh12, plainFor_of_name tb_pn12, rfl, fun h => Bool.noConfusion h⟩
set_option maxRecDepth 20000 in
theorem tb_k128 : mm_cf tb_P tb_TB tb_cn tb_ky tb_kb tb_hs 128 := ⟨Or.inl ⟨(tb_i11 (List.mem_of_getElem? (i := 69) rfl) rfl), rfl⟩, (tb_i1 (List.mem_of_getElem? (i := 12) rfl) rfl), tb_nh12, plainFor_of_name tb_pn12, rfl, fun h => Bool.noConfusion h⟩
set_option maxRecDepth 20000 in
theorem tb_k129 : mm_cf tb_P tb_TB tb_cn tb_ky tb_kb tb_hs 129 := ⟨Or.inl ⟨(tb_i11 (List.mem_of_getElem? (i := 73) rfl) rfl), rfl⟩, (tb_i1 (List.mem_of_getElem? (i := 12) rfl) rfl), tb_nh12, plainFor_of_name tb_pn12, rfl, fun h => Bool.noConfusion h⟩
set_option maxRecDepth 20000 in
theorem tb_k130 : mm_cf tb_P tb_TB tb_cn tb_ky tb_kb tb_hs 130 := ⟨Or.inl ⟨(tb_i11 (List.mem_of_getElem? (i := 76) rfl) rfl), rfl⟩, (tb_i1 (List.mem_of_getElem? (i := 12) rfl) rfl), tb_nh12, plainFor_of_name tb_pn12, rfl, fun h => Bool.noConfusion h⟩
set_option maxRecDepth 20000 in
theorem tb_k131 : mm_cf tb_P tb_TB tb_cn tb_ky tb_kb tb_hs 131 := ⟨Or.inl ⟨(tb_i11 (List.mem_of_getElem? (i := 79) rfl) rfl), rfl⟩, (tb_i1 (List.mem_of_getElem? (i := 12) rfl) rfl), tb_nh12, plainFor_of_name tb_pn12, rfl, fun h => Bool.noConfusion h⟩
set_option maxRecDepth 20000 in
theorem tb_k132 : mm_cf tb_P tb_TB tb_cn tb_ky tb_kb tb_hs 132 := ⟨Or.inl ⟨(tb_i11 (List.mem_of_getElem? (i := 83) rfl) rfl), rfl⟩, (tb_i1 (List.mem_of_getElem? (i := 12) rfl) rfl), tb_nh12, plainFor_of_name tb_pn12, rfl, fun h => Bool.noConfusion h⟩
set_option maxRecDepth 20000 in
theorem tb_k133 : mm_cf tb_P tb_TB tb_cn tb_ky tb_kb tb_hs 133 := ⟨Or.inl ⟨(tb_i11 (List.mem_of_getElem? (i := 88) rfl) rfl), rfl⟩, (tb_i1 (List.mem_of_getElem? (i := 12) rfl) rfl), tb_nh12, plainFor_of_name tb_pn12, rfl, fun h => Bool.noConfusion h⟩
set_option maxRecDepth 20000 in
theorem tb_k134 : mm_cf tb_P tb_TB tb_cn tb_ky tb_kb tb_hs 134 := ⟨Or.inl ⟨(tb_i11 (List.mem_of_getElem? (i := 92) rfl) rfl), rfl⟩, (tb_i1 (List.mem_of_getElem? (i := 12) rfl) rfl), tb_nh12, plainFor_of_name tb_pn12, rfl, fun h => Bool.noConfusion h⟩
set_option maxRecDepth 20000 in
theorem tb_k135 : mm_cf tb_P tb_TB tb_cn tb_ky tb_kb tb_hs 135 := ⟨Or.inl ⟨(tb_i11 (List.mem_of_getElem? (i := 96) rfl) rfl), rfl⟩, (tb_i1 (List.mem_of_getElem? (i := 12) rfl) rfl), tb_nh12, plainFor_of_name tb_pn12, rfl, fun h => Bool.noConfusion h⟩
set_option maxRecDepth 20000 in
theorem tb_k136 : mm_cf tb_P tb_TB tb_cn tb_ky tb_kb tb_hs 136 := ⟨Or.inl ⟨(tb_i11 (List.mem_of_getElem? (i := 100) rfl) rfl), rfl⟩, (tb_i1 (List.mem_of_getElem? (i := 12) rfl) rfl), tb_nh12, plainFor_of_name tb_pn12, rfl, fun h => Bool.noConfusion h⟩
set_option maxRecDepth 20000 in
theorem tb_k137 : mm_cf tb_P tb_TB tb_cn tb_ky tb_kb tb_hs 137 := ⟨Or.inl ⟨(tb_i11 (List.mem_of_getElem? (i := 105) rfl) rfl), rfl⟩, (tb_i1 (List.mem_of_getElem? (i := 12) rfl) rfl), tb_nh12, plainFor_of_name tb_pn12, rfl, fun h => Bool.noConfusion h⟩
set_option maxRecDepth 20000 in
theorem tb_k138 : mm_cf tb_P tb_TB tb_cn tb_ky tb_kb tb_hs 138 := ⟨Or.inl ⟨(tb_i11 (List.mem_of_getElem? (i := 110) rfl) rfl), rfl⟩, (tb_i1 (List.mem_of_getElem? (i := 12) rfl) rfl), tb_nh12, plainFor_of_name tb_pn12, rfl, fun h => Bool.noConfusion h⟩
set_option maxRecDepth 20000 in
theorem tb_k139 : mm_cf tb_P tb_TB tb_cn tb_ky tb_kb tb_hs 139 := ⟨Or.inl ⟨(tb_i11 (List.mem_of_getElem? (i := 114) rfl) rfl), rfl⟩, (tb_i1 (List.mem_of_getElem? (i := 12) rfl) rfl), tb_nh12, plainFor_of_name tb_pn12, rfl, fun h => Bool.noConfusion h⟩
set_option maxRecDepth 20000 in
theorem tb_k140 : mm_cf tb_P tb_TB tb_cn tb_ky tb_kb tb_hs 140 := ⟨Or.inl ⟨(tb_i11 (List.mem_of_getElem? (i := 118) rfl) rfl), rfl⟩, (tb_i1 (List.mem_of_getElem? (i := 12) rfl) rfl), tb_nh12, plainFor_of_name tb_pn12, rfl, fun h => Bool.noConfusion h⟩
set_option maxRecDepth 20000 in
theorem tb_k141 : mm_cf tb_P tb_TB tb_cn tb_ky tb_kb tb_hs 141 := ⟨Or.inl ⟨(tb_i11 (List.mem_of_getElem? (i := 121) rfl) rfl), rfl⟩, (tb_i1 (List.mem_of_getElem? (i := 12) rfl) rfl), tb_nh12, plainFor_of_name tb_pn12, rfl, fun h => Bool.noConfusion h⟩
set_option maxRecDepth 20000 in
theorem tb_k142 : mm_cf tb_P tb_TB tb_cn tb_ky tb_kb tb_hs 142 := ⟨Or.inl ⟨(tb_i11 (List.mem_of_getElem? (i := 125) rfl) rfl), rfl⟩, (tb_i1 (List.mem_of_getElem? (i := 12) rfl) rfl), tb_nh12, plainFor_of_name tb_pn12, rfl, fun h => Bool.noConfusion h⟩
set_option maxRecDepth 20000 in
theorem tb_k143 : mm_cf tb_P tb_TB tb_cn tb_ky tb_kb tb_hs 143 := ⟨Or.inl ⟨(tb_i11 (List.mem_of_getElem? (i := 129) rfl) rfl), rfl⟩, (tb_i1 (List.mem_of_getElem? (i := 12) rfl) rfl), tb_nh12, plainFor_of_name tb_pn12, rfl, fun h => Bool.noConfusion h⟩
set_option maxRecDepth 20000 in
theorem tb_k144 : mm_cf tb_P tb_TB tb_cn tb_ky tb_kb tb_hs 144 := ⟨Or.inl ⟨(tb_i11 (List.mem_of_getElem? (i := 133) rfl) rfl), rfl⟩, (tb_i1 (List.mem_of_getElem? (i := 12) rfl) rfl), tb_nh12, plainFor_of_name tb_pn12, rfl, fun h => Bool.noConfusion h⟩
set_option maxRecDepth 20000 in
theorem tb_k145 : mm_cf tb_P tb_TB tb_cn tb_ky tb_kb tb_hs 145 := ⟨Or.inl ⟨(tb_i11 (List.mem_of_getElem? (i := 137) rfl) rfl), rfl⟩, (tb_i1 (List.mem_of_getElem? (i := 12) rfl) rfl), tb_nh12, plainFor_of_name tb_pn12, rfl, fun h => Bool.noConfusion h⟩
set_option maxRecDepth 20000 in
theorem tb_k146 : mm_cf tb_P tb_TB tb_cn tb_ky tb_kb tb_hs 146 := ⟨Or.inl ⟨(tb_i11 (List.mem_of_getElem? (i := 141) rfl) rfl), rfl⟩, (tb_i1 (List.mem_of_getElem? (i := 12) rfl) rfl), tb_nh12, plainFor_of_name tb_pn12, rfl, fun h => Bool.noConfusion h⟩
set_option maxRecDepth 20000 in
theorem tb_k147 : mm_cf tb_P tb_TB tb_cn tb_ky tb_kb tb_hs 147 := ⟨Or.inl ⟨(tb_i11 (List.mem_of_getElem? (i := 146) rfl) rfl), rfl⟩, (tb_i1 (List.mem_of_getElem? (i := 12) rfl) rfl), tb_nh12, plainFor_of_name tb_pn12, rfl, fun h => Bool.noConfusion h⟩
set_option maxRecDepth 20000 in
theorem tb_k148 : mm_cf tb_P tb_TB tb_cn tb_ky tb_kb tb_hs 148 := ⟨Or.inl ⟨(tb_i11 (List.mem_of_getElem? (i := 150) rfl) rfl), rfl⟩, (tb_i1 (List.mem_of_getElem? (i := 12) rfl) rfl), tb_nh12, plainFor_of_name tb_pn12, rfl, fun h => Bool.noConfusion h⟩
set_option maxRecDepth 20000 in
theorem tb_k149 : mm_cf tb_P tb_TB tb_cn tb_ky tb_kb tb_hs 149 := ⟨Or.inl ⟨(tb_i11 (List.mem_of_getElem? (i := 154) rfl) rfl), rfl⟩, (tb_i1 (List.mem_of_getElem? (i := 12) rfl) rfl), tb_nh12, plainFor_of_name tb_pn12, rfl, fun h => Bool.noConfusion h⟩
set_option maxRecDepth 20000 in
theorem tb_k150 : mm_cf tb_P tb_TB tb_cn tb_ky tb_kb tb_hs 150 := ⟨Or.inl ⟨(tb_i11 (List.mem_of_getElem? (i := 159) rfl) rfl), rfl⟩, (tb_i1 (List.mem_of_getElem? (i := 12) rfl) rfl), tb_nh12, plainFor_of_name tb_pn12, rfl, fun h => Bool.noConfusion h⟩
set_option maxRecDepth 20000 in
theorem tb_k151 : mm_cf tb_P tb_TB tb_cn tb_ky tb_kb tb_hs 151 := ⟨Or.inl ⟨(tb_i11 (List.mem_of_getElem? (i := 164) rfl) rfl), rfl⟩, (tb_i1 (List.mem_of_getElem? (i := 12) rfl) rfl), tb_nh12, plainFor_of_name tb_pn12, rfl, fun h => Bool.noConfusion h⟩
set_option maxRecDepth 20000 in
theorem tb_k152 : mm_cf tb_P tb_TB tb_cn tb_ky tb_kb tb_hs 152 := ⟨Or.inl ⟨(tb_i11 (List.mem_of_getElem? (i := 169) rfl) rfl), rfl⟩, (tb_i1 (List.mem_of_getElem? (i := 12) rfl) rfl), tb_nh12, plainFor_of_name tb_pn12, rfl, fun h => Bool.noConfusion h⟩
set_option maxRecDepth 20000 in
theorem tb_k153 : mm_cf tb_P tb_TB tb_cn tb_ky tb_kb tb_hs 153 := ⟨Or.inl ⟨(tb_i11 (List.mem_of_getElem? (i := 172) rfl) rfl), rfl⟩, (tb_i1 (List.mem_of_getElem? (i := 12) rfl) rfl), tb_nh12, plainFor_of_name tb_pn12, rfl, fun h => Bool.noConfusion h⟩
set_option maxRecDepth 20000 in
theorem tb_k154 : mm_cf tb_P tb_TB tb_cn tb_ky tb_kb tb_hs 154 := ⟨Or.inl ⟨(tb_i11 (List.mem_of_getElem? (i := 177) rfl) rfl), rfl⟩, (tb_i1 (List.mem_of_getElem? (i := 12) rfl) rfl), tb_nh12, plainFor_of_name tb_pn12, rfl, fun h => Bool.noConfusion h⟩
set_option maxRecDepth 20000 in
theorem tb_k155 : mm_cf tb_P tb_TB tb_cn tb_ky tb_kb tb_hs 155 := ⟨Or.inl ⟨(tb_i11 (List.mem_of_getElem? (i := 181) rfl) rfl), rfl⟩, (tb_i1 (List.mem_of_getElem? (i := 12) rfl) rfl), tb_nh12, plainFor_of_name tb_pn12, rfl, fun h => Bool.noConfusion h⟩
set_option maxRecDepth 20000 in
theorem tb_k156 : mm_cf tb_P tb_TB tb_cn tb_ky tb_kb tb_hs 156 := ⟨Or.inl ⟨(tb_i11 (List.mem_of_getElem? (i := 185) rfl) rfl), rfl⟩, (tb_i1 (List.mem_of_getElem? (i := 12) rfl) rfl), tb_nh12, plainFor_of_name tb_pn12, rfl, fun h => Bool.noConfusion h⟩
set_option maxRecDepth 20000 in
theorem tb_k157 : mm_cf tb_P tb_TB tb_cn tb_ky tb_kb tb_hs 157 := ⟨Or.inl ⟨(tb_i1 (List.mem_of_getElem? (i := 31) rfl) rfl), rfl⟩, (tb_i1 (List.mem_of_getElem? (i := 1) rfl) rfl), tb_nh0, plainFor_of_name tb_pn0, rfl, fun _ => rfl⟩
set_option maxRecDepth 20000 in
theorem tb_k158 : mm_cf tb_P tb_TB tb_cn tb_ky tb_kb tb_hs 158 := ⟨Or.inl ⟨(tb_i2 (List.mem_of_getElem? (i := 166) rfl) rfl), rfl⟩, (tb_i1 (List.mem_of_getElem? (i := 1) rfl) rfl), tb_nh0, plainFor_of_name tb_pn0, rfl, fun h => Bool.noConfusion h⟩
set_option maxRecDepth 20000 in
theorem tb_k159 : mm_cf tb_P tb_TB tb_cn tb_ky tb_kb tb_hs 159 := ⟨Or.inl ⟨(tb_i2 (List.mem_of_getElem? (i := 170) rfl) rfl), rfl⟩, (tb_i1 (List.mem_of_getElem? (i := 1) rfl) rfl), tb_nh0, plainFor_of_name tb_pn0, rfl, fun h => Bool.noConfusion h⟩
set_option maxRecDepth 20000 in
theorem tb_k160 : mm_cf tb_P tb_TB tb_cn tb_ky tb_kb tb_hs 160 := ⟨Or.inl ⟨(tb_i2 (List.mem_of_getElem? (i := 174) rfl) rfl), rfl⟩, (tb_i1 (List.mem_of_getElem? (i := 1) rfl) rfl), tb_nh0, plainFor_of_name tb_pn0, rfl, fun h => Bool.noConfusion h⟩
set_option maxRecDepth 20000 in
theorem tb_k161 : mm_cf tb_P tb_TB tb_cn tb_ky tb_kb tb_hs 161 := ⟨Or.inl ⟨(tb_i4 (List.mem_of_getElem? (i := 104) rfl) rfl), rfl⟩, (tb_i1 (List.mem_of_getElem? (i := 1) rfl) rfl), tb_nh0, plainFor_of_name tb_pn0, rfl, fun h => Bool.noConfusion h⟩
set_option maxRecDepth 20000 in
theorem tb_k162 : mm_cf tb_P tb_TB tb_cn tb_ky tb_kb tb_hs 162 := ⟨Or.inl ⟨(tb_i4 (List.mem_of_getElem? (i := 121) rfl) rfl), rfl⟩, (tb_i1 (List.mem_of_getElem? (i := 1) rfl) rfl), tb_nh0, plainFor_of_name tb_pn0, rfl, fun h => Bool.noConfusion h⟩
set_option maxRecDepth 20000 in
theorem tb_k163 : mm_cf tb_P tb_TB tb_cn tb_ky tb_kb tb_hs 163 := ⟨Or.inl ⟨(tb_i4 (List.mem_of_getElem? (i := 125) rfl) rfl), rfl⟩, (tb_i1 (List.mem_of_getElem? (i := 1) rfl) rfl), tb_nh0, plainFor_of_name tb_pn0, rfl, fun h => Bool.noConfusion h⟩
set_option maxRecDepth 20000 in
theorem tb_k164 : mm_cf tb_P tb_TB tb_cn tb_ky tb_kb tb_hs 164 := ⟨Or.inl ⟨(tb_i6 (List.mem_of_getElem? (i := 11) rfl) rfl), rfl⟩, (tb_i1 (List.mem_of_getElem? (i := 1) rfl) rfl), tb_nh0, plainFor_of_name tb_pn0, rfl, fun h => Bool.noConfusion h⟩
set_option maxRecDepth 20000 in
theorem tb_k165 : mm_cf tb_P tb_TB tb_cn tb_ky tb_kb tb_hs 165 := ⟨Or.inl ⟨(tb_i6 (List.mem_of_getElem? (i := 15) rfl) rfl), rfl⟩, (tb_i1 (List.mem_of_getElem? (i := 1) rfl) rfl), tb_nh0, plainFor_of_name tb_pn0, rfl, fun h => Bool.noConfusion h⟩
set_option maxRecDepth 20000 in
theorem tb_k166 : mm_cf tb_P tb_TB tb_cn tb_ky tb_kb tb_hs 166 := ⟨Or.inl ⟨(tb_i6 (List.mem_of_getElem? (i := 35) rfl) rfl), rfl⟩, (tb_i1 (List.mem_of_getElem? (i := 1) rfl) rfl), tb_nh0, plainFor_of_name tb_pn0, rfl, fun h => Bool.noConfusion h⟩
set_option maxRecDepth 20000 in
theorem tb_k167 : mm_cf tb_P tb_TB tb_cn tb_ky tb_kb tb_hs 167 := ⟨Or.inl ⟨(tb_i6 (List.mem_of_getElem? (i := 43) rfl) rfl), rfl⟩, (tb_i1 (List.mem_of_getElem? (i := 1) rfl) rfl), tb_nh0, plainFor_of_name tb_pn0, rfl, fun h => Bool.noConfusion h⟩
set_option maxRecDepth 20000 in
theorem tb_k168 : mm_cf tb_P tb_TB tb_cn tb_ky tb_kb tb_hs 168 := ⟨Or.inl ⟨(tb_i6 (List.mem_of_getElem? (i := 46) rfl) rfl), rfl⟩, (tb_i1 (List.mem_of_getElem? (i := 1) rfl) rfl), tb_nh0, plainFor_of_name tb_pn0, rfl, fun h => Bool.noConfusion h⟩
set_option maxRecDepth 20000 in
theorem tb_k169 : mm_cf tb_P tb_TB tb_cn tb_ky tb_kb tb_hs 169 := ⟨Or.inl ⟨(tb_i6 (List.mem_of_getElem? (i := 61) rfl) rfl), rfl⟩, (tb_i1 (List.mem_of_getElem? (i := 1) rfl) rfl), tb_nh0, plainFor_of_name tb_pn0, rfl, fun h => Bool.noConfusion h⟩
set_option maxRecDepth 20000 in
theorem tb_k170 : mm_cf tb_P tb_TB tb_cn tb_ky tb_kb tb_hs 170 := ⟨Or.inl ⟨(tb_i6 (List.mem_of_getElem? (i := 88) rfl) rfl), rfl⟩, (tb_i1 (List.mem_of_getElem? (i := 1) rfl) rfl), tb_nh0, plainFor_of_name tb_pn0, rfl, fun h => Bool.noConfusion h⟩
set_option maxRecDepth 20000 in
theorem tb_k171 : mm_cf tb_P tb_TB tb_cn tb_ky tb_kb tb_hs 171 := ⟨Or.inl ⟨(tb_i6 (List.mem_of_getElem? (i := 104) rfl) rfl), rfl⟩, (tb_i1 (List.mem_of_getElem? (i := 1) rfl) rfl), tb_nh0, plainFor_of_name tb_pn0, rfl, fun h => Bool.noConfusion h⟩
set_option maxRecDepth 20000 in
theorem tb_k172 : mm_cf tb_P tb_TB tb_cn tb_ky tb_kb tb_hs 172 := ⟨Or.inl ⟨(tb_i6 (List.mem_of_getElem? (i := 109) rfl) rfl), rfl⟩, (tb_i1 (List.mem_of_getElem? (i := 1) rfl) rfl), tb_nh0, plainFor_of_name tb_pn0, rfl, fun h => Bool.noConfusion h⟩
set_option maxRecDepth 20000 in
theorem tb_k173 : mm_cf tb_P tb_TB tb_cn tb_ky tb_kb tb_hs 173 := ⟨Or.inl ⟨(tb_i6 (List.mem_of_getElem? (i := 121) rfl) rfl), rfl⟩, (tb_i1 (List.mem_of_getElem? (i := 1) rfl) rfl), tb_nh0, plainFor_of_name tb_pn0, rfl, fun h => Bool.noConfusion h⟩
set_option maxRecDepth 20000 in
theorem tb_k174 : mm_cf tb_P tb_TB tb_cn tb_ky tb_kb tb_hs 174 := ⟨Or.inl ⟨(tb_i6 (List.mem_of_getElem? (i := 124) rfl) rfl), rfl⟩, (tb_i1 (List.mem_of_getElem? (i := 1) rfl) rfl), tb_nh0, plainFor_of_name tb_pn0, rfl, fun h => Bool.noConfusion h⟩
set_option maxRecDepth 20000 in
theorem tb_k175 : mm_cf tb_P tb_TB tb_cn tb_ky tb_kb tb_hs 175 := ⟨Or.inl ⟨(tb_i6 (List.mem_of_getElem? (i := 127) rfl) rfl), rfl⟩, (tb_i1 (List.mem_of_getElem? (i := 1) rfl) rfl), tb_nh0, plainFor_of_name tb_pn0, rfl, fun h => Bool.noConfusion h⟩
set_option maxRecDepth 20000 in
theorem tb_k176 : mm_cf tb_P tb_TB tb_cn tb_ky tb_kb tb_hs 176 := ⟨Or.inl ⟨(tb_i6 (List.mem_of_getElem? (i := 142) rfl) rfl), rfl⟩, (tb_i1 (List.mem_of_getElem? (i := 1) rfl) rfl), tb_nh0, plainFor_of_name tb_pn0, rfl, fun h => Bool.noConfusion h⟩
set_option maxRecDepth 20000 in
theorem tb_k177 : mm_cf tb_P tb_TB tb_cn tb_ky tb_kb tb_hs 177 := ⟨Or.inl ⟨(tb_i6 (List.mem_of_getElem? (i := 154) rfl) rfl), rfl⟩, (tb_i1 (List.mem_of_getElem? (i := 1) rfl) rfl), tb_nh0, plainFor_of_name tb_pn0, rfl, fun h => Bool.noConfusion h⟩
set_option maxRecDepth 20000 in
theorem tb_k178 : mm_cf tb_P tb_TB tb_cn tb_ky tb_kb tb_hs 178 := ⟨Or.inl ⟨(tb_i6 (List.mem_of_getElem? (i := 175) rfl) rfl), rfl⟩, (tb_i1 (List.mem_of_getElem? (i := 1) rfl) rfl), tb_nh0, plainFor_of_name tb_pn0, rfl, fun h => Bool.noConfusion h⟩
set_option maxRecDepth 20000 in
theorem tb_k179 : mm_cf tb_P tb_TB tb_cn tb_ky tb_kb tb_hs 179 := ⟨Or.inl ⟨(tb_i6 (List.mem_of_getElem? (i := 191) rfl) rfl), rfl⟩, (tb_i1 (List.mem_of_getElem? (i := 1) rfl) rfl), tb_nh0, plainFor_of_name tb_pn0, rfl, fun h => Bool.noConfusion h⟩
set_option maxRecDepth 20000 in
theorem tb_k180 : mm_cf tb_P tb_TB tb_cn tb_ky tb_kb tb_hs 180 := ⟨Or.inl ⟨(tb_i6 (List.mem_of_getElem? (i := 203) rfl) rfl), rfl⟩, (tb_i1 (List.mem_of_getElem? (i := 1) rfl) rfl), tb_nh0, plainFor_of_name tb_pn0, rfl, fun h => Bool.noConfusion h⟩
set_option maxRecDepth 20000 in
theorem tb_k181 : mm_cf tb_P tb_TB tb_cn tb_ky tb_kb tb_hs 181 := ⟨Or.inl ⟨(tb_i7 (List.mem_of_getElem? (i := 93) rfl) rfl), rfl⟩, (tb_i1 (List.mem_of_getElem? (i := 1) rfl) rfl), tb_nh0, plainFor_of_name tb_pn0, rfl, fun h => Bool.noConfusion h⟩
set_option maxRecDepth 20000 in
theorem tb_k182 : mm_cf tb_P tb_TB tb_cn tb_ky tb_kb tb_hs 182 := ⟨Or.inl ⟨(tb_i7 (List.mem_of_getElem? (i := 105) rfl) rfl), rfl⟩, (tb_i1 (List.mem_of_getElem? (i := 1) rfl) rfl), tb_nh0, plainFor_of_name tb_pn0, rfl, fun h => Bool.noConfusion h⟩
set_option maxRecDepth 20000 in
theorem tb_k183 : mm_cf tb_P tb_TB tb_cn tb_ky tb_kb tb_hs 183 := ⟨Or.inl ⟨(tb_i7 (List.mem_of_getElem? (i := 108) rfl) rfl), rfl⟩, (tb_i1 (List.mem_of_getElem? (i := 1) rfl) rfl), tb_nh0, plainFor_of_name tb_pn0, rfl, fun h => Bool.noConfusion h⟩
set_option maxRecDepth 20000 in
theorem tb_k184 : mm_cf tb_P tb_TB tb_cn tb_ky tb_kb tb_hs 184 := ⟨Or.inl ⟨(tb_i7 (List.mem_of_getElem? (i := 111) rfl) rfl), rfl⟩, (tb_i1 (List.mem_of_getElem? (i := 1) rfl) rfl), tb_nh0, plainFor_of_name tb_pn0, rfl, fun h => Bool.noConfusion h⟩
set_option maxRecDepth 20000 in
theorem tb_k185 : mm_cf tb_P tb_TB tb_cn tb_ky tb_kb tb_hs 185 := ⟨Or.inl ⟨(tb_i7 (List.mem_of_getElem? (i := 126) rfl) rfl), rfl⟩, (tb_i1 (List.mem_of_getElem? (i := 1) rfl) rfl), tb_nh0, plainFor_of_name tb_pn0, rfl, fun h => Bool.noConfusion h⟩
set_option maxRecDepth 20000 in
theorem tb_k186 : mm_cf tb_P tb_TB tb_cn tb_ky tb_kb tb_hs 186 := ⟨Or.inl ⟨(tb_i1 (List.mem_of_getElem? (i := 39) rfl) rfl), rfl⟩, (tb_i1 (List.mem_of_getElem? (i := 2) rfl) rfl), tb_nh1, plainFor_of_name tb_pn1, rfl, fun _ => rfl⟩
set_option maxRecDepth 20000 in
theorem tb_k187 : mm_cf tb_P tb_TB tb_cn tb_ky tb_kb tb_hs 187 := ⟨Or.inl ⟨(tb_i3 (List.mem_of_getElem? (i := 16) rfl) rfl), rfl⟩, (tb_i1 (List.mem_of_getElem? (i := 2) rfl) rfl), tb_nh1, plainFor_of_name tb_pn1, rfl, fun h => Bool.noConfusion h⟩
set_option maxRecDepth 20000 in
theorem tb_k188 : mm_cf tb_P tb_TB tb_cn tb_ky tb_kb tb_hs 188 := ⟨Or.inl ⟨(tb_i3 (List.mem_of_getElem? (i := 20) rfl) rfl), rfl⟩, (tb_i1 (List.mem_of_getElem? (i := 2) rfl) rfl), tb_nh1, plainFor_of_name tb_pn1, rfl, fun h => Bool.noConfusion h⟩
set_option maxRecDepth 20000 in
theorem tb_k189 : mm_cf tb_P tb_TB tb_cn tb_ky tb_kb tb_hs 189 := ⟨Or.inl ⟨(tb_i3 (List.mem_of_getElem? (i := 23) rfl) rfl), rfl⟩, (tb_i1 (List.mem_of_getElem? (i := 2) rfl) rfl), tb_nh1, plainFor_of_name tb_pn1, rfl, fun h => Bool.noConfusion h⟩
set_option maxRecDepth 20000 in
theorem tb_k190 : mm_cf tb_P tb_TB tb_cn tb_ky tb_kb tb_hs 190 := ⟨Or.inl ⟨(tb_i3 (List.mem_of_getElem? (i := 27) rfl) rfl), rfl⟩, (tb_i1 (List.mem_of_getElem? (i := 2) rfl) rfl), tb_nh1, plainFor_of_name tb_pn1, rfl, fun h => Bool.noConfusion h⟩
set_option maxRecDepth 20000 in
theorem tb_k191 : mm_cf tb_P tb_TB tb_cn tb_ky tb_kb tb_hs 191 := ⟨Or.inl ⟨(tb_i3 (List.mem_of_getElem? (i := 30) rfl) rfl), rfl⟩, (tb_i1 (List.mem_of_getElem? (i := 2) rfl) rfl), tb_nh1, plainFor_of_name tb_pn1, rfl, fun h => Bool.noConfusion h⟩
set_option maxRecDepth 20000 in
theorem tb_k192 : mm_cf tb_P tb_TB tb_cn tb_ky tb_kb tb_hs 192 := ⟨Or.inl ⟨(tb_i3 (List.mem_of_getElem? (i := 36) rfl) rfl), rfl⟩, (tb_i1 (List.mem_of_getElem? (i := 2) rfl) rfl), tb_nh1, plainFor_of_name tb_pn1, rfl, fun h => Bool.noConfusion h⟩
set_option maxRecDepth 20000 in
theorem tb_k193 : mm_cf tb_P tb_TB tb_cn tb_ky tb_kb tb_hs 193 := ⟨Or.inl ⟨(tb_i3 (List.mem_of_getElem? (i := 39) rfl) rfl), rfl⟩, (tb_i1 (List.mem_of_getElem? (i := 2) rfl) rfl), tb_nh1, plainFor_of_name tb_pn1, rfl, fun h => Bool.noConfusion h⟩
set_option maxRecDepth 20000 in
theorem tb_k194 : mm_cf tb_P tb_TB tb_cn tb_ky tb_kb tb_hs 194 := ⟨Or.inl ⟨(tb_i3 (List.mem_of_getElem? (i := 43) rfl) rfl), rfl⟩, (tb_i1 (List.mem_of_getElem? (i := 2) rfl) rfl), tb_nh1, plainFor_of_name tb_pn1, rfl, fun h => Bool.noConfusion h⟩
set_option maxRecDepth 20000 in
theorem tb_k195 : mm_cf tb_P tb_TB tb_cn tb_ky tb_kb tb_hs 195 := ⟨Or.inl ⟨(tb_i3 (List.mem_of_getElem? (i := 47) rfl) rfl), rfl⟩, (tb_i1 (List.mem_of_getElem? (i := 2) rfl) rfl), tb_nh1, plainFor_of_name tb_pn1, rfl, fun h => Bool.noConfusion h⟩
set_option maxRecDepth 20000 in
theorem tb_k196 : mm_cf tb_P tb_TB tb_cn tb_ky tb_kb tb_hs 196 := ⟨Or.inl ⟨(tb_i3 (List.mem_of_getElem? (i := 134) rfl) rfl), rfl⟩, (tb_i1 (List.mem_of_getElem? (i := 2) rfl) rfl), tb_nh1, plainFor_of_name tb_pn1, rfl, fun h => Bool.noConfusion h⟩
set_option maxRecDepth 20000 in
theorem tb_k197 : mm_cf tb_P tb_TB tb_cn tb_ky tb_kb tb_hs 197 := ⟨Or.inl ⟨(tb_i3 (List.mem_of_getElem? (i := 142) rfl) rfl), rfl⟩, (tb_i1 (List.mem_of_getElem? (i := 2) rfl) rfl), tb_nh1, plainFor_of_name tb_pn1, rfl, fun h => Bool.noConfusion h⟩
set_option maxRecDepth 20000 in
theorem tb_k198 : mm_cf tb_P tb_TB tb_cn tb_ky tb_kb tb_hs 198 := ⟨Or.inl ⟨(tb_i3 (List.mem_of_getElem? (i := 221) rfl) rfl), rfl⟩, (tb_i1 (List.mem_of_getElem? (i := 2) rfl) rfl), tb_nh1, plainFor_of_name tb_pn1, rfl, fun h => Bool.noConfusion h⟩
set_option maxRecDepth 20000 in
theorem tb_k199 : mm_cf tb_P tb_TB tb_cn tb_ky tb_kb tb_hs 199 := ⟨Or.inl ⟨(tb_i4 (List.mem_of_getElem? (i := 26) rfl) rfl), rfl⟩, (tb_i1 (List.mem_of_getElem? (i := 2) rfl) rfl), tb_nh1, plainFor_of_name tb_pn1, rfl, fun h => Bool.noConfusion h⟩
set_option maxRecDepth 20000 in
theorem tb_k200 : mm_cf tb_P tb_TB tb_cn tb_ky tb_kb tb_hs 200 := ⟨Or.inl ⟨(tb_i6 (List.mem_of_getElem? (i := 53) rfl) rfl), rfl⟩, (tb_i1 (List.mem_of_getElem? (i := 2) rfl) rfl), tb_nh1, plainFor_of_name tb_pn1, rfl, fun h => Bool.noConfusion h⟩
set_option maxRecDepth 20000 in
theorem tb_k201 : mm_cf tb_P tb_TB tb_cn tb_ky tb_kb tb_hs 201 := ⟨Or.inl ⟨(tb_i1 (List.mem_of_getElem? (i := 82) rfl) rfl), rfl⟩, (tb_i1 (List.mem_of_getElem? (i := 3) rfl) rfl), tb_nh2, plainFor_of_name tb_pn2, rfl, fun _ => rfl⟩
set_option maxRecDepth 20000 in
theorem tb_k202 : mm_cf tb_P tb_TB tb_cn tb_ky tb_kb tb_hs 202 := ⟨Or.inr (tb_i3 (List.mem_of_getElem? (i := 7) rfl) rfl), (tb_i1 (List.mem_of_getElem? (i := 3) rfl) rfl), tb_nh2, plainFor_of_name tb_pn2, rfl, fun h => Bool.noConfusion h⟩
set_option maxRecDepth 20000 in
theorem tb_k203 : mm_cf tb_P tb_TB tb_cn tb_ky tb_kb tb_hs 203 := ⟨Or.inl ⟨(tb_i3 (List.mem_of_getElem? (i := 138) rfl) rfl), rfl⟩, (tb_i1 (List.mem_of_getElem? (i := 3) rfl) rfl), tb_nh2, plainFor_of_name tb_pn2, rfl, fun h => Bool.noConfusion h⟩
set_option maxRecDepth 20000 in
theorem tb_k204 : mm_cf tb_P tb_TB tb_cn tb_ky tb_kb tb_hs 204 := ⟨Or.inl ⟨(tb_i3 (List.mem_of_getElem? (i := 146) rfl) rfl), rfl⟩, (tb_i1 (List.mem_of_getElem? (i := 3) rfl) rfl), tb_nh2, plainFor_of_name tb_pn2, rfl, fun h => Bool.noConfusion h⟩
set_option maxRecDepth 20000 in
theorem tb_k205 : mm_cf tb_P tb_TB tb_cn tb_ky tb_kb tb_hs 205 := ⟨Or.inl ⟨(tb_i3 (List.mem_of_getElem? (i := 217) rfl) rfl), rfl⟩, (tb_i1 (List.mem_of_getElem? (i := 3) rfl) rfl), tb_nh2, plainFor_of_name tb_pn2, rfl, fun h => Bool.noConfusion h⟩
set_option maxRecDepth 20000 in
theorem tb_k206 : mm_cf tb_P tb_TB tb_cn tb_ky tb_kb tb_hs 206 := ⟨Or.inl ⟨(tb_i3 (List.mem_of_getElem? (i := 225) rfl) rfl), rfl⟩, (tb_i1 (List.mem_of_getElem? (i := 3) rfl) rfl), tb_nh2, plainFor_of_name tb_pn2, rfl, fun h => Bool.noConfusion h⟩
set_option maxRecDepth 20000 in
theorem tb_k207 : mm_cf tb_P tb_TB tb_cn tb_ky tb_kb tb_hs 207 := ⟨Or.inl ⟨(tb_i3 (List.mem_of_getElem? (i := 229) rfl) rfl), rfl⟩, (tb_i1 (List.mem_of_getElem? (i := 3) rfl) rfl), tb_nh2, plainFor_of_name tb_pn2, rfl, fun h => Bool.noConfusion h⟩
set_option maxRecDepth 20000 in
theorem tb_k208 : mm_cf tb_P tb_TB tb_cn tb_ky tb_kb tb_hs 208 := ⟨Or.inl ⟨(tb_i3 (List.mem_of_getElem? (i := 233) rfl) rfl), rfl⟩, (tb_i1 (List.mem_of_getElem? (i := 3) rfl) rfl), tb_nh2, plainFor_of_name tb_pn2, rfl, fun h => Bool.noConfusion h⟩
set_option maxRecDepth 20000 in
theorem tb_k209 : mm_cf tb_P tb_TB tb_cn tb_ky tb_kb tb_hs 209 := ⟨Or.inl ⟨(tb_i4 (List.mem_of_getElem? (i := 6) rfl) rfl), rfl⟩, (tb_i1 (List.mem_of_getElem? (i := 3) rfl) rfl), tb_nh2, plainFor_of_name tb_pn2, rfl, fun h => Bool.noConfusion h⟩
set_option maxRecDepth 20000 in
theorem tb_k210 : mm_cf tb_P tb_TB tb_cn tb_ky tb_kb tb_hs 210 := ⟨Or.inl ⟨(tb_i4 (List.mem_of_getElem? (i := 10) rfl) rfl), rfl⟩, (tb_i1 (List.mem_of_getElem? (i := 3) rfl) rfl), tb_nh2, plainFor_of_name tb_pn2, rfl, fun h => Bool.noConfusion h⟩
set_option maxRecDepth 20000 in
theorem tb_k211 : mm_cf tb_P tb_TB tb_cn tb_ky tb_kb tb_hs 211 := ⟨Or.inl ⟨(tb_i4 (List.mem_of_getElem? (i := 14) rfl) rfl), rfl⟩, (tb_i1 (List.mem_of_getElem? (i := 3) rfl) rfl), tb_nh2, plainFor_of_name tb_pn2, rfl, fun h => Bool.noConfusion h⟩
set_option maxRecDepth 20000 in
theorem tb_k212 : mm_cf tb_P tb_TB tb_cn tb_ky tb_kb tb_hs 212 := ⟨Or.inl ⟨(tb_i4 (List.mem_of_getElem? (i := 18) rfl) rfl), rfl⟩, (tb_i1 (List.mem_of_getElem? (i := 3) rfl) rfl), tb_nh2, plainFor_of_name tb_pn2, rfl, fun h => Bool.noConfusion h⟩
set_option maxRecDepth 20000 in
theorem tb_k213 : mm_cf tb_P tb_TB tb_cn tb_ky tb_kb tb_hs 213 := ⟨Or.inl ⟨(tb_i4 (List.mem_of_getElem? (i := 22) rfl) rfl), rfl⟩, (tb_i1 (List.mem_of_getElem? (i := 3) rfl) rfl), tb_nh2, plainFor_of_name tb_pn2, rfl, fun h => Bool.noConfusion h⟩
set_option maxRecDepth 20000 in
theorem tb_k214 : mm_cf tb_P tb_TB tb_cn tb_ky tb_kb tb_hs 214 := ⟨Or.inl ⟨(tb_i4 (List.mem_of_getElem? (i := 30) rfl) rfl), rfl⟩, (tb_i1 (List.mem_of_getElem? (i := 3) rfl) rfl), tb_nh2, plainFor_of_name tb_pn2, rfl, fun h => Bool.noConfusion h⟩
set_option maxRecDepth 20000 in
theorem tb_k215 : mm_cf tb_P tb_TB tb_cn tb_ky tb_kb tb_hs 215 := ⟨Or.inl ⟨(tb_i4 (List.mem_of_getElem? (i := 34) rfl) rfl), rfl⟩, (tb_i1 (List.mem_of_getElem? (i := 3) rfl) rfl), tb_nh2, plainFor_of_name tb_pn2, rfl, fun h => Bool.noConfusion h⟩
set_option maxRecDepth 20000 in
theorem tb_k216 : mm_cf tb_P tb_TB tb_cn tb_ky tb_kb tb_hs 216 := ⟨Or.inl ⟨(tb_i4 (List.mem_of_getElem? (i := 38) rfl) rfl), rfl⟩, (tb_i1 (List.mem_of_getElem? (i := 3) rfl) rfl), tb_nh2, plainFor_of_name tb_pn2, rfl, fun h => Bool.noConfusion h⟩
set_option maxRecDepth 20000 in
theorem tb_k217 : mm_cf tb_P tb_TB tb_cn tb_ky tb_kb tb_hs 217 := ⟨Or.inl ⟨(tb_i4 (List.mem_of_getElem? (i := 42) rfl) rfl), rfl⟩, (tb_i1 (List.mem_of_getElem? (i := 3) rfl) rfl), tb_nh2, plainFor_of_name tb_pn2, rfl, fun h => Bool.noConfusion h⟩
set_option maxRecDepth 20000 in
theorem tb_k218 : mm_cf tb_P tb_TB tb_cn tb_ky tb_kb tb_hs 218 := ⟨Or.inl ⟨(tb_i4 (List.mem_of_getElem? (i := 46) rfl) rfl), rfl⟩, (tb_i1 (List.mem_of_getElem? (i := 3) rfl) rfl), tb_nh2, plainFor_of_name tb_pn2, rfl, fun h => Bool.noConfusion h⟩
set_option maxRecDepth 20000 in
theorem tb_k219 : mm_cf tb_P tb_TB tb_cn tb_ky tb_kb tb_hs 219 := ⟨Or.inl ⟨(tb_i4 (List.mem_of_getElem? (i := 50) rfl) rfl), rfl⟩, (tb_i1 (List.mem_of_getElem? (i := 3) rfl) rfl), tb_nh2, plainFor_of_name tb_pn2, rfl, fun h => Bool.noConfusion h⟩
set_option maxRecDepth 20000 in
theorem tb_k220 : mm_cf tb_P tb_TB tb_cn tb_ky tb_kb tb_hs 220 := ⟨Or.inl ⟨(tb_i4 (List.mem_of_getElem? (i := 54) rfl) rfl), rfl⟩, (tb_i1 (List.mem_of_getElem? (i := 3) rfl) rfl), tb_nh2, plainFor_of_name tb_pn2, rfl, fun h => Bool.noConfusion h⟩
set_option maxRecDepth 20000 in
theorem tb_k221 : mm_cf tb_P tb_TB tb_cn tb_ky tb_kb tb_hs 221 := ⟨Or.inl ⟨(tb_i4 (List.mem_of_getElem? (i := 58) rfl) rfl), rfl⟩, (tb_i1 (List.mem_of_getElem? (i := 3) rfl) rfl), tb_nh2, plainFor_of_name tb_pn2, rfl, fun h => Bool.noConfusion h⟩
set_option maxRecDepth 20000 in
theorem tb_k222 : mm_cf tb_P tb_TB tb_cn tb_ky tb_kb tb_hs 222 := ⟨Or.inl ⟨(tb_i4 (List.mem_of_getElem? (i := 62) rfl) rfl), rfl⟩, (tb_i1 (List.mem_of_getElem? (i := 3) rfl) rfl), tb_nh2, plainFor_of_name tb_pn2, rfl, fun h => Bool.noConfusion h⟩
set_option maxRecDepth 20000 in
theorem tb_k223 : mm_cf tb_P tb_TB tb_cn tb_ky tb_kb tb_hs 223 := ⟨Or.inl ⟨(tb_i4 (List.mem_of_getElem? (i := 66) rfl) rfl), rfl⟩, (tb_i1 (List.mem_of_getElem? (i := 3) rfl) rfl), tb_nh2, plainFor_of_name tb_pn2, rfl, fun h => Bool.noConfusion h⟩
set_option maxRecDepth 20000 in
theorem tb_k224 : mm_cf tb_P tb_TB tb_cn tb_ky tb_kb tb_hs 224 := ⟨Or.inl ⟨(tb_i4 (List.mem_of_getElem? (i := 70) rfl) rfl), rfl⟩, (tb_i1 (List.mem_of_getElem? (i := 3) rfl) rfl), tb_nh2, plainFor_of_name tb_pn2, rfl, fun h => Bool.noConfusion h⟩
set_option maxRecDepth 20000 in
theorem tb_k225 : mm_cf tb_P tb_TB tb_cn tb_ky tb_kb tb_hs 225 := ⟨Or.inl ⟨(tb_i4 (List.mem_of_getElem? (i := 74) rfl) rfl), rfl⟩, (tb_i1 (List.mem_of_getElem? (i := 3) rfl) rfl), tb_nh2, plainFor_of_name tb_pn2, rfl, fun h => Bool.noConfusion h⟩
set_option maxRecDepth 20000 in
theorem tb_k226 : mm_cf tb_P tb_TB tb_cn tb_ky tb_kb tb_hs 226 := ⟨Or.inl ⟨(tb_i4 (List.mem_of_getElem? (i := 78) rfl) rfl), rfl⟩, (tb_i1 (List.mem_of_getElem? (i := 3) rfl) rfl), tb_nh2, plainFor_of_name tb_pn2, rfl, fun h => Bool.noConfusion h⟩
set_option maxRecDepth 20000 in
theorem tb_k227 : mm_cf tb_P tb_TB tb_cn tb_ky tb_kb tb_hs 227 := ⟨Or.inl ⟨(tb_i4 (List.mem_of_getElem? (i := 82) rfl) rfl), rfl⟩, (tb_i1 (List.mem_of_getElem? (i := 3) rfl) rfl), tb_nh2, plainFor_of_name tb_pn2, rfl, fun h => Bool.noConfusion h⟩
set_option maxRecDepth 20000 in
theorem tb_k228 : mm_cf tb_P tb_TB tb_cn tb_ky tb_kb tb_hs 228 := ⟨Or.inl ⟨(tb_i4 (List.mem_of_getElem? (i := 86) rfl) rfl), rfl⟩, (tb_i1 (List.mem_of_getElem? (i := 3) rfl) rfl), tb_nh2, plainFor_of_name tb_pn2, rfl, fun h => Bool.noConfusion h⟩
set_option maxRecDepth 20000 in
theorem tb_k229 : mm_cf tb_P tb_TB tb_cn tb_ky tb_kb tb_hs 229 := ⟨Or.inl ⟨(tb_i4 (List.mem_of_getElem? (i := 90) rfl) rfl), rfl⟩, (tb_i1 (List.mem_of_getElem? (i := 3) rfl) rfl), tb_nh2, plainFor_of_name tb_pn2, rfl, fun h => Bool.noConfusion h⟩
set_option maxRecDepth 20000 in
theorem tb_k230 : mm_cf tb_P tb_TB tb_cn tb_ky tb_kb tb_hs 230 := ⟨Or.inl ⟨(tb_i4 (List.mem_of_getElem? (i := 98) rfl) rfl), rfl⟩, (tb_i1 (List.mem_of_getElem? (i := 3) rfl) rfl), tb_nh2, plainFor_of_name tb_pn2, rfl, fun h => Bool.noConfusion h⟩
set_option maxRecDepth 20000 in
theorem tb_k231 : mm_cf tb_P tb_TB tb_cn tb_ky tb_kb tb_hs 231 := ⟨Or.inl ⟨(tb_i1 (List.mem_of_getElem? (i := 113) rfl) rfl), rfl⟩, (tb_i1 (List.mem_of_getElem? (i := 6) rfl) rfl), tb_nh3, plainFor_of_name tb_pn3, rfl, fun _ => rfl⟩
set_option maxRecDepth 20000 in
theorem tb_k232 : mm_cf tb_P tb_TB tb_cn tb_ky tb_kb tb_hs 232 := ⟨Or.inl ⟨(tb_i5 (List.mem_of_getElem? (i := 96) rfl) rfl), rfl⟩, (tb_i1 (List.mem_of_getElem? (i := 6) rfl) rfl), tb_nh3, plainFor_of_name tb_pn3, rfl, fun h => Bool.noConfusion h⟩
set_option maxRecDepth 20000 in
theorem tb_k233 : mm_cf tb_P tb_TB tb_cn tb_ky tb_kb tb_hs 233 := ⟨Or.inl ⟨(tb_i5 (List.mem_of_getElem? (i := 103) rfl) rfl), rfl⟩, (tb_i1 (List.mem_of_getElem? (i := 6) rfl) rfl), tb_nh3, plainFor_of_name tb_pn3, rfl, fun h => Bool.noConfusion h⟩
set_option maxRecDepth 20000 in
theorem tb_k234 : mm_cf tb_P tb_TB tb_cn tb_ky tb_kb tb_hs 234 := ⟨Or.inl ⟨(tb_i5 (List.mem_of_getElem? (i := 118) rfl) rfl), rfl⟩, (tb_i1 (List.mem_of_getElem? (i := 6) rfl) rfl), tb_nh3, plainFor_of_name tb_pn3, rfl, fun h => Bool.noConfusion h⟩
set_option maxRecDepth 20000 in
theorem tb_k235 : mm_cf tb_P tb_TB tb_cn tb_ky tb_kb tb_hs 235 := ⟨Or.inl ⟨(tb_i1 (List.mem_of_getElem? (i := 146) rfl) rfl), rfl⟩, (tb_i1 (List.mem_of_getElem? (i := 8) rfl) rfl), tb_nh4, plainFor_of_name tb_pn4, rfl, fun _ => rfl⟩
set_option maxRecDepth 20000 in
theorem tb_k236 : mm_cf tb_P tb_TB tb_cn tb_ky tb_kb tb_hs 236 := ⟨Or.inl ⟨(tb_i4 (List.mem_of_getElem? (i := 204) rfl) rfl), rfl⟩, (tb_i1 (List.mem_of_getElem? (i := 8) rfl) rfl), tb_nh4, plainFor_of_name tb_pn4, rfl, fun h => Bool.noConfusion h⟩
set_option maxRecDepth 20000 in
theorem tb_k237 : mm_cf tb_P tb_TB tb_cn tb_ky tb_kb tb_hs 237 := ⟨Or.inl ⟨(tb_i4 (List.mem_of_getElem? (i := 208) rfl) rfl), rfl⟩, (tb_i1 (List.mem_of_getElem? (i := 8) rfl) rfl), tb_nh4, plainFor_of_name tb_pn4, rfl, fun h => Bool.noConfusion h⟩
set_option maxRecDepth 20000 in
theorem tb_k238 : mm_cf tb_P tb_TB tb_cn tb_ky tb_kb tb_hs 238 := ⟨Or.inl ⟨(tb_i4 (List.mem_of_getElem? (i := 237) rfl) rfl), rfl⟩, (tb_i1 (List.mem_of_getElem? (i := 8) rfl) rfl), tb_nh4, plainFor_of_name tb_pn4, rfl, fun h => Bool.noConfusion h⟩
set_option maxRecDepth 20000 in
theorem tb_k239 : mm_cf tb_P tb_TB tb_cn tb_ky tb_kb tb_hs 239 := ⟨Or.inl ⟨(tb_i5 (List.mem_of_getElem? (i := 2) rfl) rfl), rfl⟩, (tb_i1 (List.mem_of_getElem? (i := 8) rfl) rfl), tb_nh4, plainFor_of_name tb_pn4, rfl, fun h => Bool.noConfusion h⟩
set_option maxRecDepth 20000 in
theorem tb_k240 : mm_cf tb_P tb_TB tb_cn tb_ky tb_kb tb_hs 240 := ⟨Or.inl ⟨(tb_i5 (List.mem_of_getElem? (i := 11) rfl) rfl), rfl⟩, (tb_i1 (List.mem_of_getElem? (i := 8) rfl) rfl), tb_nh4, plainFor_of_name tb_pn4, rfl, fun h => Bool.noConfusion h⟩
set_option maxRecDepth 20000 in
theorem tb_k241 : mm_cf tb_P tb_TB tb_cn tb_ky tb_kb tb_hs 241 := ⟨Or.inl ⟨(tb_i5 (List.mem_of_getElem? (i := 24) rfl) rfl), rfl⟩, (tb_i1 (List.mem_of_getElem? (i := 8) rfl) rfl), tb_nh4, plainFor_of_name tb_pn4, rfl, fun h => Bool.noConfusion h⟩
set_option maxRecDepth 20000 in
theorem tb_k242 : mm_cf tb_P tb_TB tb_cn tb_ky tb_kb tb_hs 242 := ⟨Or.inl ⟨(tb_i5 (List.mem_of_getElem? (i := 28) rfl) rfl), rfl⟩, (tb_i1 (List.mem_of_getElem? (i := 8) rfl) rfl), tb_nh4, plainFor_of_name tb_pn4, rfl, fun h => Bool.noConfusion h⟩
set_option maxRecDepth 20000 in
theorem tb_k243 : mm_cf tb_P tb_TB tb_cn tb_ky tb_kb tb_hs 243 := ⟨Or.inl ⟨(tb_i5 (List.mem_of_getElem? (i := 46) rfl) rfl), rfl⟩, (tb_i1 (List.mem_of_getElem? (i := 8) rfl) rfl), tb_nh4, plainFor_of_name tb_pn4, rfl, fun h => Bool.noConfusion h⟩
set_option maxRecDepth 20000 in
theorem tb_k244 : mm_cf tb_P tb_TB tb_cn tb_ky tb_kb tb_hs 244 := ⟨Or.inl ⟨(tb_i5 (List.mem_of_getElem? (i := 174) rfl) rfl), rfl⟩, (tb_i1 (List.mem_of_getElem? (i := 8) rfl) rfl), tb_nh4, plainFor_of_name tb_pn4, rfl, fun h => Bool.noConfusion h⟩
set_option maxRecDepth 20000 in
theorem tb_k245 : mm_cf tb_P tb_TB tb_cn tb_ky tb_kb tb_hs 245 := ⟨Or.inl ⟨(tb_i5 (List.mem_of_getElem? (i := 178) rfl) rfl), rfl⟩, (tb_i1 (List.mem_of_getElem? (i := 8) rfl) rfl), tb_nh4, plainFor_of_name tb_pn4, rfl, fun h => Bool.noConfusion h⟩
set_option maxRecDepth 20000 in
theorem tb_k246 : mm_cf tb_P tb_TB tb_cn tb_ky tb_kb tb_hs 246 := ⟨Or.inl ⟨(tb_i5 (List.mem_of_getElem? (i := 204) rfl) rfl), rfl⟩, (tb_i1 (List.mem_of_getElem? (i := 8) rfl) rfl), tb_nh4, plainFor_of_name tb_pn4, rfl, fun h => Bool.noConfusion h⟩
set_option maxRecDepth 20000 in
theorem tb_k247 : mm_cf tb_P tb_TB tb_cn tb_ky tb_kb tb_hs 247 := ⟨Or.inl ⟨(tb_i7 (List.mem_of_getElem? (i := 118) rfl) rfl), rfl⟩, (tb_i1 (List.mem_of_getElem? (i := 8) rfl) rfl), tb_nh4, plainFor_of_name tb_pn4, rfl, fun h => Bool.noConfusion h⟩
set_option maxRecDepth 20000 in
theorem tb_k248 : mm_cf tb_P tb_TB tb_cn tb_ky tb_kb tb_hs 248 := ⟨Or.inl ⟨(tb_i1 (List.mem_of_getElem? (i := 107) rfl) rfl), rfl⟩, (tb_i1 (List.mem_of_getElem? (i := 5) rfl) rfl), tb_nh5, plainFor_of_name tb_pn5, rfl, fun _ => rfl⟩
set_option maxRecDepth 20000 in
theorem tb_k249 : mm_cf tb_P tb_TB tb_cn tb_ky tb_kb tb_hs 249 := ⟨Or.inl ⟨(tb_i4 (List.mem_of_getElem? (i := 136) rfl) rfl), rfl⟩, (tb_i1 (List.mem_of_getElem? (i := 5) rfl) rfl), tb_nh5, plainFor_of_name tb_pn5, rfl, fun h => Bool.noConfusion h⟩
set_option maxRecDepth 20000 in
theorem tb_k250 : mm_cf tb_P tb_TB tb_cn tb_ky tb_kb tb_hs 250 := ⟨Or.inl ⟨(tb_i4 (List.mem_of_getElem? (i := 146) rfl) rfl), rfl⟩, (tb_i1 (List.mem_of_getElem? (i := 5) rfl) rfl), tb_nh5, plainFor_of_name tb_pn5, rfl, fun h => Bool.noConfusion h⟩
set_option maxRecDepth 20000 in
theorem tb_k251 : mm_cf tb_P tb_TB tb_cn tb_ky tb_kb tb_hs 251 := ⟨Or.inl ⟨(tb_i4 (List.mem_of_getElem? (i := 154) rfl) rfl), rfl⟩, (tb_i1 (List.mem_of_getElem? (i := 5) rfl) rfl), tb_nh5, plainFor_of_name tb_pn5, rfl, fun h => Bool.noConfusion h⟩
set_option maxRecDepth 20000 in
theorem tb_k252 : mm_cf tb_P tb_TB tb_cn tb_ky tb_kb tb_hs 252 := ⟨Or.inl ⟨(tb_i4 (List.mem_of_getElem? (i := 199) rfl) rfl), rfl⟩, (tb_i1 (List.mem_of_getElem? (i := 5) rfl) rfl), tb_nh5, plainFor_of_name tb_pn5, rfl, fun h => Bool.noConfusion h⟩
set_option maxRecDepth 20000 in
theorem tb_k253 : mm_cf tb_P tb_TB tb_cn tb_ky tb_kb tb_hs 253 := ⟨Or.inl ⟨(tb_i5 (List.mem_of_getElem? (i := 18) rfl) rfl), rfl⟩, (tb_i1 (List.mem_of_getElem? (i := 5) rfl) rfl), tb_nh5, plainFor_of_name tb_pn5, rfl, fun h => Bool.noConfusion h⟩
set_option maxRecDepth 20000 in
theorem tb_k254 : mm_cf tb_P tb_TB tb_cn tb_ky tb_kb tb_hs 254 := ⟨Or.inl ⟨(tb_i5 (List.mem_of_getElem? (i := 33) rfl) rfl), rfl⟩, (tb_i1 (List.mem_of_getElem? (i := 5) rfl) rfl), tb_nh5, plainFor_of_name tb_pn5, rfl, fun h => Bool.noConfusion h⟩
set_option maxRecDepth 20000 in
theorem tb_k255 : mm_cf tb_P tb_TB tb_cn tb_ky tb_kb tb_hs 255 := ⟨Or.inl ⟨(tb_i5 (List.mem_of_getElem? (i := 37) rfl) rfl), rfl⟩, (tb_i1 (List.mem_of_getElem? (i := 5) rfl) rfl), tb_nh5, plainFor_of_name tb_pn5, rfl, fun h => Bool.noConfusion h⟩
set_option maxRecDepth 20000 in
theorem tb_k256 : mm_cf tb_P tb_TB tb_cn tb_ky tb_kb tb_hs 256 := ⟨Or.inl ⟨(tb_i5 (List.mem_of_getElem? (i := 88) rfl) rfl), rfl⟩, (tb_i1 (List.mem_of_getElem? (i := 5) rfl) rfl), tb_nh5, plainFor_of_name tb_pn5, rfl, fun h => Bool.noConfusion h⟩
set_option maxRecDepth 20000 in
theorem tb_k257 : mm_cf tb_P tb_TB tb_cn tb_ky tb_kb tb_hs 257 := ⟨Or.inl ⟨(tb_i5 (List.mem_of_getElem? (i := 92) rfl) rfl), rfl⟩, (tb_i1 (List.mem_of_getElem? (i := 5) rfl) rfl), tb_nh5, plainFor_of_name tb_pn5, rfl, fun h => Bool.noConfusion h⟩
set_option maxRecDepth 20000 in
theorem tb_k258 : mm_cf tb_P tb_TB tb_cn tb_ky tb_kb tb_hs 258 := ⟨Or.inl ⟨(tb_i6 (List.mem_of_getElem? (i := 97) rfl) rfl), rfl⟩, (tb_i1 (List.mem_of_getElem? (i := 5) rfl) rfl), tb_nh5, plainFor_of_name tb_pn5, rfl, fun h => Bool.noConfusion h⟩
set_option maxRecDepth 20000 in
theorem tb_k259 : mm_cf tb_P tb_TB tb_cn tb_ky tb_kb tb_hs 259 := ⟨Or.inl ⟨(tb_i7 (List.mem_of_getElem? (i := 130) rfl) rfl), rfl⟩, (tb_i1 (List.mem_of_getElem? (i := 5) rfl) rfl), tb_nh5, plainFor_of_name tb_pn5, rfl, fun h => Bool.noConfusion h⟩
set_option maxRecDepth 20000 in
theorem tb_k260 : mm_cf tb_P tb_TB tb_cn tb_ky tb_kb tb_hs 260 := ⟨Or.inl ⟨(tb_i1 (List.mem_of_getElem? (i := 101) rfl) rfl), rfl⟩, (tb_i1 (List.mem_of_getElem? (i := 4) rfl) rfl), tb_nh6, plainFor_of_name tb_pn6, rfl, fun _ => rfl⟩
set_option maxRecDepth 20000 in
theorem tb_k261 : mm_cf tb_P tb_TB tb_cn tb_ky tb_kb tb_hs 261 := ⟨Or.inr (tb_i4 (List.mem_of_getElem? (i := 129) rfl) rfl), (tb_i1 (List.mem_of_getElem? (i := 4) rfl) rfl), tb_nh6, plainFor_of_name tb_pn6, rfl, fun h => Bool.noConfusion h⟩
set_option maxRecDepth 20000 in
theorem tb_k262 : mm_cf tb_P tb_TB tb_cn tb_ky tb_kb tb_hs 262 := ⟨Or.inl ⟨(tb_i4 (List.mem_of_getElem? (i := 140) rfl) rfl), rfl⟩, (tb_i1 (List.mem_of_getElem? (i := 4) rfl) rfl), tb_nh6, plainFor_of_name tb_pn6, rfl, fun h => Bool.noConfusion h⟩
set_option maxRecDepth 20000 in
theorem tb_k263 : mm_cf tb_P tb_TB tb_cn tb_ky tb_kb tb_hs 263 := ⟨Or.inl ⟨(tb_i4 (List.mem_of_getElem? (i := 150) rfl) rfl), rfl⟩, (tb_i1 (List.mem_of_getElem? (i := 4) rfl) rfl), tb_nh6, plainFor_of_name tb_pn6, rfl, fun h => Bool.noConfusion h⟩
set_option maxRecDepth 20000 in
theorem tb_k264 : mm_cf tb_P tb_TB tb_cn tb_ky tb_kb tb_hs 264 := ⟨Or.inl ⟨(tb_i4 (List.mem_of_getElem? (i := 189) rfl) rfl), rfl⟩, (tb_i1 (List.mem_of_getElem? (i := 4) rfl) rfl), tb_nh6, plainFor_of_name tb_pn6, rfl, fun h => Bool.noConfusion h⟩
set_option maxRecDepth 20000 in
theorem tb_k265 : mm_cf tb_P tb_TB tb_cn tb_ky tb_kb tb_hs 265 := ⟨Or.inl ⟨(tb_i4 (List.mem_of_getElem? (i := 193) rfl) rfl), rfl⟩, (tb_i1 (List.mem_of_getElem? (i := 4) rfl) rfl), tb_nh6, plainFor_of_name tb_pn6, rfl, fun h => Bool.noConfusion h⟩
set_option maxRecDepth 20000 in
theorem tb_k266 : mm_cf tb_P tb_TB tb_cn tb_ky tb_kb tb_hs 266 := ⟨Or.inl ⟨(tb_i4 (List.mem_of_getElem? (i := 215) rfl) rfl), rfl⟩, (tb_i1 (List.mem_of_getElem? (i := 4) rfl) rfl), tb_nh6, plainFor_of_name tb_pn6, rfl, fun h => Bool.noConfusion h⟩
set_option maxRecDepth 20000 in
theorem tb_k267 : mm_cf tb_P tb_TB tb_cn tb_ky tb_kb tb_hs 267 := ⟨Or.inl ⟨(tb_i4 (List.mem_of_getElem? (i := 220) rfl) rfl), rfl⟩, (tb_i1 (List.mem_of_getElem? (i := 4) rfl) rfl), tb_nh6, plainFor_of_name tb_pn6, rfl, fun h => Bool.noConfusion h⟩
set_option maxRecDepth 20000 in
theorem tb_k268 : mm_cf tb_P tb_TB tb_cn tb_ky tb_kb tb_hs 268 := ⟨Or.inl ⟨(tb_i4 (List.mem_of_getElem? (i := 228) rfl) rfl), rfl⟩, (tb_i1 (List.mem_of_getElem? (i := 4) rfl) rfl), tb_nh6, plainFor_of_name tb_pn6, rfl, fun h => Bool.noConfusion h⟩
set_option maxRecDepth 20000 in
theorem tb_k269 : mm_cf tb_P tb_TB tb_cn tb_ky tb_kb tb_hs 269 := ⟨Or.inl ⟨(tb_i4 (List.mem_of_getElem? (i := 233) rfl) rfl), rfl⟩, (tb_i1 (List.mem_of_getElem? (i := 4) rfl) rfl), tb_nh6, plainFor_of_name tb_pn6, rfl, fun h => Bool.noConfusion h⟩
set_option maxRecDepth 20000 in
theorem tb_k270 : mm_cf tb_P tb_TB tb_cn tb_ky tb_kb tb_hs 270 := ⟨Or.inl ⟨(tb_i5 (List.mem_of_getElem? (i := 7) rfl) rfl), rfl⟩, (tb_i1 (List.mem_of_getElem? (i := 4) rfl) rfl), tb_nh6, plainFor_of_name tb_pn6, rfl, fun h => Bool.noConfusion h⟩
set_option maxRecDepth 20000 in
theorem tb_k271 : mm_cf tb_P tb_TB tb_cn tb_ky tb_kb tb_hs 271 := ⟨Or.inl ⟨(tb_i5 (List.mem_of_getElem? (i := 42) rfl) rfl), rfl⟩, (tb_i1 (List.mem_of_getElem? (i := 4) rfl) rfl), tb_nh6, plainFor_of_name tb_pn6, rfl, fun h => Bool.noConfusion h⟩
set_option maxRecDepth 20000 in
theorem tb_k272 : mm_cf tb_P tb_TB tb_cn tb_ky tb_kb tb_hs 272 := ⟨Or.inl ⟨(tb_i5 (List.mem_of_getElem? (i := 50) rfl) rfl), rfl⟩, (tb_i1 (List.mem_of_getElem? (i := 4) rfl) rfl), tb_nh6, plainFor_of_name tb_pn6, rfl, fun h => Bool.noConfusion h⟩
set_option maxRecDepth 20000 in
theorem tb_k273 : mm_cf tb_P tb_TB tb_cn tb_ky tb_kb tb_hs 273 := ⟨Or.inl ⟨(tb_i5 (List.mem_of_getElem? (i := 59) rfl) rfl), rfl⟩, (tb_i1 (List.mem_of_getElem? (i := 4) rfl) rfl), tb_nh6, plainFor_of_name tb_pn6, rfl, fun h => Bool.noConfusion h⟩
set_option maxRecDepth 20000 in
theorem tb_k274 : mm_cf tb_P tb_TB tb_cn tb_ky tb_kb tb_hs 274 := ⟨Or.inl ⟨(tb_i5 (List.mem_of_getElem? (i := 63) rfl) rfl), rfl⟩, (tb_i1 (List.mem_of_getElem? (i := 4) rfl) rfl), tb_nh6, plainFor_of_name tb_pn6, rfl, fun h => Bool.noConfusion h⟩
set_option maxRecDepth 20000 in
theorem tb_k275 : mm_cf tb_P tb_TB tb_cn tb_ky tb_kb tb_hs 275 := ⟨Or.inl ⟨(tb_i5 (List.mem_of_getElem? (i := 67) rfl) rfl), rfl⟩, (tb_i1 (List.mem_of_getElem? (i := 4) rfl) rfl), tb_nh6, plainFor_of_name tb_pn6, rfl, fun h => Bool.noConfusion h⟩
set_option maxRecDepth 20000 in
theorem tb_k276 : mm_cf tb_P tb_TB tb_cn tb_ky tb_kb tb_hs 276 := ⟨Or.inl ⟨(tb_i5 (List.mem_of_getElem? (i := 71) rfl) rfl), rfl⟩, (tb_i1 (List.mem_of_getElem? (i := 4) rfl) rfl), tb_nh6, plainFor_of_name tb_pn6, rfl, fun h => Bool.noConfusion h⟩
set_option maxRecDepth 20000 in
theorem tb_k277 : mm_cf tb_P tb_TB tb_cn tb_ky tb_kb tb_hs 277 := ⟨Or.inl ⟨(tb_i5 (List.mem_of_getElem? (i := 76) rfl) rfl), rfl⟩, (tb_i1 (List.mem_of_getElem? (i := 4) rfl) rfl), tb_nh6, plainFor_of_name tb_pn6, rfl, fun h => Bool.noConfusion h⟩
set_option maxRecDepth 20000 in
theorem tb_k278 : mm_cf tb_P tb_TB tb_cn tb_ky tb_kb tb_hs 278 := ⟨Or.inl ⟨(tb_i5 (List.mem_of_getElem? (i := 80) rfl) rfl), rfl⟩, (tb_i1 (List.mem_of_getElem? (i := 4) rfl) rfl), tb_nh6, plainFor_of_name tb_pn6, rfl, fun h => Bool.noConfusion h⟩
set_option maxRecDepth 20000 in
theorem tb_k279 : mm_cf tb_P tb_TB tb_cn tb_ky tb_kb tb_hs 279 := ⟨Or.inl ⟨(tb_i5 (List.mem_of_getElem? (i := 84) rfl) rfl), rfl⟩, (tb_i1 (List.mem_of_getElem? (i := 4) rfl) rfl), tb_nh6, plainFor_of_name tb_pn6, rfl, fun h => Bool.noConfusion h⟩
set_option maxRecDepth 20000 in
theorem tb_k280 : mm_cf tb_P tb_TB tb_cn tb_ky tb_kb tb_hs 280 := ⟨Or.inl ⟨(tb_i5 (List.mem_of_getElem? (i := 123) rfl) rfl), rfl⟩, (tb_i1 (List.mem_of_getElem? (i := 4) rfl) rfl), tb_nh6, plainFor_of_name tb_pn6, rfl, fun h => Bool.noConfusion h⟩
set_option maxRecDepth 20000 in
theorem tb_k281 : mm_cf tb_P tb_TB tb_cn tb_ky tb_kb tb_hs 281 := ⟨Or.inl ⟨(tb_i5 (List.mem_of_getElem? (i := 127) rfl) rfl), rfl⟩, (tb_i1 (List.mem_of_getElem? (i := 4) rfl) rfl), tb_nh6, plainFor_of_name tb_pn6, rfl, fun h => Bool.noConfusion h⟩
set_option maxRecDepth 20000 in
theorem tb_k282 : mm_cf tb_P tb_TB tb_cn tb_ky tb_kb tb_hs 282 := ⟨Or.inl ⟨(tb_i5 (List.mem_of_getElem? (i := 134) rfl) rfl), rfl⟩, (tb_i1 (List.mem_of_getElem? (i := 4) rfl) rfl), tb_nh6, plainFor_of_name tb_pn6, rfl, fun h => Bool.noConfusion h⟩
set_option maxRecDepth 20000 in
theorem tb_k283 : mm_cf tb_P tb_TB tb_cn tb_ky tb_kb tb_hs 283 := ⟨Or.inl ⟨(tb_i5 (List.mem_of_getElem? (i := 138) rfl) rfl), rfl⟩, (tb_i1 (List.mem_of_getElem? (i := 4) rfl) rfl), tb_nh6, plainFor_of_name tb_pn6, rfl, fun h => Bool.noConfusion h⟩
set_option maxRecDepth 20000 in
theorem tb_k284 : mm_cf tb_P tb_TB tb_cn tb_ky tb_kb tb_hs 284 := ⟨Or.inl ⟨(tb_i5 (List.mem_of_getElem? (i := 142) rfl) rfl), rfl⟩, (tb_i1 (List.mem_of_getElem? (i := 4) rfl) rfl), tb_nh6, plainFor_of_name tb_pn6, rfl, fun h => Bool.noConfusion h⟩
set_option maxRecDepth 20000 in
theorem tb_k285 : mm_cf tb_P tb_TB tb_cn tb_ky tb_kb tb_hs 285 := ⟨Or.inl ⟨(tb_i5 (List.mem_of_getElem? (i := 146) rfl) rfl), rfl⟩, (tb_i1 (List.mem_of_getElem? (i := 4) rfl) rfl), tb_nh6, plainFor_of_name tb_pn6, rfl, fun h => Bool.noConfusion h⟩
set_option maxRecDepth 20000 in
theorem tb_k286 : mm_cf tb_P tb_TB tb_cn tb_ky tb_kb tb_hs 286 := ⟨Or.inl ⟨(tb_i5 (List.mem_of_getElem? (i := 150) rfl) rfl), rfl⟩, (tb_i1 (List.mem_of_getElem? (i := 4) rfl) rfl), tb_nh6, plainFor_of_name tb_pn6, rfl, fun h => Bool.noConfusion h⟩
set_option maxRecDepth 20000 in
theorem tb_k287 : mm_cf tb_P tb_TB tb_cn tb_ky tb_kb tb_hs 287 := ⟨Or.inl ⟨(tb_i5 (List.mem_of_getElem? (i := 154) rfl) rfl), rfl⟩, (tb_i1 (List.mem_of_getElem? (i := 4) rfl) rfl), tb_nh6, plainFor_of_name tb_pn6, rfl, fun h => Bool.noConfusion h⟩
set_option maxRecDepth 20000 in
theorem tb_k288 : mm_cf tb_P tb_TB tb_cn tb_ky tb_kb tb_hs 288 := ⟨Or.inl ⟨(tb_i5 (List.mem_of_getElem? (i := 158) rfl) rfl), rfl⟩, (tb_i1 (List.mem_of_getElem? (i := 4) rfl) rfl), tb_nh6, plainFor_of_name tb_pn6, rfl, fun h => Bool.noConfusion h⟩
set_option maxRecDepth 20000 in
theorem tb_k289 : mm_cf tb_P tb_TB tb_cn tb_ky tb_kb tb_hs 289 := ⟨Or.inl ⟨(tb_i5 (List.mem_of_getElem? (i := 162) rfl) rfl), rfl⟩, (tb_i1 (List.mem_of_getElem? (i := 4) rfl) rfl), tb_nh6, plainFor_of_name tb_pn6, rfl, fun h => Bool.noConfusion h⟩
set_option maxRecDepth 20000 in
theorem tb_k290 : mm_cf tb_P tb_TB tb_cn tb_ky tb_kb tb_hs 290 := ⟨Or.inl ⟨(tb_i5 (List.mem_of_getElem? (i := 166) rfl) rfl), rfl⟩, (tb_i1 (List.mem_of_getElem? (i := 4) rfl) rfl), tb_nh6, plainFor_of_name tb_pn6, rfl, fun h => Bool.noConfusion h⟩
set_option maxRecDepth 20000 in
theorem tb_k291 : mm_cf tb_P tb_TB tb_cn tb_ky tb_kb tb_hs 291 := ⟨Or.inl ⟨(tb_i5 (List.mem_of_getElem? (i := 170) rfl) rfl), rfl⟩, (tb_i1 (List.mem_of_getElem? (i := 4) rfl) rfl), tb_nh6, plainFor_of_name tb_pn6, rfl, fun h => Bool.noConfusion h⟩
set_option maxRecDepth 20000 in
theorem tb_k292 : mm_cf tb_P tb_TB tb_cn tb_ky tb_kb tb_hs 292 := ⟨Or.inl ⟨(tb_i5 (List.mem_of_getElem? (i := 182) rfl) rfl), rfl⟩, (tb_i1 (List.mem_of_getElem? (i := 4) rfl) rfl), tb_nh6, plainFor_of_name tb_pn6, rfl, fun h => Bool.noConfusion h⟩
set_option maxRecDepth 20000 in
theorem tb_k293 : mm_cf tb_P tb_TB tb_cn tb_ky tb_kb tb_hs 293 := ⟨Or.inl ⟨(tb_i5 (List.mem_of_getElem? (i := 186) rfl) rfl), rfl⟩, (tb_i1 (List.mem_of_getElem? (i := 4) rfl) rfl), tb_nh6, plainFor_of_name tb_pn6, rfl, fun h => Bool.noConfusion h⟩
set_option maxRecDepth 20000 in
theorem tb_k294 : mm_cf tb_P tb_TB tb_cn tb_ky tb_kb tb_hs 294 := ⟨Or.inl ⟨(tb_i5 (List.mem_of_getElem? (i := 190) rfl) rfl), rfl⟩, (tb_i1 (List.mem_of_getElem? (i := 4) rfl) rfl), tb_nh6, plainFor_of_name tb_pn6, rfl, fun h => Bool.noConfusion h⟩
set_option maxRecDepth 20000 in
theorem tb_k295 : mm_cf tb_P tb_TB tb_cn tb_ky tb_kb tb_hs 295 := ⟨Or.inl ⟨(tb_i5 (List.mem_of_getElem? (i := 194) rfl) rfl), rfl⟩, (tb_i1 (List.mem_of_getElem? (i := 4) rfl) rfl), tb_nh6, plainFor_of_name tb_pn6, rfl, fun h => Bool.noConfusion h⟩
set_option maxRecDepth 20000 in
theorem tb_k296 : mm_cf tb_P tb_TB tb_cn tb_ky tb_kb tb_hs 296 := ⟨Or.inl ⟨(tb_i5 (List.mem_of_getElem? (i := 198) rfl) rfl), rfl⟩, (tb_i1 (List.mem_of_getElem? (i := 4) rfl) rfl), tb_nh6, plainFor_of_name tb_pn6, rfl, fun h => Bool.noConfusion h⟩
set_option maxRecDepth 20000 in
theorem tb_k297 : mm_cf tb_P tb_TB tb_cn tb_ky tb_kb tb_hs 297 := ⟨Or.inl ⟨(tb_i5 (List.mem_of_getElem? (i := 209) rfl) rfl), rfl⟩, (tb_i1 (List.mem_of_getElem? (i := 4) rfl) rfl), tb_nh6, plainFor_of_name tb_pn6, rfl, fun h => Bool.noConfusion h⟩
set_option maxRecDepth 20000 in
theorem tb_k298 : mm_cf tb_P tb_TB tb_cn tb_ky tb_kb tb_hs 298 := ⟨Or.inl ⟨(tb_i5 (List.mem_of_getElem? (i := 213) rfl) rfl), rfl⟩, (tb_i1 (List.mem_of_getElem? (i := 4) rfl) rfl), tb_nh6, plainFor_of_name tb_pn6, rfl, fun h => Bool.noConfusion h⟩
set_option maxRecDepth 20000 in
theorem tb_k299 : mm_cf tb_P tb_TB tb_cn tb_ky tb_kb tb_hs 299 := ⟨Or.inl ⟨(tb_i5 (List.mem_of_getElem? (i := 217) rfl) rfl), rfl⟩, (tb_i1 (List.mem_of_getElem? (i := 4) rfl) rfl), tb_nh6, plainFor_of_name tb_pn6, rfl, fun h => Bool.noConfusion h⟩
set_option maxRecDepth 20000 in
theorem tb_k300 : mm_cf tb_P tb_TB tb_cn tb_ky tb_kb tb_hs 300 := ⟨Or.inl ⟨(tb_i6 (List.mem_of_getElem? (i := 81) rfl) rfl), rfl⟩, (tb_i1 (List.mem_of_getElem? (i := 4) rfl) rfl), tb_nh6, plainFor_of_name tb_pn6, rfl, fun h => Bool.noConfusion h⟩
set_option maxRecDepth 20000 in
theorem tb_k301 : mm_cf tb_P tb_TB tb_cn tb_ky tb_kb tb_hs 301 := ⟨Or.inl ⟨(tb_i6 (List.mem_of_getElem? (i := 93) rfl) rfl), rfl⟩, (tb_i1 (List.mem_of_getElem? (i := 4) rfl) rfl), tb_nh6, plainFor_of_name tb_pn6, rfl, fun h => Bool.noConfusion h⟩
set_option maxRecDepth 20000 in
theorem tb_k302 : mm_cf tb_P tb_TB tb_cn tb_ky tb_kb tb_hs 302 := ⟨Or.inl ⟨(tb_i2 (List.mem_of_getElem? (i := 25) rfl) rfl), rfl⟩, (tb_i1 (List.mem_of_getElem? (i := 9) rfl) rfl), tb_nh7, plainFor_of_name tb_pn7, rfl, fun _ => rfl⟩
set_option maxRecDepth 20000 in
theorem tb_k303 : mm_cf tb_P tb_TB tb_cn tb_ky tb_kb tb_hs 303 := ⟨Or.inl ⟨(tb_i5 (List.mem_of_getElem? (i := 221) rfl) rfl), rfl⟩, (tb_i1 (List.mem_of_getElem? (i := 9) rfl) rfl), tb_nh7, plainFor_of_name tb_pn7, rfl, fun h => Bool.noConfusion h⟩
set_option maxRecDepth 20000 in
theorem tb_k304 : mm_cf tb_P tb_TB tb_cn tb_ky tb_kb tb_hs 304 := ⟨Or.inl ⟨(tb_i5 (List.mem_of_getElem? (i := 225) rfl) rfl), rfl⟩, (tb_i1 (List.mem_of_getElem? (i := 9) rfl) rfl), tb_nh7, plainFor_of_name tb_pn7, rfl, fun h => Bool.noConfusion h⟩
set_option maxRecDepth 20000 in
theorem tb_k305 : mm_cf tb_P tb_TB tb_cn tb_ky tb_kb tb_hs 305 := ⟨Or.inl ⟨(tb_i5 (List.mem_of_getElem? (i := 230) rfl) rfl), rfl⟩, (tb_i1 (List.mem_of_getElem? (i := 9) rfl) rfl), tb_nh7, plainFor_of_name tb_pn7, rfl, fun h => Bool.noConfusion h⟩
set_option maxRecDepth 20000 in
theorem tb_k306 : mm_cf tb_P tb_TB tb_cn tb_ky tb_kb tb_hs 306 := ⟨Or.inl ⟨(tb_i5 (List.mem_of_getElem? (i := 235) rfl) rfl), rfl⟩, (tb_i1 (List.mem_of_getElem? (i := 9) rfl) rfl), tb_nh7, plainFor_of_name tb_pn7, rfl, fun h => Bool.noConfusion h⟩
set_option maxRecDepth 20000 in
theorem tb_k307 : mm_cf tb_P tb_TB tb_cn tb_ky tb_kb tb_hs 307 := ⟨Or.inl ⟨(tb_i5 (List.mem_of_getElem? (i := 239) rfl) rfl), rfl⟩, (tb_i1 (List.mem_of_getElem? (i := 9) rfl) rfl), tb_nh7, plainFor_of_name tb_pn7, rfl, fun h => Bool.noConfusion h⟩
set_option maxRecDepth 20000 in
theorem tb_k308 : mm_cf tb_P tb_TB tb_cn tb_ky tb_kb tb_hs 308 := ⟨Or.inl ⟨(tb_i6 (List.mem_of_getElem? (i := 3) rfl) rfl), rfl⟩, (tb_i1 (List.mem_of_getElem? (i := 9) rfl) rfl), tb_nh7, plainFor_of_name tb_pn7, rfl, fun h => Bool.noConfusion h⟩
set_option maxRecDepth 20000 in
theorem tb_k309 : mm_cf tb_P tb_TB tb_cn tb_ky tb_kb tb_hs 309 := ⟨Or.inl ⟨(tb_i6 (List.mem_of_getElem? (i := 7) rfl) rfl), rfl⟩, (tb_i1 (List.mem_of_getElem? (i := 9) rfl) rfl), tb_nh7, plainFor_of_name tb_pn7, rfl, fun h => Bool.noConfusion h⟩
set_option maxRecDepth 20000 in
theorem tb_k310 : mm_cf tb_P tb_TB tb_cn tb_ky tb_kb tb_hs 310 := ⟨Or.inl ⟨(tb_i6 (List.mem_of_getElem? (i := 114) rfl) rfl), rfl⟩, (tb_i1 (List.mem_of_getElem? (i := 9) rfl) rfl), tb_nh7, plainFor_of_name tb_pn7, rfl, fun h => Bool.noConfusion h⟩
set_option maxRecDepth 20000 in
theorem tb_k311 : mm_cf tb_P tb_TB tb_cn tb_ky tb_kb tb_hs 311 := ⟨Or.inl ⟨(tb_i2 (List.mem_of_getElem? (i := 58) rfl) rfl), rfl⟩, (tb_i1 (List.mem_of_getElem? (i := 10) rfl) rfl), tb_nh8, plainFor_of_name tb_pn8, rfl, fun _ => rfl⟩
set_option maxRecDepth 20000 in
theorem tb_k312 : mm_cf tb_P tb_TB tb_cn tb_ky tb_kb tb_hs 312 := ⟨Or.inl ⟨(tb_i6 (List.mem_of_getElem? (i := 134) rfl) rfl), rfl⟩, (tb_i1 (List.mem_of_getElem? (i := 10) rfl) rfl), tb_nh8, plainFor_of_name tb_pn8, rfl, fun h => Bool.noConfusion h⟩
set_option maxRecDepth 20000 in
theorem tb_k313 : mm_cf tb_P tb_TB tb_cn tb_ky tb_kb tb_hs 313 := ⟨Or.inl ⟨(tb_i6 (List.mem_of_getElem? (i := 147) rfl) rfl), rfl⟩, (tb_i1 (List.mem_of_getElem? (i := 10) rfl) rfl), tb_nh8, plainFor_of_name tb_pn8, rfl, fun h => Bool.noConfusion h⟩
set_option maxRecDepth 20000 in
theorem tb_k314 : mm_cf tb_P tb_TB tb_cn tb_ky tb_kb tb_hs 314 := ⟨Or.inl ⟨(tb_i6 (List.mem_of_getElem? (i := 158) rfl) rfl), rfl⟩, (tb_i1 (List.mem_of_getElem? (i := 10) rfl) rfl), tb_nh8, plainFor_of_name tb_pn8, rfl, fun h => Bool.noConfusion h⟩
set_option maxRecDepth 20000 in
theorem tb_k315 : mm_cf tb_P tb_TB tb_cn tb_ky tb_kb tb_hs 315 := ⟨Or.inl ⟨(tb_i6 (List.mem_of_getElem? (i := 162) rfl) rfl), rfl⟩, (tb_i1 (List.mem_of_getElem? (i := 10) rfl) rfl), tb_nh8, plainFor_of_name tb_pn8, rfl, fun h => Bool.noConfusion h⟩
set_option maxRecDepth 20000 in
theorem tb_k316 : mm_cf tb_P tb_TB tb_cn tb_ky tb_kb tb_hs 316 := ⟨Or.inl ⟨(tb_i6 (List.mem_of_getElem? (i := 167) rfl) rfl), rfl⟩, (tb_i1 (List.mem_of_getElem? (i := 10) rfl) rfl), tb_nh8, plainFor_of_name tb_pn8, rfl, fun h => Bool.noConfusion h⟩
set_option maxRecDepth 20000 in
theorem tb_k317 : mm_cf tb_P tb_TB tb_cn tb_ky tb_kb tb_hs 317 := ⟨Or.inl ⟨(tb_i6 (List.mem_of_getElem? (i := 180) rfl) rfl), rfl⟩, (tb_i1 (List.mem_of_getElem? (i := 10) rfl) rfl), tb_nh8, plainFor_of_name tb_pn8, rfl, fun h => Bool.noConfusion h⟩
set_option maxRecDepth 20000 in
theorem tb_k318 : mm_cf tb_P tb_TB tb_cn tb_ky tb_kb tb_hs 318 := ⟨Or.inl ⟨(tb_i6 (List.mem_of_getElem? (i := 184) rfl) rfl), rfl⟩, (tb_i1 (List.mem_of_getElem? (i := 10) rfl) rfl), tb_nh8, plainFor_of_name tb_pn8, rfl, fun h => Bool.noConfusion h⟩
set_option maxRecDepth 20000 in
theorem tb_k319 : mm_cf tb_P tb_TB tb_cn tb_ky tb_kb tb_hs 319 := ⟨Or.inl ⟨(tb_i6 (List.mem_of_getElem? (i := 196) rfl) rfl), rfl⟩, (tb_i1 (List.mem_of_getElem? (i := 10) rfl) rfl), tb_nh8, plainFor_of_name tb_pn8, rfl, fun h => Bool.noConfusion h⟩
set_option maxRecDepth 20000 in
theorem tb_k320 : mm_cf tb_P tb_TB tb_cn tb_ky tb_kb tb_hs 320 := ⟨Or.inl ⟨(tb_i6 (List.mem_of_getElem? (i := 208) rfl) rfl), rfl⟩, (tb_i1 (List.mem_of_getElem? (i := 10) rfl) rfl), tb_nh8, plainFor_of_name tb_pn8, rfl, fun h => Bool.noConfusion h⟩
set_option maxRecDepth 20000 in
theorem tb_k321 : mm_cf tb_P tb_TB tb_cn tb_ky tb_kb tb_hs 321 := ⟨Or.inl ⟨(tb_i6 (List.mem_of_getElem? (i := 214) rfl) rfl), rfl⟩, (tb_i1 (List.mem_of_getElem? (i := 10) rfl) rfl), tb_nh8, plainFor_of_name tb_pn8, rfl, fun h => Bool.noConfusion h⟩
set_option maxRecDepth 20000 in
theorem tb_k322 : mm_cf tb_P tb_TB tb_cn tb_ky tb_kb tb_hs 322 := ⟨Or.inl ⟨(tb_i6 (List.mem_of_getElem? (i := 218) rfl) rfl), rfl⟩, (tb_i1 (List.mem_of_getElem? (i := 10) rfl) rfl), tb_nh8, plainFor_of_name tb_pn8, rfl, fun h => Bool.noConfusion h⟩
set_option maxRecDepth 20000 in
theorem tb_k323 : mm_cf tb_P tb_TB tb_cn tb_ky tb_kb tb_hs 323 := ⟨Or.inl ⟨(tb_i6 (List.mem_of_getElem? (i := 222) rfl) rfl), rfl⟩, (tb_i1 (List.mem_of_getElem? (i := 10) rfl) rfl), tb_nh8, plainFor_of_name tb_pn8, rfl, fun h => Bool.noConfusion h⟩
set_option maxRecDepth 20000 in
theorem tb_k324 : mm_cf tb_P tb_TB tb_cn tb_ky tb_kb tb_hs 324 := ⟨Or.inl ⟨(tb_i6 (List.mem_of_getElem? (i := 226) rfl) rfl), rfl⟩, (tb_i1 (List.mem_of_getElem? (i := 10) rfl) rfl), tb_nh8, plainFor_of_name tb_pn8, rfl, fun h => Bool.noConfusion h⟩
set_option maxRecDepth 20000 in
theorem tb_k325 : mm_cf tb_P tb_TB tb_cn tb_ky tb_kb tb_hs 325 := ⟨Or.inl ⟨(tb_i6 (List.mem_of_getElem? (i := 230) rfl) rfl), rfl⟩, (tb_i1 (List.mem_of_getElem? (i := 10) rfl) rfl), tb_nh8, plainFor_of_name tb_pn8, rfl, fun h => Bool.noConfusion h⟩
set_option maxRecDepth 20000 in
theorem tb_k326 : mm_cf tb_P tb_TB tb_cn tb_ky tb_kb tb_hs 326 := ⟨Or.inl ⟨(tb_i2 (List.mem_of_getElem? (i := 77) rfl) rfl), rfl⟩, (tb_i1 (List.mem_of_getElem? (i := 11) rfl) rfl), tb_nh9, plainFor_of_name tb_pn9, rfl, fun _ => rfl⟩
set_option maxRecDepth 20000 in
theorem tb_k327 : mm_cf tb_P tb_TB tb_cn tb_ky tb_kb tb_hs 327 := ⟨Or.inl ⟨(tb_i6 (List.mem_of_getElem? (i := 19) rfl) rfl), rfl⟩, (tb_i1 (List.mem_of_getElem? (i := 11) rfl) rfl), tb_nh9, plainFor_of_name tb_pn9, rfl, fun h => Bool.noConfusion h⟩
set_option maxRecDepth 20000 in
theorem tb_k328 : mm_cf tb_P tb_TB tb_cn tb_ky tb_kb tb_hs 328 := ⟨Or.inl ⟨(tb_i6 (List.mem_of_getElem? (i := 23) rfl) rfl), rfl⟩, (tb_i1 (List.mem_of_getElem? (i := 11) rfl) rfl), tb_nh9, plainFor_of_name tb_pn9, rfl, fun h => Bool.noConfusion h⟩
set_option maxRecDepth 20000 in
theorem tb_k329 : mm_cf tb_P tb_TB tb_cn tb_ky tb_kb tb_hs 329 := ⟨Or.inl ⟨(tb_i6 (List.mem_of_getElem? (i := 27) rfl) rfl), rfl⟩, (tb_i1 (List.mem_of_getElem? (i := 11) rfl) rfl), tb_nh9, plainFor_of_name tb_pn9, rfl, fun h => Bool.noConfusion h⟩
set_option maxRecDepth 20000 in
theorem tb_k330 : mm_cf tb_P tb_TB tb_cn tb_ky tb_kb tb_hs 330 := ⟨Or.inl ⟨(tb_i6 (List.mem_of_getElem? (i := 31) rfl) rfl), rfl⟩, (tb_i1 (List.mem_of_getElem? (i := 11) rfl) rfl), tb_nh9, plainFor_of_name tb_pn9, rfl, fun h => Bool.noConfusion h⟩
set_option maxRecDepth 20000 in
theorem tb_k331 : mm_cf tb_P tb_TB tb_cn tb_ky tb_kb tb_hs 331 := ⟨Or.inl ⟨(tb_i6 (List.mem_of_getElem? (i := 234) rfl) rfl), rfl⟩, (tb_i1 (List.mem_of_getElem? (i := 11) rfl) rfl), tb_nh9, plainFor_of_name tb_pn9, rfl, fun h => Bool.noConfusion h⟩
set_option maxRecDepth 20000 in
theorem tb_k332 : mm_cf tb_P tb_TB tb_cn tb_ky tb_kb tb_hs 332 := ⟨Or.inl ⟨(tb_i6 (List.mem_of_getElem? (i := 238) rfl) rfl), rfl⟩, (tb_i1 (List.mem_of_getElem? (i := 11) rfl) rfl), tb_nh9, plainFor_of_name tb_pn9, rfl, fun h => Bool.noConfusion h⟩
set_option maxRecDepth 20000 in
theorem tb_k333 : mm_cf tb_P tb_TB tb_cn tb_ky tb_kb tb_hs 333 := ⟨Or.inl ⟨(tb_i7 (List.mem_of_getElem? (i := 5) rfl) rfl), rfl⟩, (tb_i1 (List.mem_of_getElem? (i := 11) rfl) rfl), tb_nh9, plainFor_of_name tb_pn9, rfl, fun h => Bool.noConfusion h⟩
set_option maxRecDepth 20000 in
theorem tb_k334 : mm_cf tb_P tb_TB tb_cn tb_ky tb_kb tb_hs 334 := ⟨Or.inl ⟨(tb_i7 (List.mem_of_getElem? (i := 9) rfl) rfl), rfl⟩, (tb_i1 (List.mem_of_getElem? (i := 11) rfl) rfl), tb_nh9, plainFor_of_name tb_pn9, rfl, fun h => Bool.noConfusion h⟩
set_option maxRecDepth 20000 in
theorem tb_k335 : mm_cf tb_P tb_TB tb_cn tb_ky tb_kb tb_hs 335 := ⟨Or.inl ⟨(tb_i7 (List.mem_of_getElem? (i := 16) rfl) rfl), rfl⟩, (tb_i1 (List.mem_of_getElem? (i := 11) rfl) rfl), tb_nh9, plainFor_of_name tb_pn9, rfl, fun h => Bool.noConfusion h⟩
set_option maxRecDepth 20000 in
theorem tb_k336 : mm_cf tb_P tb_TB tb_cn tb_ky tb_kb tb_hs 336 := ⟨Or.inl ⟨(tb_i7 (List.mem_of_getElem? (i := 21) rfl) rfl), rfl⟩, (tb_i1 (List.mem_of_getElem? (i := 11) rfl) rfl), tb_nh9, plainFor_of_name tb_pn9, rfl, fun h => Bool.noConfusion h⟩
set_option maxRecDepth 20000 in
theorem tb_k337 : mm_cf tb_P tb_TB tb_cn tb_ky tb_kb tb_hs 337 := ⟨Or.inl ⟨(tb_i7 (List.mem_of_getElem? (i := 25) rfl) rfl), rfl⟩, (tb_i1 (List.mem_of_getElem? (i := 11) rfl) rfl), tb_nh9, plainFor_of_name tb_pn9, rfl, fun h => Bool.noConfusion h⟩
set_option maxRecDepth 20000 in
theorem tb_k338 : mm_cf tb_P tb_TB tb_cn tb_ky tb_kb tb_hs 338 := ⟨Or.inl ⟨(tb_i7 (List.mem_of_getElem? (i := 30) rfl) rfl), rfl⟩, (tb_i1 (List.mem_of_getElem? (i := 11) rfl) rfl), tb_nh9, plainFor_of_name tb_pn9, rfl, fun h => Bool.noConfusion h⟩
set_option maxRecDepth 20000 in
theorem tb_k339 : mm_cf tb_P tb_TB tb_cn tb_ky tb_kb tb_hs 339 := ⟨Or.inl ⟨(tb_i7 (List.mem_of_getElem? (i := 34) rfl) rfl), rfl⟩, (tb_i1 (List.mem_of_getElem? (i := 11) rfl) rfl), tb_nh9, plainFor_of_name tb_pn9, rfl, fun h => Bool.noConfusion h⟩
set_option maxRecDepth 20000 in
theorem tb_k340 : mm_cf tb_P tb_TB tb_cn tb_ky tb_kb tb_hs 340 := ⟨Or.inl ⟨(tb_i7 (List.mem_of_getElem? (i := 38) rfl) rfl), rfl⟩, (tb_i1 (List.mem_of_getElem? (i := 11) rfl) rfl), tb_nh9, plainFor_of_name tb_pn9, rfl, fun h => Bool.noConfusion h⟩
set_option maxRecDepth 20000 in
theorem tb_k341 : mm_cf tb_P tb_TB tb_cn tb_ky tb_kb tb_hs 341 := ⟨Or.inl ⟨(tb_i7 (List.mem_of_getElem? (i := 42) rfl) rfl), rfl⟩, (tb_i1 (List.mem_of_getElem? (i := 11) rfl) rfl), tb_nh9, plainFor_of_name tb_pn9, rfl, fun h => Bool.noConfusion h⟩
set_option maxRecDepth 20000 in
theorem tb_k342 : mm_cf tb_P tb_TB tb_cn tb_ky tb_kb tb_hs 342 := ⟨Or.inl ⟨(tb_i7 (List.mem_of_getElem? (i := 51) rfl) rfl), rfl⟩, (tb_i1 (List.mem_of_getElem? (i := 11) rfl) rfl), tb_nh9, plainFor_of_name tb_pn9, rfl, fun h => Bool.noConfusion h⟩
set_option maxRecDepth 20000 in
theorem tb_k343 : mm_cf tb_P tb_TB tb_cn tb_ky tb_kb tb_hs 343 := ⟨Or.inl ⟨(tb_i7 (List.mem_of_getElem? (i := 56) rfl) rfl), rfl⟩, (tb_i1 (List.mem_of_getElem? (i := 11) rfl) rfl), tb_nh9, plainFor_of_name tb_pn9, rfl, fun h => Bool.noConfusion h⟩
set_option maxRecDepth 20000 in
theorem tb_k344 : mm_cf tb_P tb_TB tb_cn tb_ky tb_kb tb_hs 344 := ⟨Or.inl ⟨(tb_i7 (List.mem_of_getElem? (i := 60) rfl) rfl), rfl⟩, (tb_i1 (List.mem_of_getElem? (i := 11) rfl) rfl), tb_nh9, plainFor_of_name tb_pn9, rfl, fun h => Bool.noConfusion h⟩
set_option maxRecDepth 20000 in
theorem tb_k345 : mm_cf tb_P tb_TB tb_cn tb_ky tb_kb tb_hs 345 := ⟨Or.inl ⟨(tb_i7 (List.mem_of_getElem? (i := 65) rfl) rfl), rfl⟩, (tb_i1 (List.mem_of_getElem? (i := 11) rfl) rfl), tb_nh9, plainFor_of_name tb_pn9, rfl, fun h => Bool.noConfusion h⟩
set_option maxRecDepth 20000 in
theorem tb_k346 : mm_cf tb_P tb_TB tb_cn tb_ky tb_kb tb_hs 346 := ⟨Or.inl ⟨(tb_i7 (List.mem_of_getElem? (i := 69) rfl) rfl), rfl⟩, (tb_i1 (List.mem_of_getElem? (i := 11) rfl) rfl), tb_nh9, plainFor_of_name tb_pn9, rfl, fun h => Bool.noConfusion h⟩
set_option maxRecDepth 20000 in
theorem tb_k347 : mm_cf tb_P tb_TB tb_cn tb_ky tb_kb tb_hs 347 := ⟨Or.inl ⟨(tb_i7 (List.mem_of_getElem? (i := 73) rfl) rfl), rfl⟩, (tb_i1 (List.mem_of_getElem? (i := 11) rfl) rfl), tb_nh9, plainFor_of_name tb_pn9, rfl, fun h => Bool.noConfusion h⟩
set_option maxRecDepth 20000 in
theorem tb_k348 : mm_cf tb_P tb_TB tb_cn tb_ky tb_kb tb_hs 348 := ⟨Or.inl ⟨(tb_i7 (List.mem_of_getElem? (i := 77) rfl) rfl), rfl⟩, (tb_i1 (List.mem_of_getElem? (i := 11) rfl) rfl), tb_nh9, plainFor_of_name tb_pn9, rfl, fun h => Bool.noConfusion h⟩
set_option maxRecDepth 20000 in
theorem tb_k349 : mm_cf tb_P tb_TB tb_cn tb_ky tb_kb tb_hs 349 := ⟨Or.inl ⟨(tb_i7 (List.mem_of_getElem? (i := 81) rfl) rfl), rfl⟩, (tb_i1 (List.mem_of_getElem? (i := 11) rfl) rfl), tb_nh9, plainFor_of_name tb_pn9, rfl, fun h => Bool.noConfusion h⟩
set_option maxRecDepth 20000 in
theorem tb_k350 : mm_cf tb_P tb_TB tb_cn tb_ky tb_kb tb_hs 350 := ⟨Or.inl ⟨(tb_i7 (List.mem_of_getElem? (i := 85) rfl) rfl), rfl⟩, (tb_i1 (List.mem_of_getElem? (i := 11) rfl) rfl), tb_nh9, plainFor_of_name tb_pn9, rfl, fun h => Bool.noConfusion h⟩
set_option maxRecDepth 20000 in
theorem tb_k351 : mm_cf tb_P tb_TB tb_cn tb_ky tb_kb tb_hs 351 := ⟨Or.inl ⟨(tb_i7 (List.mem_of_getElem? (i := 98) rfl) rfl), rfl⟩, (tb_i1 (List.mem_of_getElem? (i := 11) rfl) rfl), tb_nh9, plainFor_of_name tb_pn9, rfl, fun h => Bool.noConfusion h⟩
set_option maxRecDepth 20000 in
theorem tb_k352 : mm_cf tb_P tb_TB tb_cn tb_ky tb_kb tb_hs 352 := ⟨Or.inl ⟨(tb_i2 (List.mem_of_getElem? (i := 182) rfl) rfl), rfl⟩, (tb_i1 (List.mem_of_getElem? (i := 17) rfl) rfl), tb_nh10, plainFor_of_name tb_pn10, rfl, fun _ => rfl⟩
set_option maxRecDepth 20000 in
theorem tb_k353 : mm_cf tb_P tb_TB tb_cn tb_ky tb_kb tb_hs 353 := ⟨Or.inl ⟨(tb_i3 (List.mem_of_getElem? (i := 12) rfl) rfl), rfl⟩, (tb_i1 (List.mem_of_getElem? (i := 17) rfl) rfl), tb_nh10, plainFor_of_name tb_pn10, rfl, fun h => Bool.noConfusion h⟩
set_option maxRecDepth 20000 in
theorem tb_k354 : mm_cf tb_P tb_TB tb_cn tb_ky tb_kb tb_hs 354 := ⟨Or.inl ⟨(tb_i3 (List.mem_of_getElem? (i := 237) rfl) rfl), rfl⟩, (tb_i1 (List.mem_of_getElem? (i := 17) rfl) rfl), tb_nh10, plainFor_of_name tb_pn10, rfl, fun h => Bool.noConfusion h⟩
set_option maxRecDepth 20000 in
theorem tb_k355 : mm_cf tb_P tb_TB tb_cn tb_ky tb_kb tb_hs 355 := ⟨Or.inl ⟨(tb_i4 (List.mem_of_getElem? (i := 1) rfl) rfl), rfl⟩, (tb_i1 (List.mem_of_getElem? (i := 17) rfl) rfl), tb_nh10, plainFor_of_name tb_pn10, rfl, fun h => Bool.noConfusion h⟩
set_option maxRecDepth 20000 in
theorem tb_k356 : mm_cf tb_P tb_TB tb_cn tb_ky tb_kb tb_hs 356 := ⟨Or.inl ⟨(tb_i4 (List.mem_of_getElem? (i := 94) rfl) rfl), rfl⟩, (tb_i1 (List.mem_of_getElem? (i := 17) rfl) rfl), tb_nh10, plainFor_of_name tb_pn10, rfl, fun h => Bool.noConfusion h⟩
set_option maxRecDepth 20000 in
theorem tb_k357 : mm_cf tb_P tb_TB tb_cn tb_ky tb_kb tb_hs 357 := ⟨Or.inl ⟨(tb_i4 (List.mem_of_getElem? (i := 108) rfl) rfl), rfl⟩, (tb_i1 (List.mem_of_getElem? (i := 17) rfl) rfl), tb_nh10, plainFor_of_name tb_pn10, rfl, fun h => Bool.noConfusion h⟩
set_option maxRecDepth 20000 in
theorem tb_k358 : mm_cf tb_P tb_TB tb_cn tb_ky tb_kb tb_hs 358 := ⟨Or.inl ⟨(tb_i4 (List.mem_of_getElem? (i := 113) rfl) rfl), rfl⟩, (tb_i1 (List.mem_of_getElem? (i := 17) rfl) rfl), tb_nh10, plainFor_of_name tb_pn10, rfl, fun h => Bool.noConfusion h⟩
set_option maxRecDepth 20000 in
theorem tb_k359 : mm_cf tb_P tb_TB tb_cn tb_ky tb_kb tb_hs 359 := ⟨Or.inl ⟨(tb_i4 (List.mem_of_getElem? (i := 117) rfl) rfl), rfl⟩, (tb_i1 (List.mem_of_getElem? (i := 17) rfl) rfl), tb_nh10, plainFor_of_name tb_pn10, rfl, fun h => Bool.noConfusion h⟩
set_option maxRecDepth 20000 in
theorem tb_k360 : mm_cf tb_P tb_TB tb_cn tb_ky tb_kb tb_hs 360 := ⟨Or.inl ⟨(tb_i5 (List.mem_of_getElem? (i := 131) rfl) rfl), rfl⟩, (tb_i1 (List.mem_of_getElem? (i := 17) rfl) rfl), tb_nh10, plainFor_of_name tb_pn10, rfl, fun h => Bool.noConfusion h⟩
set_option maxRecDepth 20000 in
theorem tb_k361 : mm_cf tb_P tb_TB tb_cn tb_ky tb_kb tb_hs 361 := ⟨Or.inl ⟨(tb_i4 (List.mem_of_getElem? (i := 161) rfl) rfl), rfl⟩, (tb_i1 (List.mem_of_getElem? (i := 23) rfl) rfl), tb_nh11, plainFor_of_name tb_pn11, rfl, fun _ => rfl⟩
set_option maxRecDepth 20000 in
theorem tb_k362 : mm_cf tb_P tb_TB tb_cn tb_ky tb_kb tb_hs 362 := ⟨Or.inl ⟨(tb_i4 (List.mem_of_getElem? (i := 224) rfl) rfl), rfl⟩, (tb_i1 (List.mem_of_getElem? (i := 23) rfl) rfl), tb_nh11, plainFor_of_name tb_pn11, rfl, fun h => Bool.noConfusion h⟩
set_option maxRecDepth 20000 in
theorem tb_k363 : mm_cf tb_P tb_TB tb_cn tb_ky tb_kb tb_hs 363 := ⟨Or.inl ⟨(tb_i5 (List.mem_of_getElem? (i := 54) rfl) rfl), rfl⟩, (tb_i1 (List.mem_of_getElem? (i := 23) rfl) rfl), tb_nh11, plainFor_of_name tb_pn11, rfl, fun h => Bool.noConfusion h⟩
set_option maxRecDepth 20000 in
theorem tb_k364 : mm_cf tb_P tb_TB tb_cn tb_ky tb_kb tb_hs 364 := ⟨Or.inl ⟨(tb_i1 (List.mem_of_getElem? (i := 140) rfl) rfl), rfl⟩, (tb_i1 (List.mem_of_getElem? (i := 7) rfl) rfl), tb_nh16, by decide +kernel, rfl, fun h => Bool.noConfusion h⟩
set_option maxRecDepth 20000 in
theorem tb_k365 : mm_cf tb_P tb_TB tb_cn tb_ky tb_kb tb_hs 365 := ⟨Or.inl ⟨(tb_i2 (List.mem_of_getElem? (i := 177) rfl) rfl), rfl⟩, (tb_i1 (List.mem_of_getElem? (i := 7) rfl) rfl), tb_nh16, by decide +kernel, rfl, fun h => Bool.noConfusion h⟩
set_option maxRecDepth 20000 in
theorem tb_k366 : mm_cf tb_P tb_TB tb_cn tb_ky tb_kb tb_hs 366 := ⟨Or.inl ⟨(tb_i5 (List.mem_of_getElem? (i := 106) rfl) rfl), rfl⟩, (tb_i1 (List.mem_of_getElem? (i := 7) rfl) rfl), tb_nh16, by decide +kernel, rfl, fun h => Bool.noConfusion h⟩
set_option maxRecDepth 20000 in
theorem tb_k367 : mm_cf tb_P tb_TB tb_cn tb_ky tb_kb tb_hs 367 := ⟨Or.inl ⟨(tb_i5 (List.mem_of_getElem? (i := 109) rfl) rfl), rfl⟩, (tb_i1 (List.mem_of_getElem? (i := 7) rfl) rfl), tb_nh16, by decide +kernel, rfl, fun h => Bool.noConfusion h⟩
set_option maxRecDepth 20000 in
theorem tb_k368 : mm_cf tb_P tb_TB tb_cn tb_ky tb_kb tb_hs 368 := ⟨Or.inl ⟨(tb_i5 (List.mem_of_getElem? (i := 114) rfl) rfl), rfl⟩, (tb_i1 (List.mem_of_getElem? (i := 7) rfl) rfl), tb_nh16, by decide +kernel, rfl, fun h => Bool.noConfusion h⟩
set_option maxRecDepth 20000 in
theorem tb_k369 : mm_cf tb_P tb_TB tb_cn tb_ky tb_kb tb_hs 369 := ⟨Or.inl ⟨(tb_i7 (List.mem_of_getElem? (i := 47) rfl) rfl), rfl⟩, (tb_i1 (List.mem_of_getElem? (i := 7) rfl) rfl), tb_nh16, by decide +kernel, rfl, fun h => Bool.noConfusion h⟩
set_option maxRecDepth 20000 in
theorem tb_k370 : mm_cf tb_P tb_TB tb_cn tb_ky tb_kb tb_hs 370 := ⟨Or.inl ⟨(tb_i4 (List.mem_of_getElem? (i := 211) rfl) rfl), rfl⟩, (tb_i1 (List.mem_of_getElem? (i := 24) rfl) rfl), tb_nh17, by decide +kernel, rfl, fun h => Bool.noConfusion h⟩
set_option maxRecDepth 20000 in
theorem tb_k371 : mm_cf tb_P tb_TB tb_cn tb_ky tb_kb tb_hs 371 := ⟨Or.inl ⟨(tb_i7 (List.mem_of_getElem? (i := 1) rfl) rfl), rfl⟩, (tb_i1 (List.mem_of_getElem? (i := 24) rfl) rfl), tb_nh17, by decide +kernel, rfl, fun h => Bool.noConfusion h⟩
set_option maxRecDepth 20000 in
theorem tb_k372 : mm_cf tb_P tb_TB tb_cn tb_ky tb_kb tb_hs 372 := ⟨Or.inl ⟨(tb_i3 (List.mem_of_getElem? (i := 52) rfl) rfl), rfl⟩, (tb_i1 (List.mem_of_getElem? (i := 18) rfl) rfl), tb_nh18, by decide +kernel, rfl, fun h => Bool.noConfusion h⟩
set_option maxRecDepth 20000 in
theorem tb_k373 : mm_cf tb_P tb_TB tb_cn tb_ky tb_kb tb_hs 373 := ⟨Or.inl ⟨(tb_i3 (List.mem_of_getElem? (i := 56) rfl) rfl), rfl⟩, (tb_i1 (List.mem_of_getElem? (i := 18) rfl) rfl), tb_nh18, by decide +kernel, rfl, fun h => Bool.noConfusion h⟩
set_option maxRecDepth 20000 in
theorem tb_k374 : mm_cf tb_P tb_TB tb_cn tb_ky tb_kb tb_hs 374 := ⟨Or.inl ⟨(tb_i3 (List.mem_of_getElem? (i := 60) rfl) rfl), rfl⟩, (tb_i1 (List.mem_of_getElem? (i := 18) rfl) rfl), tb_nh18, by decide +kernel, rfl, fun h => Bool.noConfusion h⟩
set_option maxRecDepth 20000 in
theorem tb_k375 : mm_cf tb_P tb_TB tb_cn tb_ky tb_kb tb_hs 375 := ⟨Or.inl ⟨(tb_i3 (List.mem_of_getElem? (i := 66) rfl) rfl), rfl⟩, (tb_i1 (List.mem_of_getElem? (i := 18) rfl) rfl), tb_nh18, by decide +kernel, rfl, fun h => Bool.noConfusion h⟩
set_option maxRecDepth 20000 in
theorem tb_k376 : mm_cf tb_P tb_TB tb_cn tb_ky tb_kb tb_hs 376 := ⟨Or.inl ⟨(tb_i3 (List.mem_of_getElem? (i := 70) rfl) rfl), rfl⟩, (tb_i1 (List.mem_of_getElem? (i := 18) rfl) rfl), tb_nh18, by decide +kernel, rfl, fun h => Bool.noConfusion h⟩
set_option maxRecDepth 20000 in
theorem tb_k377 : mm_cf tb_P tb_TB tb_cn tb_ky tb_kb tb_hs 377 := ⟨Or.inl ⟨(tb_i3 (List.mem_of_getElem? (i := 73) rfl) rfl), rfl⟩, (tb_i1 (List.mem_of_getElem? (i := 19) rfl) rfl), tb_nh19, by decide +kernel, rfl, fun h => Bool.noConfusion h⟩
set_option maxRecDepth 20000 in
theorem tb_k378 : mm_cf tb_P tb_TB tb_cn tb_ky tb_kb tb_hs 378 := ⟨Or.inl ⟨(tb_i3 (List.mem_of_getElem? (i := 76) rfl) rfl), rfl⟩, (tb_i1 (List.mem_of_getElem? (i := 19) rfl) rfl), tb_nh19, by decide +kernel, rfl, fun h => Bool.noConfusion h⟩
set_option maxRecDepth 20000 in
theorem tb_k379 : mm_cf tb_P tb_TB tb_cn tb_ky tb_kb tb_hs 379 := ⟨Or.inl ⟨(tb_i3 (List.mem_of_getElem? (i := 81) rfl) rfl), rfl⟩, (tb_i1 (List.mem_of_getElem? (i := 19) rfl) rfl), tb_nh19, by decide +kernel, rfl, fun h => Bool.noConfusion h⟩
theorem tb_y0 : (parseMethodDescriptor "()B").map (fun d => d.parameters.length + 1) = some 1 := by decide +kernel
theorem tb_y1 : (parseMethodDescriptor "()I").map (fun d => d.parameters.length + 1) = some 1 := by decide +kernel
theorem tb_y2 : (parseMethodDescriptor "()LIndexedCompiler$Expression;").map (fun d => d.parameters.length + 1) = some 1 := by decide +kernel
theorem tb_y3 : (parseMethodDescriptor "()LIndexedCompiler$Shape;").map (fun d => d.parameters.length + 1) = some 1 := by decide +kernel
theorem tb_y4 : (parseMethodDescriptor "()V").map (fun d => d.parameters.length + 1) = some 1 := by decide +kernel
theorem tb_y5 : (parseMethodDescriptor "()Z").map (fun d => d.parameters.length + 1) = some 1 := by decide +kernel
theorem tb_y6 : (parseMethodDescriptor "(C)Z").map (fun d => d.parameters.length) = some 1 := by decide +kernel
theorem tb_y7 : (parseMethodDescriptor "(I)C").map (fun d => d.parameters.length + 1) = some 2 := by decide +kernel
theorem tb_y8 : (parseMethodDescriptor "(I)I").map (fun d => d.parameters.length) = some 1 := by decide +kernel
theorem tb_y9 : (parseMethodDescriptor "(I)I").map (fun d => d.parameters.length + 1) = some 2 := by decide +kernel
theorem tb_y10 : (parseMethodDescriptor "(I)LIndexedCompiler$Expression;").map (fun d => d.parameters.length + 1) = some 2 := by decide +kernel
theorem tb_y11 : (parseMethodDescriptor "(I)LIndexedCompiler$Tree;").map (fun d => d.parameters.length + 1) = some 2 := by decide +kernel
theorem tb_y12 : (parseMethodDescriptor "(I)V").map (fun d => d.parameters.length + 1) = some 2 := by decide +kernel
theorem tb_y13 : (parseMethodDescriptor "(I)Z").map (fun d => d.parameters.length) = some 1 := by decide +kernel
theorem tb_y14 : (parseMethodDescriptor "(I)Z").map (fun d => d.parameters.length + 1) = some 2 := by decide +kernel
theorem tb_y15 : (parseMethodDescriptor "(II)I").map (fun d => d.parameters.length) = some 2 := by decide +kernel
theorem tb_y16 : (parseMethodDescriptor "(II)I").map (fun d => d.parameters.length + 1) = some 3 := by decide +kernel
theorem tb_y17 : (parseMethodDescriptor "(II)V").map (fun d => d.parameters.length + 1) = some 3 := by decide +kernel
theorem tb_y18 : (parseMethodDescriptor "(II)Z").map (fun d => d.parameters.length) = some 2 := by decide +kernel
theorem tb_y19 : (parseMethodDescriptor "(II)Z").map (fun d => d.parameters.length + 1) = some 3 := by decide +kernel
theorem tb_y20 : (parseMethodDescriptor "(III)I").map (fun d => d.parameters.length + 1) = some 4 := by decide +kernel
theorem tb_y21 : (parseMethodDescriptor "(III)V").map (fun d => d.parameters.length + 1) = some 4 := by decide +kernel
theorem tb_y22 : (parseMethodDescriptor "(III)Z").map (fun d => d.parameters.length + 1) = some 4 := by decide +kernel
theorem tb_y23 : (parseMethodDescriptor "(IIII)I").map (fun d => d.parameters.length + 1) = some 5 := by decide +kernel
theorem tb_y24 : (parseMethodDescriptor "(IIII)V").map (fun d => d.parameters.length + 1) = some 5 := by decide +kernel
theorem tb_y25 : (parseMethodDescriptor "(IIII)Z").map (fun d => d.parameters.length) = some 4 := by decide +kernel
theorem tb_y26 : (parseMethodDescriptor "(IIII)Z").map (fun d => d.parameters.length + 1) = some 5 := by decide +kernel
theorem tb_y27 : (parseMethodDescriptor "(IIIII)I").map (fun d => d.parameters.length + 1) = some 6 := by decide +kernel
theorem tb_y28 : (parseMethodDescriptor "(IIIIJ)Z").map (fun d => d.parameters.length + 1) = some 6 := by decide +kernel
theorem tb_y29 : (parseMethodDescriptor "(IIIJ)J").map (fun d => d.parameters.length + 1) = some 5 := by decide +kernel
theorem tb_y30 : (parseMethodDescriptor "(IILIndexedCompiler$Expression;)V").map (fun d => d.parameters.length + 1) = some 4 := by decide +kernel
theorem tb_y31 : (parseMethodDescriptor "(IIZ)V").map (fun d => d.parameters.length + 1) = some 4 := by decide +kernel
theorem tb_y32 : (parseMethodDescriptor "(II[JI[JI[J)Z").map (fun d => d.parameters.length + 1) = some 8 := by decide +kernel
theorem tb_y33 : (parseMethodDescriptor "(IJJ)Z").map (fun d => d.parameters.length) = some 3 := by decide +kernel
theorem tb_y34 : (parseMethodDescriptor "(ILIndexedCompiler$Expression;)I").map (fun d => d.parameters.length + 1) = some 3 := by decide +kernel
theorem tb_y35 : (parseMethodDescriptor "(ILIndexedCompiler$Expression;)V").map (fun d => d.parameters.length + 1) = some 3 := by decide +kernel
theorem tb_y36 : (parseMethodDescriptor "(ILIndexedCompiler$Expression;LIndexedCompiler$Expression;)V").map (fun d => d.parameters.length + 1) = some 4 := by decide +kernel
theorem tb_y37 : (parseMethodDescriptor "(ILIndexedCompiler$Shape;)V").map (fun d => d.parameters.length + 1) = some 3 := by decide +kernel
theorem tb_y38 : (parseMethodDescriptor "(IZ)I").map (fun d => d.parameters.length + 1) = some 3 := by decide +kernel
theorem tb_y39 : (parseMethodDescriptor "(IZ)V").map (fun d => d.parameters.length + 1) = some 3 := by decide +kernel
theorem tb_y40 : (parseMethodDescriptor "(I[J)V").map (fun d => d.parameters.length + 1) = some 3 := by decide +kernel
theorem tb_y41 : (parseMethodDescriptor "(J)J").map (fun d => d.parameters.length) = some 1 := by decide +kernel
theorem tb_y42 : (parseMethodDescriptor "(J)V").map (fun d => d.parameters.length + 1) = some 2 := by decide +kernel
theorem tb_y43 : (parseMethodDescriptor "(J)Z").map (fun d => d.parameters.length + 1) = some 2 := by decide +kernel
theorem tb_y44 : (parseMethodDescriptor "(JIJ)Z").map (fun d => d.parameters.length) = some 3 := by decide +kernel
theorem tb_y45 : (parseMethodDescriptor "(JJ)J").map (fun d => d.parameters.length) = some 2 := by decide +kernel
theorem tb_y46 : (parseMethodDescriptor "(JJJ)Z").map (fun d => d.parameters.length) = some 3 := by decide +kernel
theorem tb_y47 : (parseMethodDescriptor "(LIndexedCompiler$Coder;LIndexedCompiler$Slots;III)I").map (fun d => d.parameters.length + 1) = some 6 := by decide +kernel
theorem tb_y48 : (parseMethodDescriptor "(LIndexedCompiler$Expression;)V").map (fun d => d.parameters.length + 1) = some 2 := by decide +kernel
theorem tb_y49 : (parseMethodDescriptor "(LIndexedCompiler$Expression;)Z").map (fun d => d.parameters.length + 1) = some 2 := by decide +kernel
theorem tb_y50 : (parseMethodDescriptor "(LIndexedCompiler$Expression;I)V").map (fun d => d.parameters.length + 1) = some 3 := by decide +kernel
theorem tb_y51 : (parseMethodDescriptor "(LIndexedCompiler$Expression;J)V").map (fun d => d.parameters.length + 1) = some 3 := by decide +kernel
theorem tb_y52 : (parseMethodDescriptor "(LIndexedCompiler$Line;LIndexedCompiler$Tree;)Z").map (fun d => d.parameters.length + 1) = some 3 := by decide +kernel
theorem tb_y53 : (parseMethodDescriptor "(LIndexedCompiler$Shape;)V").map (fun d => d.parameters.length + 1) = some 2 := by decide +kernel
theorem tb_y54 : (parseMethodDescriptor "(LIndexedCompiler$Shape;LIndexedCompiler$Expression;)V").map (fun d => d.parameters.length + 1) = some 3 := by decide +kernel
theorem tb_y55 : (parseMethodDescriptor "(LIndexedCompiler$Shape;LIndexedCompiler$Expression;I)V").map (fun d => d.parameters.length + 1) = some 4 := by decide +kernel
theorem tb_y56 : (parseMethodDescriptor "(LIndexedCompiler$Slots;)V").map (fun d => d.parameters.length + 1) = some 2 := by decide +kernel
theorem tb_y57 : (parseMethodDescriptor "(LIndexedCompiler$Slots;I)V").map (fun d => d.parameters.length + 1) = some 3 := by decide +kernel
theorem tb_y58 : (parseMethodDescriptor "(LIndexedCompiler$Tree;)I").map (fun d => d.parameters.length + 1) = some 2 := by decide +kernel
theorem tb_y59 : (parseMethodDescriptor "(LIndexedCompiler$Tree;)Z").map (fun d => d.parameters.length + 1) = some 2 := by decide +kernel
theorem tb_y60 : (parseMethodDescriptor "(LIndexedCompiler$Tree;I)I").map (fun d => d.parameters.length + 1) = some 3 := by decide +kernel
theorem tb_y61 : (parseMethodDescriptor "(LIndexedCompiler$Tree;I)Z").map (fun d => d.parameters.length) = some 2 := by decide +kernel
theorem tb_y62 : (parseMethodDescriptor "(LIndexedCompiler$Tree;II)Z").map (fun d => d.parameters.length + 1) = some 4 := by decide +kernel
theorem tb_y63 : (parseMethodDescriptor "(LIndexedCompiler$Tree;III)J").map (fun d => d.parameters.length + 1) = some 5 := by decide +kernel
theorem tb_y64 : (parseMethodDescriptor "(LIndexedCompiler$Tree;III)Z").map (fun d => d.parameters.length + 1) = some 5 := by decide +kernel
theorem tb_y65 : (parseMethodDescriptor "(LIndexedCompiler$Tree;IILIndexedCompiler$Expression;)V").map (fun d => d.parameters.length + 1) = some 5 := by decide +kernel
theorem tb_y66 : (parseMethodDescriptor "(LIndexedCompiler$Tree;IILIndexedCompiler$Shape;)V").map (fun d => d.parameters.length + 1) = some 5 := by decide +kernel
theorem tb_y67 : (parseMethodDescriptor "(LIndexedCompiler;II)I").map (fun d => d.parameters.length) = some 3 := by decide +kernel
theorem tb_y68 : (parseMethodDescriptor "(LIndexedCompiler;III)I").map (fun d => d.parameters.length) = some 4 := by decide +kernel
theorem tb_y69 : (parseMethodDescriptor "(LIndexedCompiler;IIIII[J)I").map (fun d => d.parameters.length) = some 7 := by decide +kernel
theorem tb_y70 : (parseMethodDescriptor "(LIndexedCompiler;IIII[J)I").map (fun d => d.parameters.length) = some 6 := by decide +kernel
theorem tb_y71 : (parseMethodDescriptor "(LIndexedCompiler;III[J)I").map (fun d => d.parameters.length) = some 5 := by decide +kernel
theorem tb_y72 : (parseMethodDescriptor "(LIndexedCompiler;II[J)I").map (fun d => d.parameters.length) = some 4 := by decide +kernel
theorem tb_y73 : (parseMethodDescriptor "(LIndexedCompiler;I[J)I").map (fun d => d.parameters.length) = some 3 := by decide +kernel
theorem tb_y74 : (parseMethodDescriptor "(Z)V").map (fun d => d.parameters.length + 1) = some 2 := by decide +kernel
theorem tb_y75 : (parseMethodDescriptor "([BIII)I").map (fun d => d.parameters.length) = some 4 := by decide +kernel
theorem tb_y76 : (parseMethodDescriptor "([II)V").map (fun d => d.parameters.length) = some 2 := by decide +kernel
theorem tb_y77 : (parseMethodDescriptor "([JI)Z").map (fun d => d.parameters.length) = some 2 := by decide +kernel
theorem tb_y78 : (parseMethodDescriptor "([JI)Z").map (fun d => d.parameters.length + 1) = some 3 := by decide +kernel
theorem tb_y79 : (parseMethodDescriptor "([JII)V").map (fun d => d.parameters.length + 1) = some 4 := by decide +kernel
theorem tb_y80 : (parseMethodDescriptor "([JIIIII)V").map (fun d => d.parameters.length) = some 6 := by decide +kernel
theorem tb_y81 : (parseMethodDescriptor "([JIILIndexedCompiler$Expression;)Z").map (fun d => d.parameters.length + 1) = some 5 := by decide +kernel
theorem tb_y82 : (parseMethodDescriptor "([JIZ)V").map (fun d => d.parameters.length + 1) = some 4 := by decide +kernel
theorem tb_y83 : (parseMethodDescriptor "([JJ)V").map (fun d => d.parameters.length) = some 2 := by decide +kernel
theorem tb_y84 : (parseMethodDescriptor "([JJ[JI)V").map (fun d => d.parameters.length + 1) = some 5 := by decide +kernel
theorem tb_y85 : (parseMethodDescriptor "([LIndexedCompiler$Tree;I)I").map (fun d => d.parameters.length + 1) = some 3 := by decide +kernel
theorem tb_y86 : (parseMethodDescriptor "([LIndexedCompiler$Tree;I)V").map (fun d => d.parameters.length + 1) = some 3 := by decide +kernel
set_option maxRecDepth 20000 in
theorem tb_ml_0 : mm_allL (fun q => (fun (o i : Nat) (v : Nat × Nat × Nat) => mm_mR tb_P tb_TB tb_cl tb_cn tb_ky tb_kb tb_hs o i v) 0 q.1 q.2) ((tb_ML[0]?).getD []) := ⟨mm_mr3 ⟨(tb_i1 (List.mem_of_getElem? (i := 32) rfl) rfl), (tb_i1 (List.mem_of_getElem? (i := 33) rfl) rfl), (tb_i1 (List.mem_of_getElem? (i := 34) rfl) rfl)⟩,
  mm_mr2 tb_k186 (tb_i1 (List.mem_of_getElem? (i := 37) rfl) rfl) (tb_i1 (List.mem_of_getElem? (i := 38) rfl) rfl) rfl rfl (tb_i1 (List.mem_of_getElem? (i := 39) rfl) rfl) tb_y4,
  mm_mr2 tb_k201 (tb_i1 (List.mem_of_getElem? (i := 80) rfl) rfl) (tb_i1 (List.mem_of_getElem? (i := 81) rfl) rfl) rfl rfl (tb_i1 (List.mem_of_getElem? (i := 82) rfl) rfl) tb_y4,
  mm_mr2 tb_k260 (tb_i1 (List.mem_of_getElem? (i := 99) rfl) rfl) (tb_i1 (List.mem_of_getElem? (i := 100) rfl) rfl) rfl rfl (tb_i1 (List.mem_of_getElem? (i := 101) rfl) rfl) tb_y4,
  mm_mr2 tb_k302 (tb_i2 (List.mem_of_getElem? (i := 23) rfl) rfl) (tb_i2 (List.mem_of_getElem? (i := 24) rfl) rfl) rfl rfl (tb_i2 (List.mem_of_getElem? (i := 25) rfl) rfl) tb_y4,
  mm_mr2 tb_k311 (tb_i2 (List.mem_of_getElem? (i := 56) rfl) rfl) (tb_i2 (List.mem_of_getElem? (i := 57) rfl) rfl) rfl rfl (tb_i2 (List.mem_of_getElem? (i := 58) rfl) rfl) tb_y4,
  mm_mr2 tb_k326 (tb_i2 (List.mem_of_getElem? (i := 75) rfl) rfl) (tb_i2 (List.mem_of_getElem? (i := 76) rfl) rfl) rfl rfl (tb_i2 (List.mem_of_getElem? (i := 77) rfl) rfl) tb_y4,
  mm_mr2 tb_k248 (tb_i2 (List.mem_of_getElem? (i := 123) rfl) rfl) (tb_i1 (List.mem_of_getElem? (i := 106) rfl) rfl) rfl rfl (tb_i1 (List.mem_of_getElem? (i := 107) rfl) rfl) tb_y17,
  mm_mr2 tb_k235 (tb_i2 (List.mem_of_getElem? (i := 125) rfl) rfl) (tb_i1 (List.mem_of_getElem? (i := 145) rfl) rfl) rfl rfl (tb_i1 (List.mem_of_getElem? (i := 146) rfl) rfl) tb_y4,
  mm_mr0 tb_k168 (tb_i6 (List.mem_of_getElem? (i := 44) rfl) rfl) (tb_i6 (List.mem_of_getElem? (i := 45) rfl) rfl) tb_y8,
  mm_mr1 tb_k200 (tb_i6 (List.mem_of_getElem? (i := 50) rfl) rfl) (tb_i6 (List.mem_of_getElem? (i := 51) rfl) rfl) (tb_i6 (List.mem_of_getElem? (i := 52) rfl) rfl) tb_y12 ⟨_, _, rfl⟩,
  mm_mr1 tb_k160 (tb_i2 (List.mem_of_getElem? (i := 171) rfl) rfl) (tb_i2 (List.mem_of_getElem? (i := 173) rfl) rfl) (tb_p1 (List.mem_of_getElem? (i := 0) rfl) rfl) tb_y11 ⟨_, _, rfl⟩,
  mm_mr1 tb_k202 (tb_i3 (List.mem_of_getElem? (i := 4) rfl) rfl) (tb_i3 (List.mem_of_getElem? (i := 5) rfl) rfl) (tb_i3 (List.mem_of_getElem? (i := 6) rfl) rfl) tb_y52 ⟨_, _, rfl⟩,
  mm_mr1 tb_k161 (tb_i4 (List.mem_of_getElem? (i := 101) rfl) rfl) (tb_i4 (List.mem_of_getElem? (i := 103) rfl) rfl) (tb_p3 (List.mem_of_getElem? (i := 3) rfl) rfl) tb_y58 ⟨_, _, rfl⟩,
  mm_mr1 tb_k261 (tb_i4 (List.mem_of_getElem? (i := 126) rfl) rfl) (tb_i4 (List.mem_of_getElem? (i := 127) rfl) rfl) (tb_i4 (List.mem_of_getElem? (i := 128) rfl) rfl) tb_y85 ⟨_, _, rfl⟩,
  mm_mr1 tb_k299 (tb_i5 (List.mem_of_getElem? (i := 214) rfl) rfl) (tb_i5 (List.mem_of_getElem? (i := 215) rfl) rfl) (tb_i5 (List.mem_of_getElem? (i := 216) rfl) rfl) tb_y1 ⟨_, _, rfl⟩,
  mm_mr1 tb_k303 (tb_i5 (List.mem_of_getElem? (i := 218) rfl) rfl) (tb_i5 (List.mem_of_getElem? (i := 219) rfl) rfl) (tb_i5 (List.mem_of_getElem? (i := 220) rfl) rfl) tb_y86 ⟨_, _, rfl⟩,
  mm_mr1 tb_k300 (tb_i6 (List.mem_of_getElem? (i := 78) rfl) rfl) (tb_i6 (List.mem_of_getElem? (i := 79) rfl) rfl) (tb_i6 (List.mem_of_getElem? (i := 80) rfl) rfl) tb_y9 ⟨_, _, rfl⟩,
  mm_mr1 tb_k301 (tb_i6 (List.mem_of_getElem? (i := 90) rfl) rfl) (tb_i6 (List.mem_of_getElem? (i := 91) rfl) rfl) (tb_i6 (List.mem_of_getElem? (i := 92) rfl) rfl) tb_y16 ⟨_, _, rfl⟩,
  mm_mr1 tb_k172 (tb_i6 (List.mem_of_getElem? (i := 106) rfl) rfl) (tb_i6 (List.mem_of_getElem? (i := 108) rfl) rfl) (tb_p6 (List.mem_of_getElem? (i := 3) rfl) rfl) tb_y14 ⟨_, _, rfl⟩,
  mm_mr1 tb_k310 (tb_i6 (List.mem_of_getElem? (i := 111) rfl) rfl) (tb_i6 (List.mem_of_getElem? (i := 112) rfl) rfl) (tb_i6 (List.mem_of_getElem? (i := 113) rfl) rfl) tb_y20 ⟨_, _, rfl⟩,
  mm_mr0 tb_k174 (tb_i6 (List.mem_of_getElem? (i := 122) rfl) rfl) (tb_i6 (List.mem_of_getElem? (i := 123) rfl) rfl) tb_y13,
  mm_mr0 tb_k175 (tb_i6 (List.mem_of_getElem? (i := 125) rfl) rfl) (tb_i6 (List.mem_of_getElem? (i := 126) rfl) rfl) tb_y13,
  mm_mr1 tb_k312 (tb_i6 (List.mem_of_getElem? (i := 131) rfl) rfl) (tb_i6 (List.mem_of_getElem? (i := 132) rfl) rfl) (tb_i6 (List.mem_of_getElem? (i := 133) rfl) rfl) tb_y17 ⟨_, _, rfl⟩,
  mm_mr1 tb_k313 (tb_i6 (List.mem_of_getElem? (i := 144) rfl) rfl) (tb_i6 (List.mem_of_getElem? (i := 145) rfl) rfl) (tb_i6 (List.mem_of_getElem? (i := 146) rfl) rfl) tb_y17 ⟨_, _, rfl⟩,
  mm_mr1 tb_k314 (tb_i6 (List.mem_of_getElem? (i := 155) rfl) rfl) (tb_i6 (List.mem_of_getElem? (i := 156) rfl) rfl) (tb_i6 (List.mem_of_getElem? (i := 157) rfl) rfl) tb_y19 ⟨_, _, rfl⟩,
  mm_mr1 tb_k316 (tb_i6 (List.mem_of_getElem? (i := 164) rfl) rfl) (tb_i6 (List.mem_of_getElem? (i := 165) rfl) rfl) (tb_i6 (List.mem_of_getElem? (i := 166) rfl) rfl) tb_y21 ⟨_, _, rfl⟩,
  mm_mr1 tb_k317 (tb_i6 (List.mem_of_getElem? (i := 177) rfl) rfl) (tb_i6 (List.mem_of_getElem? (i := 178) rfl) rfl) (tb_i6 (List.mem_of_getElem? (i := 179) rfl) rfl) tb_y9 ⟨_, _, rfl⟩,
  mm_mr1 tb_k318 (tb_i6 (List.mem_of_getElem? (i := 181) rfl) rfl) (tb_i6 (List.mem_of_getElem? (i := 182) rfl) rfl) (tb_i6 (List.mem_of_getElem? (i := 183) rfl) rfl) tb_y16 ⟨_, _, rfl⟩,
  mm_mr1 tb_k319 (tb_i6 (List.mem_of_getElem? (i := 193) rfl) rfl) (tb_i6 (List.mem_of_getElem? (i := 194) rfl) rfl) (tb_i6 (List.mem_of_getElem? (i := 195) rfl) rfl) tb_y16 ⟨_, _, rfl⟩,
  mm_mr1 tb_k320 (tb_i6 (List.mem_of_getElem? (i := 205) rfl) rfl) (tb_i6 (List.mem_of_getElem? (i := 206) rfl) rfl) (tb_i6 (List.mem_of_getElem? (i := 207) rfl) rfl) tb_y59 ⟨_, _, rfl⟩,
  mm_mr1 tb_k331 (tb_i6 (List.mem_of_getElem? (i := 231) rfl) rfl) (tb_i6 (List.mem_of_getElem? (i := 232) rfl) rfl) (tb_i6 (List.mem_of_getElem? (i := 233) rfl) rfl) tb_y47 ⟨_, _, rfl⟩,
  mm_mr1 tb_k351 (tb_i7 (List.mem_of_getElem? (i := 95) rfl) rfl) (tb_i7 (List.mem_of_getElem? (i := 96) rfl) rfl) (tb_i7 (List.mem_of_getElem? (i := 97) rfl) rfl) tb_y9 ⟨_, _, rfl⟩,
  mm_mr1 tb_k327 (tb_i6 (List.mem_of_getElem? (i := 16) rfl) rfl) (tb_i6 (List.mem_of_getElem? (i := 17) rfl) rfl) (tb_i6 (List.mem_of_getElem? (i := 18) rfl) rfl) tb_y9 ⟨_, _, rfl⟩,
  mm_mr1 tb_k330 (tb_i6 (List.mem_of_getElem? (i := 28) rfl) rfl) (tb_i6 (List.mem_of_getElem? (i := 29) rfl) rfl) (tb_i6 (List.mem_of_getElem? (i := 30) rfl) rfl) tb_y9 ⟨_, _, rfl⟩,
  mm_mr0 tb_k183 (tb_i7 (List.mem_of_getElem? (i := 106) rfl) rfl) (tb_i7 (List.mem_of_getElem? (i := 107) rfl) rfl) tb_y25,
  mm_mr1 tb_k247 (tb_i7 (List.mem_of_getElem? (i := 115) rfl) rfl) (tb_i7 (List.mem_of_getElem? (i := 116) rfl) rfl) (tb_i7 (List.mem_of_getElem? (i := 117) rfl) rfl) tb_y24 ⟨_, _, rfl⟩,
  mm_mr1 tb_k255 (tb_i7 (List.mem_of_getElem? (i := 119) rfl) rfl) (tb_i5 (List.mem_of_getElem? (i := 35) rfl) rfl) (tb_i5 (List.mem_of_getElem? (i := 36) rfl) rfl) tb_y50 ⟨_, _, rfl⟩,
  mm_mr1 tb_k259 (tb_i7 (List.mem_of_getElem? (i := 127) rfl) rfl) (tb_i7 (List.mem_of_getElem? (i := 128) rfl) rfl) (tb_i7 (List.mem_of_getElem? (i := 129) rfl) rfl) tb_y49 ⟨_, _, rfl⟩,
  mm_mr0 tb_k184 (tb_i7 (List.mem_of_getElem? (i := 109) rfl) rfl) (tb_i7 (List.mem_of_getElem? (i := 110) rfl) rfl) tb_y18,
  mm_mr0 tb_k365 (tb_i2 (List.mem_of_getElem? (i := 175) rfl) rfl) (tb_i2 (List.mem_of_getElem? (i := 176) rfl) rfl) tb_y15,
  mm_mr0 tb_k364 (tb_i2 (List.mem_of_getElem? (i := 178) rfl) rfl) (tb_i1 (List.mem_of_getElem? (i := 139) rfl) rfl) tb_y15,
  mm_mr2 tb_k352 (tb_i2 (List.mem_of_getElem? (i := 180) rfl) rfl) (tb_i2 (List.mem_of_getElem? (i := 181) rfl) rfl) rfl rfl (tb_i2 (List.mem_of_getElem? (i := 182) rfl) rfl) tb_y4,
  mm_mr1 tb_k357 (tb_i4 (List.mem_of_getElem? (i := 105) rfl) rfl) (tb_i4 (List.mem_of_getElem? (i := 106) rfl) rfl) (tb_i4 (List.mem_of_getElem? (i := 107) rfl) rfl) tb_y1 ⟨_, _, rfl⟩,
  trivial⟩
set_option maxRecDepth 20000 in
theorem tb_ml_1 : mm_allL (fun q => (fun (o i : Nat) (v : Nat × Nat × Nat) => mm_mR tb_P tb_TB tb_cl tb_cn tb_ky tb_kb tb_hs o i v) 1 q.1 q.2) ((tb_ML[1]?).getD []) := ⟨mm_mr3 ⟨(tb_i1 (List.mem_of_getElem? (i := 40) rfl) rfl), (tb_i1 (List.mem_of_getElem? (i := 33) rfl) rfl), (tb_i1 (List.mem_of_getElem? (i := 34) rfl) rfl)⟩,
  mm_mr1 tb_k188 (tb_i3 (List.mem_of_getElem? (i := 17) rfl) rfl) (tb_i3 (List.mem_of_getElem? (i := 19) rfl) rfl) (tb_p1 (List.mem_of_getElem? (i := 1) rfl) rfl) tb_y7 ⟨_, _, rfl⟩,
  mm_mr0 tb_k189 (tb_i3 (List.mem_of_getElem? (i := 21) rfl) rfl) (tb_i3 (List.mem_of_getElem? (i := 22) rfl) rfl) tb_y6,
  mm_mr1 tb_k190 (tb_i3 (List.mem_of_getElem? (i := 24) rfl) rfl) (tb_i3 (List.mem_of_getElem? (i := 26) rfl) rfl) (tb_p1 (List.mem_of_getElem? (i := 2) rfl) rfl) tb_y9 ⟨_, _, rfl⟩,
  mm_mr0 tb_k193 (tb_i3 (List.mem_of_getElem? (i := 37) rfl) rfl) (tb_i3 (List.mem_of_getElem? (i := 38) rfl) rfl) tb_y6,
  mm_mr1 tb_k194 (tb_i3 (List.mem_of_getElem? (i := 40) rfl) rfl) (tb_i3 (List.mem_of_getElem? (i := 42) rfl) rfl) (tb_p1 (List.mem_of_getElem? (i := 4) rfl) rfl) tb_y9 ⟨_, _, rfl⟩,
  mm_mr1 tb_k195 (tb_i3 (List.mem_of_getElem? (i := 44) rfl) rfl) (tb_i3 (List.mem_of_getElem? (i := 46) rfl) rfl) (tb_p1 (List.mem_of_getElem? (i := 5) rfl) rfl) tb_y9 ⟨_, _, rfl⟩,
  mm_mr1 tb_k192 (tb_i3 (List.mem_of_getElem? (i := 33) rfl) rfl) (tb_i3 (List.mem_of_getElem? (i := 35) rfl) rfl) (tb_p1 (List.mem_of_getElem? (i := 3) rfl) rfl) tb_y21 ⟨_, _, rfl⟩,
  mm_mr1 tb_k196 (tb_i3 (List.mem_of_getElem? (i := 131) rfl) rfl) (tb_i3 (List.mem_of_getElem? (i := 132) rfl) rfl) (tb_i3 (List.mem_of_getElem? (i := 133) rfl) rfl) tb_y4 ⟨_, _, rfl⟩,
  mm_mr0 tb_k191 (tb_i3 (List.mem_of_getElem? (i := 28) rfl) rfl) (tb_i3 (List.mem_of_getElem? (i := 29) rfl) rfl) tb_y13,
  mm_mr7 tb_k372 (tb_i3 (List.mem_of_getElem? (i := 49) rfl) rfl) (tb_i3 (List.mem_of_getElem? (i := 50) rfl) rfl) (tb_i3 (List.mem_of_getElem? (i := 51) rfl) rfl) tb_y9 rfl,
  trivial⟩
set_option maxRecDepth 20000 in
theorem tb_ml_2 : mm_allL (fun q => (fun (o i : Nat) (v : Nat × Nat × Nat) => mm_mR tb_P tb_TB tb_cl tb_cn tb_ky tb_kb tb_hs o i v) 2 q.1 q.2) ((tb_ML[2]?).getD []) := ⟨mm_mr3 ⟨(tb_i1 (List.mem_of_getElem? (i := 83) rfl) rfl), (tb_i1 (List.mem_of_getElem? (i := 33) rfl) rfl), (tb_i1 (List.mem_of_getElem? (i := 34) rfl) rfl)⟩,
  mm_mr1 tb_k353 (tb_i3 (List.mem_of_getElem? (i := 9) rfl) rfl) (tb_i3 (List.mem_of_getElem? (i := 10) rfl) rfl) (tb_i3 (List.mem_of_getElem? (i := 11) rfl) rfl) tb_y4 ⟨_, _, rfl⟩,
  mm_mr1 tb_k187 (tb_i3 (List.mem_of_getElem? (i := 13) rfl) rfl) (tb_i3 (List.mem_of_getElem? (i := 14) rfl) rfl) (tb_i3 (List.mem_of_getElem? (i := 15) rfl) rfl) tb_y4 ⟨_, _, rfl⟩,
  mm_mr1 tb_k203 (tb_i3 (List.mem_of_getElem? (i := 135) rfl) rfl) (tb_i3 (List.mem_of_getElem? (i := 137) rfl) rfl) (tb_p1 (List.mem_of_getElem? (i := 6) rfl) rfl) tb_y12 ⟨_, _, rfl⟩,
  mm_mr1 tb_k205 (tb_i3 (List.mem_of_getElem? (i := 214) rfl) rfl) (tb_i3 (List.mem_of_getElem? (i := 216) rfl) rfl) (tb_p1 (List.mem_of_getElem? (i := 9) rfl) rfl) tb_y1 ⟨_, _, rfl⟩,
  mm_mr1 tb_k198 (tb_i3 (List.mem_of_getElem? (i := 218) rfl) rfl) (tb_i3 (List.mem_of_getElem? (i := 219) rfl) rfl) (tb_i3 (List.mem_of_getElem? (i := 220) rfl) rfl) tb_y14 ⟨_, _, rfl⟩,
  mm_mr1 tb_k206 (tb_i3 (List.mem_of_getElem? (i := 222) rfl) rfl) (tb_i3 (List.mem_of_getElem? (i := 224) rfl) rfl) (tb_p1 (List.mem_of_getElem? (i := 10) rfl) rfl) tb_y4 ⟨_, _, rfl⟩,
  mm_mr1 tb_k207 (tb_i3 (List.mem_of_getElem? (i := 226) rfl) rfl) (tb_i3 (List.mem_of_getElem? (i := 228) rfl) rfl) (tb_p1 (List.mem_of_getElem? (i := 11) rfl) rfl) tb_y12 ⟨_, _, rfl⟩,
  mm_mr1 tb_k214 (tb_i4 (List.mem_of_getElem? (i := 27) rfl) rfl) (tb_i4 (List.mem_of_getElem? (i := 29) rfl) rfl) (tb_p2 (List.mem_of_getElem? (i := 2) rfl) rfl) tb_y4 ⟨_, _, rfl⟩,
  mm_mr1 tb_k215 (tb_i4 (List.mem_of_getElem? (i := 31) rfl) rfl) (tb_i4 (List.mem_of_getElem? (i := 33) rfl) rfl) (tb_p2 (List.mem_of_getElem? (i := 3) rfl) rfl) tb_y1 ⟨_, _, rfl⟩,
  mm_mr1 tb_k216 (tb_i4 (List.mem_of_getElem? (i := 35) rfl) rfl) (tb_i4 (List.mem_of_getElem? (i := 37) rfl) rfl) (tb_p2 (List.mem_of_getElem? (i := 4) rfl) rfl) tb_y9 ⟨_, _, rfl⟩,
  mm_mr1 tb_k204 (tb_i3 (List.mem_of_getElem? (i := 143) rfl) rfl) (tb_i3 (List.mem_of_getElem? (i := 145) rfl) rfl) (tb_p1 (List.mem_of_getElem? (i := 7) rfl) rfl) tb_y4 ⟨_, _, rfl⟩,
  mm_mr1 tb_k208 (tb_i3 (List.mem_of_getElem? (i := 230) rfl) rfl) (tb_i3 (List.mem_of_getElem? (i := 232) rfl) rfl) (tb_p1 (List.mem_of_getElem? (i := 12) rfl) rfl) tb_y1 ⟨_, _, rfl⟩,
  mm_mr1 tb_k196 (tb_i3 (List.mem_of_getElem? (i := 213) rfl) rfl) (tb_i3 (List.mem_of_getElem? (i := 132) rfl) rfl) (tb_i3 (List.mem_of_getElem? (i := 133) rfl) rfl) tb_y4 ⟨_, _, rfl⟩,
  mm_mr1 tb_k209 (tb_i4 (List.mem_of_getElem? (i := 3) rfl) rfl) (tb_i4 (List.mem_of_getElem? (i := 5) rfl) rfl) (tb_p1 (List.mem_of_getElem? (i := 13) rfl) rfl) tb_y16 ⟨_, _, rfl⟩,
  mm_mr1 tb_k210 (tb_i4 (List.mem_of_getElem? (i := 7) rfl) rfl) (tb_i4 (List.mem_of_getElem? (i := 9) rfl) rfl) (tb_p1 (List.mem_of_getElem? (i := 14) rfl) rfl) tb_y1 ⟨_, _, rfl⟩,
  mm_mr1 tb_k354 (tb_i3 (List.mem_of_getElem? (i := 234) rfl) rfl) (tb_i3 (List.mem_of_getElem? (i := 235) rfl) rfl) (tb_i3 (List.mem_of_getElem? (i := 236) rfl) rfl) tb_y16 ⟨_, _, rfl⟩,
  mm_mr1 tb_k355 (tb_i4 (List.mem_of_getElem? (i := 2) rfl) rfl) (tb_i3 (List.mem_of_getElem? (i := 239) rfl) rfl) (tb_i4 (List.mem_of_getElem? (i := 0) rfl) rfl) tb_y21 ⟨_, _, rfl⟩,
  mm_mr1 tb_k197 (tb_i3 (List.mem_of_getElem? (i := 139) rfl) rfl) (tb_i3 (List.mem_of_getElem? (i := 140) rfl) rfl) (tb_i3 (List.mem_of_getElem? (i := 141) rfl) rfl) tb_y14 ⟨_, _, rfl⟩,
  mm_mr1 tb_k211 (tb_i4 (List.mem_of_getElem? (i := 11) rfl) rfl) (tb_i4 (List.mem_of_getElem? (i := 13) rfl) rfl) (tb_p1 (List.mem_of_getElem? (i := 15) rfl) rfl) tb_y1 ⟨_, _, rfl⟩,
  mm_mr1 tb_k213 (tb_i4 (List.mem_of_getElem? (i := 19) rfl) rfl) (tb_i4 (List.mem_of_getElem? (i := 21) rfl) rfl) (tb_p2 (List.mem_of_getElem? (i := 1) rfl) rfl) tb_y1 ⟨_, _, rfl⟩,
  mm_mr1 tb_k212 (tb_i4 (List.mem_of_getElem? (i := 15) rfl) rfl) (tb_i4 (List.mem_of_getElem? (i := 17) rfl) rfl) (tb_p2 (List.mem_of_getElem? (i := 0) rfl) rfl) tb_y5 ⟨_, _, rfl⟩,
  mm_mr1 tb_k217 (tb_i4 (List.mem_of_getElem? (i := 39) rfl) rfl) (tb_i4 (List.mem_of_getElem? (i := 41) rfl) rfl) (tb_p2 (List.mem_of_getElem? (i := 5) rfl) rfl) tb_y9 ⟨_, _, rfl⟩,
  mm_mr1 tb_k356 (tb_i4 (List.mem_of_getElem? (i := 91) rfl) rfl) (tb_i4 (List.mem_of_getElem? (i := 92) rfl) rfl) (tb_i4 (List.mem_of_getElem? (i := 93) rfl) rfl) tb_y16 ⟨_, _, rfl⟩,
  mm_mr1 tb_k218 (tb_i4 (List.mem_of_getElem? (i := 43) rfl) rfl) (tb_i4 (List.mem_of_getElem? (i := 45) rfl) rfl) (tb_p2 (List.mem_of_getElem? (i := 6) rfl) rfl) tb_y12 ⟨_, _, rfl⟩,
  mm_mr1 tb_k219 (tb_i4 (List.mem_of_getElem? (i := 47) rfl) rfl) (tb_i4 (List.mem_of_getElem? (i := 49) rfl) rfl) (tb_p2 (List.mem_of_getElem? (i := 7) rfl) rfl) tb_y9 ⟨_, _, rfl⟩,
  mm_mr1 tb_k220 (tb_i4 (List.mem_of_getElem? (i := 51) rfl) rfl) (tb_i4 (List.mem_of_getElem? (i := 53) rfl) rfl) (tb_p2 (List.mem_of_getElem? (i := 8) rfl) rfl) tb_y9 ⟨_, _, rfl⟩,
  mm_mr1 tb_k221 (tb_i4 (List.mem_of_getElem? (i := 55) rfl) rfl) (tb_i4 (List.mem_of_getElem? (i := 57) rfl) rfl) (tb_p2 (List.mem_of_getElem? (i := 9) rfl) rfl) tb_y9 ⟨_, _, rfl⟩,
  mm_mr1 tb_k222 (tb_i4 (List.mem_of_getElem? (i := 59) rfl) rfl) (tb_i4 (List.mem_of_getElem? (i := 61) rfl) rfl) (tb_p2 (List.mem_of_getElem? (i := 10) rfl) rfl) tb_y9 ⟨_, _, rfl⟩,
  mm_mr1 tb_k223 (tb_i4 (List.mem_of_getElem? (i := 63) rfl) rfl) (tb_i4 (List.mem_of_getElem? (i := 65) rfl) rfl) (tb_p2 (List.mem_of_getElem? (i := 11) rfl) rfl) tb_y9 ⟨_, _, rfl⟩,
  mm_mr1 tb_k229 (tb_i4 (List.mem_of_getElem? (i := 87) rfl) rfl) (tb_i4 (List.mem_of_getElem? (i := 89) rfl) rfl) (tb_p3 (List.mem_of_getElem? (i := 1) rfl) rfl) tb_y5 ⟨_, _, rfl⟩,
  mm_mr1 tb_k230 (tb_i4 (List.mem_of_getElem? (i := 95) rfl) rfl) (tb_i4 (List.mem_of_getElem? (i := 97) rfl) rfl) (tb_p3 (List.mem_of_getElem? (i := 2) rfl) rfl) tb_y1 ⟨_, _, rfl⟩,
  mm_mr1 tb_k224 (tb_i4 (List.mem_of_getElem? (i := 67) rfl) rfl) (tb_i4 (List.mem_of_getElem? (i := 69) rfl) rfl) (tb_p2 (List.mem_of_getElem? (i := 12) rfl) rfl) tb_y1 ⟨_, _, rfl⟩,
  mm_mr1 tb_k225 (tb_i4 (List.mem_of_getElem? (i := 71) rfl) rfl) (tb_i4 (List.mem_of_getElem? (i := 73) rfl) rfl) (tb_p2 (List.mem_of_getElem? (i := 13) rfl) rfl) tb_y9 ⟨_, _, rfl⟩,
  mm_mr1 tb_k226 (tb_i4 (List.mem_of_getElem? (i := 75) rfl) rfl) (tb_i4 (List.mem_of_getElem? (i := 77) rfl) rfl) (tb_p2 (List.mem_of_getElem? (i := 14) rfl) rfl) tb_y9 ⟨_, _, rfl⟩,
  mm_mr1 tb_k227 (tb_i4 (List.mem_of_getElem? (i := 79) rfl) rfl) (tb_i4 (List.mem_of_getElem? (i := 81) rfl) rfl) (tb_p2 (List.mem_of_getElem? (i := 15) rfl) rfl) tb_y17 ⟨_, _, rfl⟩,
  mm_mr1 tb_k228 (tb_i4 (List.mem_of_getElem? (i := 83) rfl) rfl) (tb_i4 (List.mem_of_getElem? (i := 85) rfl) rfl) (tb_p3 (List.mem_of_getElem? (i := 0) rfl) rfl) tb_y1 ⟨_, _, rfl⟩,
  mm_mr1 tb_k199 (tb_i4 (List.mem_of_getElem? (i := 23) rfl) rfl) (tb_i4 (List.mem_of_getElem? (i := 24) rfl) rfl) (tb_i4 (List.mem_of_getElem? (i := 25) rfl) rfl) tb_y1 ⟨_, _, rfl⟩,
  trivial⟩
set_option maxRecDepth 20000 in
theorem tb_ml_3 : mm_allL (fun q => (fun (o i : Nat) (v : Nat × Nat × Nat) => mm_mR tb_P tb_TB tb_cl tb_cn tb_ky tb_kb tb_hs o i v) 3 q.1 q.2) ((tb_ML[3]?).getD []) := ⟨mm_mr3 ⟨(tb_i1 (List.mem_of_getElem? (i := 114) rfl) rfl), (tb_i1 (List.mem_of_getElem? (i := 33) rfl) rfl), (tb_i1 (List.mem_of_getElem? (i := 34) rfl) rfl)⟩,
  mm_mr0 tb_k365 (tb_i5 (List.mem_of_getElem? (i := 97) rfl) rfl) (tb_i2 (List.mem_of_getElem? (i := 176) rfl) rfl) tb_y15,
  mm_mr0 tb_k364 (tb_i5 (List.mem_of_getElem? (i := 98) rfl) rfl) (tb_i1 (List.mem_of_getElem? (i := 139) rfl) rfl) tb_y15,
  mm_mr4 ⟨(tb_i5 (List.mem_of_getElem? (i := 99) rfl) rfl), (tb_i5 (List.mem_of_getElem? (i := 14) rfl) rfl), (tb_i5 (List.mem_of_getElem? (i := 13) rfl) rfl), (tb_i1 (List.mem_of_getElem? (i := 25) rfl) rfl)⟩,
  mm_mr1 tb_k233 (tb_i5 (List.mem_of_getElem? (i := 100) rfl) rfl) (tb_i5 (List.mem_of_getElem? (i := 102) rfl) rfl) (tb_p4 (List.mem_of_getElem? (i := 7) rfl) rfl) tb_y4 ⟨_, _, rfl⟩,
  mm_mr1 tb_k234 (tb_i5 (List.mem_of_getElem? (i := 115) rfl) rfl) (tb_i5 (List.mem_of_getElem? (i := 117) rfl) rfl) (tb_p4 (List.mem_of_getElem? (i := 8) rfl) rfl) tb_y12 ⟨_, _, rfl⟩,
  mm_mr0 tb_k366 (tb_i5 (List.mem_of_getElem? (i := 104) rfl) rfl) (tb_i5 (List.mem_of_getElem? (i := 105) rfl) rfl) tb_y41,
  mm_mr0 tb_k367 (tb_i5 (List.mem_of_getElem? (i := 107) rfl) rfl) (tb_i5 (List.mem_of_getElem? (i := 108) rfl) rfl) tb_y45,
  mm_mr0 tb_k368 (tb_i5 (List.mem_of_getElem? (i := 112) rfl) rfl) (tb_i5 (List.mem_of_getElem? (i := 113) rfl) rfl) tb_y45,
  trivial⟩
set_option maxRecDepth 20000 in
theorem tb_ml_4 : mm_allL (fun q => (fun (o i : Nat) (v : Nat × Nat × Nat) => mm_mR tb_P tb_TB tb_cl tb_cn tb_ky tb_kb tb_hs o i v) 4 q.1 q.2) ((tb_ML[4]?).getD []) := ⟨mm_mr3 ⟨(tb_i1 (List.mem_of_getElem? (i := 147) rfl) rfl), (tb_i1 (List.mem_of_getElem? (i := 33) rfl) rfl), (tb_i1 (List.mem_of_getElem? (i := 34) rfl) rfl)⟩,
  mm_mr0 tb_k370 (tb_i4 (List.mem_of_getElem? (i := 209) rfl) rfl) (tb_i4 (List.mem_of_getElem? (i := 210) rfl) rfl) tb_y83,
  mm_mr1 tb_k237 (tb_i4 (List.mem_of_getElem? (i := 205) rfl) rfl) (tb_i4 (List.mem_of_getElem? (i := 206) rfl) rfl) (tb_i4 (List.mem_of_getElem? (i := 207) rfl) rfl) tb_y42 ⟨_, _, rfl⟩,
  mm_mr4 ⟨(tb_i5 (List.mem_of_getElem? (i := 12) rfl) rfl), (tb_i5 (List.mem_of_getElem? (i := 14) rfl) rfl), (tb_i5 (List.mem_of_getElem? (i := 13) rfl) rfl), (tb_i1 (List.mem_of_getElem? (i := 25) rfl) rfl)⟩,
  mm_mr1 tb_k238 (tb_i5 (List.mem_of_getElem? (i := 29) rfl) rfl) (tb_i4 (List.mem_of_getElem? (i := 235) rfl) rfl) (tb_i4 (List.mem_of_getElem? (i := 236) rfl) rfl) tb_y51 ⟨_, _, rfl⟩,
  mm_mr1 tb_k245 (tb_i5 (List.mem_of_getElem? (i := 175) rfl) rfl) (tb_i5 (List.mem_of_getElem? (i := 176) rfl) rfl) (tb_i5 (List.mem_of_getElem? (i := 177) rfl) rfl) tb_y14 ⟨_, _, rfl⟩,
  trivial⟩
set_option maxRecDepth 20000 in
theorem tb_ml_5 : mm_allL (fun q => (fun (o i : Nat) (v : Nat × Nat × Nat) => mm_mR tb_P tb_TB tb_cl tb_cn tb_ky tb_kb tb_hs o i v) 5 q.1 q.2) ((tb_ML[5]?).getD []) := ⟨mm_mr3 ⟨(tb_i1 (List.mem_of_getElem? (i := 108) rfl) rfl), (tb_i1 (List.mem_of_getElem? (i := 33) rfl) rfl), (tb_i1 (List.mem_of_getElem? (i := 34) rfl) rfl)⟩,
  mm_mr2 tb_k231 (tb_i1 (List.mem_of_getElem? (i := 111) rfl) rfl) (tb_i1 (List.mem_of_getElem? (i := 112) rfl) rfl) rfl rfl (tb_i1 (List.mem_of_getElem? (i := 113) rfl) rfl) tb_y4,
  mm_mr0 tb_k364 (tb_i1 (List.mem_of_getElem? (i := 138) rfl) rfl) (tb_i1 (List.mem_of_getElem? (i := 139) rfl) rfl) tb_y15,
  mm_mr2 tb_k235 (tb_i1 (List.mem_of_getElem? (i := 144) rfl) rfl) (tb_i1 (List.mem_of_getElem? (i := 145) rfl) rfl) rfl rfl (tb_i1 (List.mem_of_getElem? (i := 146) rfl) rfl) tb_y4,
  mm_mr1 tb_k251 (tb_i4 (List.mem_of_getElem? (i := 200) rfl) rfl) (tb_i4 (List.mem_of_getElem? (i := 152) rfl) rfl) (tb_i4 (List.mem_of_getElem? (i := 153) rfl) rfl) tb_y17 ⟨_, _, rfl⟩,
  mm_mr4 ⟨(tb_i5 (List.mem_of_getElem? (i := 38) rfl) rfl), (tb_i5 (List.mem_of_getElem? (i := 14) rfl) rfl), (tb_i5 (List.mem_of_getElem? (i := 13) rfl) rfl), (tb_i1 (List.mem_of_getElem? (i := 25) rfl) rfl)⟩,
  mm_mr1 tb_k240 (tb_i5 (List.mem_of_getElem? (i := 19) rfl) rfl) (tb_i5 (List.mem_of_getElem? (i := 9) rfl) rfl) (tb_i5 (List.mem_of_getElem? (i := 10) rfl) rfl) tb_y48 ⟨_, _, rfl⟩,
  mm_mr1 tb_k241 (tb_i5 (List.mem_of_getElem? (i := 21) rfl) rfl) (tb_i5 (List.mem_of_getElem? (i := 22) rfl) rfl) (tb_i5 (List.mem_of_getElem? (i := 23) rfl) rfl) tb_y42 ⟨_, _, rfl⟩,
  mm_mr1 tb_k255 (tb_i5 (List.mem_of_getElem? (i := 34) rfl) rfl) (tb_i5 (List.mem_of_getElem? (i := 35) rfl) rfl) (tb_i5 (List.mem_of_getElem? (i := 36) rfl) rfl) tb_y50 ⟨_, _, rfl⟩,
  mm_mr1 tb_k232 (tb_i5 (List.mem_of_getElem? (i := 93) rfl) rfl) (tb_i5 (List.mem_of_getElem? (i := 94) rfl) rfl) (tb_i5 (List.mem_of_getElem? (i := 95) rfl) rfl) tb_y81 ⟨_, _, rfl⟩,
  trivial⟩
set_option maxRecDepth 20000 in
theorem tb_ml_6 : mm_allL (fun q => (fun (o i : Nat) (v : Nat × Nat × Nat) => mm_mR tb_P tb_TB tb_cl tb_cn tb_ky tb_kb tb_hs o i v) 6 q.1 q.2) ((tb_ML[6]?).getD []) := ⟨mm_mr3 ⟨(tb_i1 (List.mem_of_getElem? (i := 102) rfl) rfl), (tb_i1 (List.mem_of_getElem? (i := 33) rfl) rfl), (tb_i1 (List.mem_of_getElem? (i := 34) rfl) rfl)⟩,
  mm_mr2 tb_k248 (tb_i1 (List.mem_of_getElem? (i := 105) rfl) rfl) (tb_i1 (List.mem_of_getElem? (i := 106) rfl) rfl) rfl rfl (tb_i1 (List.mem_of_getElem? (i := 107) rfl) rfl) tb_y17,
  mm_mr0 tb_k364 (tb_i4 (List.mem_of_getElem? (i := 131) rfl) rfl) (tb_i1 (List.mem_of_getElem? (i := 139) rfl) rfl) tb_y15,
  mm_mr0 tb_k365 (tb_i4 (List.mem_of_getElem? (i := 132) rfl) rfl) (tb_i2 (List.mem_of_getElem? (i := 176) rfl) rfl) tb_y15,
  mm_mr1 tb_k249 (tb_i4 (List.mem_of_getElem? (i := 133) rfl) rfl) (tb_i4 (List.mem_of_getElem? (i := 134) rfl) rfl) (tb_i4 (List.mem_of_getElem? (i := 135) rfl) rfl) tb_y4 ⟨_, _, rfl⟩,
  mm_mr1 tb_k262 (tb_i4 (List.mem_of_getElem? (i := 137) rfl) rfl) (tb_i4 (List.mem_of_getElem? (i := 139) rfl) rfl) (tb_p3 (List.mem_of_getElem? (i := 5) rfl) rfl) tb_y4 ⟨_, _, rfl⟩,
  mm_mr1 tb_k263 (tb_i4 (List.mem_of_getElem? (i := 147) rfl) rfl) (tb_i4 (List.mem_of_getElem? (i := 149) rfl) rfl) (tb_p3 (List.mem_of_getElem? (i := 6) rfl) rfl) tb_y3 ⟨_, _, rfl⟩,
  mm_mr1 tb_k264 (tb_i4 (List.mem_of_getElem? (i := 186) rfl) rfl) (tb_i4 (List.mem_of_getElem? (i := 188) rfl) rfl) (tb_p3 (List.mem_of_getElem? (i := 7) rfl) rfl) tb_y53 ⟨_, _, rfl⟩,
  mm_mr1 tb_k273 (tb_i5 (List.mem_of_getElem? (i := 56) rfl) rfl) (tb_i5 (List.mem_of_getElem? (i := 58) rfl) rfl) (tb_p4 (List.mem_of_getElem? (i := 0) rfl) rfl) tb_y37 ⟨_, _, rfl⟩,
  mm_mr1 tb_k258 (tb_i6 (List.mem_of_getElem? (i := 94) rfl) rfl) (tb_i6 (List.mem_of_getElem? (i := 95) rfl) rfl) (tb_i6 (List.mem_of_getElem? (i := 96) rfl) rfl) tb_y16 ⟨_, _, rfl⟩,
  mm_mr2 tb_k352 (tb_i4 (List.mem_of_getElem? (i := 142) rfl) rfl) (tb_i2 (List.mem_of_getElem? (i := 181) rfl) rfl) rfl rfl (tb_i2 (List.mem_of_getElem? (i := 182) rfl) rfl) tb_y4,
  mm_mr1 tb_k250 (tb_i4 (List.mem_of_getElem? (i := 143) rfl) rfl) (tb_i4 (List.mem_of_getElem? (i := 144) rfl) rfl) (tb_i4 (List.mem_of_getElem? (i := 145) rfl) rfl) tb_y17 ⟨_, _, rfl⟩,
  mm_mr1 tb_k265 (tb_i4 (List.mem_of_getElem? (i := 190) rfl) rfl) (tb_i4 (List.mem_of_getElem? (i := 192) rfl) rfl) (tb_p3 (List.mem_of_getElem? (i := 8) rfl) rfl) tb_y2 ⟨_, _, rfl⟩,
  mm_mr1 tb_k356 (tb_i4 (List.mem_of_getElem? (i := 195) rfl) rfl) (tb_i4 (List.mem_of_getElem? (i := 92) rfl) rfl) (tb_i4 (List.mem_of_getElem? (i := 93) rfl) rfl) tb_y16 ⟨_, _, rfl⟩,
  mm_mr1 tb_k252 (tb_i4 (List.mem_of_getElem? (i := 196) rfl) rfl) (tb_i4 (List.mem_of_getElem? (i := 197) rfl) rfl) (tb_i4 (List.mem_of_getElem? (i := 198) rfl) rfl) tb_y9 ⟨_, _, rfl⟩,
  mm_mr1 tb_k236 (tb_i4 (List.mem_of_getElem? (i := 201) rfl) rfl) (tb_i4 (List.mem_of_getElem? (i := 202) rfl) rfl) (tb_i4 (List.mem_of_getElem? (i := 203) rfl) rfl) tb_y12 ⟨_, _, rfl⟩,
  mm_mr1 tb_k266 (tb_i4 (List.mem_of_getElem? (i := 212) rfl) rfl) (tb_i4 (List.mem_of_getElem? (i := 214) rfl) rfl) (tb_p3 (List.mem_of_getElem? (i := 9) rfl) rfl) tb_y35 ⟨_, _, rfl⟩,
  mm_mr1 tb_k359 (tb_i4 (List.mem_of_getElem? (i := 216) rfl) rfl) (tb_i4 (List.mem_of_getElem? (i := 115) rfl) rfl) (tb_i4 (List.mem_of_getElem? (i := 116) rfl) rfl) tb_y9 ⟨_, _, rfl⟩,
  mm_mr1 tb_k267 (tb_i4 (List.mem_of_getElem? (i := 217) rfl) rfl) (tb_i4 (List.mem_of_getElem? (i := 219) rfl) rfl) (tb_p3 (List.mem_of_getElem? (i := 10) rfl) rfl) tb_y66 ⟨_, _, rfl⟩,
  mm_mr1 tb_k270 (tb_i5 (List.mem_of_getElem? (i := 4) rfl) rfl) (tb_i5 (List.mem_of_getElem? (i := 6) rfl) rfl) (tb_p3 (List.mem_of_getElem? (i := 13) rfl) rfl) tb_y54 ⟨_, _, rfl⟩,
  mm_mr1 tb_k254 (tb_i5 (List.mem_of_getElem? (i := 30) rfl) rfl) (tb_i5 (List.mem_of_getElem? (i := 31) rfl) rfl) (tb_i5 (List.mem_of_getElem? (i := 32) rfl) rfl) tb_y12 ⟨_, _, rfl⟩,
  mm_mr1 tb_k271 (tb_i5 (List.mem_of_getElem? (i := 39) rfl) rfl) (tb_i5 (List.mem_of_getElem? (i := 41) rfl) rfl) (tb_p3 (List.mem_of_getElem? (i := 14) rfl) rfl) tb_y66 ⟨_, _, rfl⟩,
  mm_mr1 tb_k272 (tb_i5 (List.mem_of_getElem? (i := 47) rfl) rfl) (tb_i5 (List.mem_of_getElem? (i := 49) rfl) rfl) (tb_p3 (List.mem_of_getElem? (i := 15) rfl) rfl) tb_y55 ⟨_, _, rfl⟩,
  mm_mr1 tb_k251 (tb_i4 (List.mem_of_getElem? (i := 151) rfl) rfl) (tb_i4 (List.mem_of_getElem? (i := 152) rfl) rfl) (tb_i4 (List.mem_of_getElem? (i := 153) rfl) rfl) tb_y17 ⟨_, _, rfl⟩,
  mm_mr2 tb_k235 (tb_i4 (List.mem_of_getElem? (i := 194) rfl) rfl) (tb_i1 (List.mem_of_getElem? (i := 145) rfl) rfl) rfl rfl (tb_i1 (List.mem_of_getElem? (i := 146) rfl) rfl) tb_y4,
  mm_mr2 tb_k361 (tb_i4 (List.mem_of_getElem? (i := 159) rfl) rfl) (tb_i4 (List.mem_of_getElem? (i := 160) rfl) rfl) rfl rfl (tb_i4 (List.mem_of_getElem? (i := 161) rfl) rfl) tb_y4,
  mm_mr1 tb_k237 (tb_i4 (List.mem_of_getElem? (i := 229) rfl) rfl) (tb_i4 (List.mem_of_getElem? (i := 206) rfl) rfl) (tb_i4 (List.mem_of_getElem? (i := 207) rfl) rfl) tb_y42 ⟨_, _, rfl⟩,
  mm_mr1 tb_k269 (tb_i4 (List.mem_of_getElem? (i := 230) rfl) rfl) (tb_i4 (List.mem_of_getElem? (i := 232) rfl) rfl) (tb_p3 (List.mem_of_getElem? (i := 12) rfl) rfl) tb_y9 ⟨_, _, rfl⟩,
  mm_mr1 tb_k238 (tb_i4 (List.mem_of_getElem? (i := 234) rfl) rfl) (tb_i4 (List.mem_of_getElem? (i := 235) rfl) rfl) (tb_i4 (List.mem_of_getElem? (i := 236) rfl) rfl) tb_y51 ⟨_, _, rfl⟩,
  mm_mr1 tb_k239 (tb_i4 (List.mem_of_getElem? (i := 239) rfl) rfl) (tb_i5 (List.mem_of_getElem? (i := 0) rfl) rfl) (tb_i5 (List.mem_of_getElem? (i := 1) rfl) rfl) tb_y43 ⟨_, _, rfl⟩,
  mm_mr1 tb_k362 (tb_i4 (List.mem_of_getElem? (i := 221) rfl) rfl) (tb_i4 (List.mem_of_getElem? (i := 222) rfl) rfl) (tb_i4 (List.mem_of_getElem? (i := 223) rfl) rfl) tb_y10 ⟨_, _, rfl⟩,
  mm_mr1 tb_k268 (tb_i4 (List.mem_of_getElem? (i := 225) rfl) rfl) (tb_i4 (List.mem_of_getElem? (i := 227) rfl) rfl) (tb_p3 (List.mem_of_getElem? (i := 11) rfl) rfl) tb_y65 ⟨_, _, rfl⟩,
  mm_mr1 tb_k243 (tb_i5 (List.mem_of_getElem? (i := 43) rfl) rfl) (tb_i5 (List.mem_of_getElem? (i := 44) rfl) rfl) (tb_i5 (List.mem_of_getElem? (i := 45) rfl) rfl) tb_y4 ⟨_, _, rfl⟩,
  mm_mr1 tb_k240 (tb_i5 (List.mem_of_getElem? (i := 8) rfl) rfl) (tb_i5 (List.mem_of_getElem? (i := 9) rfl) rfl) (tb_i5 (List.mem_of_getElem? (i := 10) rfl) rfl) tb_y48 ⟨_, _, rfl⟩,
  mm_mr1 tb_k253 (tb_i5 (List.mem_of_getElem? (i := 15) rfl) rfl) (tb_i5 (List.mem_of_getElem? (i := 16) rfl) rfl) (tb_i5 (List.mem_of_getElem? (i := 17) rfl) rfl) tb_y35 ⟨_, _, rfl⟩,
  mm_mr1 tb_k242 (tb_i5 (List.mem_of_getElem? (i := 25) rfl) rfl) (tb_i5 (List.mem_of_getElem? (i := 26) rfl) rfl) (tb_i5 (List.mem_of_getElem? (i := 27) rfl) rfl) tb_y48 ⟨_, _, rfl⟩,
  mm_mr1 tb_k363 (tb_i5 (List.mem_of_getElem? (i := 51) rfl) rfl) (tb_i5 (List.mem_of_getElem? (i := 52) rfl) rfl) (tb_i5 (List.mem_of_getElem? (i := 53) rfl) rfl) tb_y5 ⟨_, _, rfl⟩,
  mm_mr1 tb_k255 (tb_i5 (List.mem_of_getElem? (i := 55) rfl) rfl) (tb_i5 (List.mem_of_getElem? (i := 35) rfl) rfl) (tb_i5 (List.mem_of_getElem? (i := 36) rfl) rfl) tb_y50 ⟨_, _, rfl⟩,
  mm_mr1 tb_k276 (tb_i5 (List.mem_of_getElem? (i := 68) rfl) rfl) (tb_i5 (List.mem_of_getElem? (i := 70) rfl) rfl) (tb_p4 (List.mem_of_getElem? (i := 3) rfl) rfl) tb_y10 ⟨_, _, rfl⟩,
  mm_mr1 tb_k277 (tb_i5 (List.mem_of_getElem? (i := 73) rfl) rfl) (tb_i5 (List.mem_of_getElem? (i := 75) rfl) rfl) (tb_p4 (List.mem_of_getElem? (i := 4) rfl) rfl) tb_y10 ⟨_, _, rfl⟩,
  mm_mr1 tb_k278 (tb_i5 (List.mem_of_getElem? (i := 77) rfl) rfl) (tb_i5 (List.mem_of_getElem? (i := 79) rfl) rfl) (tb_p4 (List.mem_of_getElem? (i := 5) rfl) rfl) tb_y35 ⟨_, _, rfl⟩,
  mm_mr1 tb_k280 (tb_i5 (List.mem_of_getElem? (i := 120) rfl) rfl) (tb_i5 (List.mem_of_getElem? (i := 122) rfl) rfl) (tb_p4 (List.mem_of_getElem? (i := 9) rfl) rfl) tb_y35 ⟨_, _, rfl⟩,
  mm_mr1 tb_k279 (tb_i5 (List.mem_of_getElem? (i := 81) rfl) rfl) (tb_i5 (List.mem_of_getElem? (i := 83) rfl) rfl) (tb_p4 (List.mem_of_getElem? (i := 6) rfl) rfl) tb_y35 ⟨_, _, rfl⟩,
  mm_mr1 tb_k275 (tb_i5 (List.mem_of_getElem? (i := 64) rfl) rfl) (tb_i5 (List.mem_of_getElem? (i := 66) rfl) rfl) (tb_p4 (List.mem_of_getElem? (i := 2) rfl) rfl) tb_y35 ⟨_, _, rfl⟩,
  mm_mr1 tb_k285 (tb_i5 (List.mem_of_getElem? (i := 143) rfl) rfl) (tb_i5 (List.mem_of_getElem? (i := 145) rfl) rfl) (tb_p4 (List.mem_of_getElem? (i := 13) rfl) rfl) tb_y35 ⟨_, _, rfl⟩,
  mm_mr1 tb_k286 (tb_i5 (List.mem_of_getElem? (i := 147) rfl) rfl) (tb_i5 (List.mem_of_getElem? (i := 149) rfl) rfl) (tb_p4 (List.mem_of_getElem? (i := 14) rfl) rfl) tb_y35 ⟨_, _, rfl⟩,
  mm_mr1 tb_k287 (tb_i5 (List.mem_of_getElem? (i := 151) rfl) rfl) (tb_i5 (List.mem_of_getElem? (i := 153) rfl) rfl) (tb_p4 (List.mem_of_getElem? (i := 15) rfl) rfl) tb_y35 ⟨_, _, rfl⟩,
  mm_mr1 tb_k289 (tb_i5 (List.mem_of_getElem? (i := 159) rfl) rfl) (tb_i5 (List.mem_of_getElem? (i := 161) rfl) rfl) (tb_p5 (List.mem_of_getElem? (i := 1) rfl) rfl) tb_y35 ⟨_, _, rfl⟩,
  mm_mr1 tb_k274 (tb_i5 (List.mem_of_getElem? (i := 60) rfl) rfl) (tb_i5 (List.mem_of_getElem? (i := 62) rfl) rfl) (tb_p4 (List.mem_of_getElem? (i := 1) rfl) rfl) tb_y9 ⟨_, _, rfl⟩,
  mm_mr1 tb_k292 (tb_i5 (List.mem_of_getElem? (i := 179) rfl) rfl) (tb_i5 (List.mem_of_getElem? (i := 181) rfl) rfl) (tb_p5 (List.mem_of_getElem? (i := 4) rfl) rfl) tb_y9 ⟨_, _, rfl⟩,
  mm_mr1 tb_k293 (tb_i5 (List.mem_of_getElem? (i := 183) rfl) rfl) (tb_i5 (List.mem_of_getElem? (i := 185) rfl) rfl) (tb_p5 (List.mem_of_getElem? (i := 5) rfl) rfl) tb_y4 ⟨_, _, rfl⟩,
  mm_mr1 tb_k294 (tb_i5 (List.mem_of_getElem? (i := 187) rfl) rfl) (tb_i5 (List.mem_of_getElem? (i := 189) rfl) rfl) (tb_p5 (List.mem_of_getElem? (i := 6) rfl) rfl) tb_y35 ⟨_, _, rfl⟩,
  mm_mr1 tb_k355 (tb_i5 (List.mem_of_getElem? (i := 72) rfl) rfl) (tb_i3 (List.mem_of_getElem? (i := 239) rfl) rfl) (tb_i4 (List.mem_of_getElem? (i := 0) rfl) rfl) tb_y21 ⟨_, _, rfl⟩,
  mm_mr1 tb_k256 (tb_i5 (List.mem_of_getElem? (i := 85) rfl) rfl) (tb_i5 (List.mem_of_getElem? (i := 86) rfl) rfl) (tb_i5 (List.mem_of_getElem? (i := 87) rfl) rfl) tb_y48 ⟨_, _, rfl⟩,
  mm_mr1 tb_k257 (tb_i5 (List.mem_of_getElem? (i := 89) rfl) rfl) (tb_i5 (List.mem_of_getElem? (i := 90) rfl) rfl) (tb_i5 (List.mem_of_getElem? (i := 91) rfl) rfl) tb_y22 ⟨_, _, rfl⟩,
  mm_mr1 tb_k241 (tb_i5 (List.mem_of_getElem? (i := 119) rfl) rfl) (tb_i5 (List.mem_of_getElem? (i := 22) rfl) rfl) (tb_i5 (List.mem_of_getElem? (i := 23) rfl) rfl) tb_y42 ⟨_, _, rfl⟩,
  mm_mr1 tb_k288 (tb_i5 (List.mem_of_getElem? (i := 155) rfl) rfl) (tb_i5 (List.mem_of_getElem? (i := 157) rfl) rfl) (tb_p5 (List.mem_of_getElem? (i := 0) rfl) rfl) tb_y50 ⟨_, _, rfl⟩,
  mm_mr1 tb_k290 (tb_i5 (List.mem_of_getElem? (i := 163) rfl) rfl) (tb_i5 (List.mem_of_getElem? (i := 165) rfl) rfl) (tb_p5 (List.mem_of_getElem? (i := 2) rfl) rfl) tb_y30 ⟨_, _, rfl⟩,
  mm_mr1 tb_k291 (tb_i5 (List.mem_of_getElem? (i := 167) rfl) rfl) (tb_i5 (List.mem_of_getElem? (i := 169) rfl) rfl) (tb_p5 (List.mem_of_getElem? (i := 3) rfl) rfl) tb_y36 ⟨_, _, rfl⟩,
  mm_mr1 tb_k244 (tb_i5 (List.mem_of_getElem? (i := 171) rfl) rfl) (tb_i5 (List.mem_of_getElem? (i := 172) rfl) rfl) (tb_i5 (List.mem_of_getElem? (i := 173) rfl) rfl) tb_y5 ⟨_, _, rfl⟩,
  mm_mr1 tb_k295 (tb_i5 (List.mem_of_getElem? (i := 191) rfl) rfl) (tb_i5 (List.mem_of_getElem? (i := 193) rfl) rfl) (tb_p5 (List.mem_of_getElem? (i := 7) rfl) rfl) tb_y34 ⟨_, _, rfl⟩,
  mm_mr1 tb_k296 (tb_i5 (List.mem_of_getElem? (i := 195) rfl) rfl) (tb_i5 (List.mem_of_getElem? (i := 197) rfl) rfl) (tb_p5 (List.mem_of_getElem? (i := 8) rfl) rfl) tb_y35 ⟨_, _, rfl⟩,
  mm_mr1 tb_k246 (tb_i5 (List.mem_of_getElem? (i := 201) rfl) rfl) (tb_i5 (List.mem_of_getElem? (i := 202) rfl) rfl) (tb_i5 (List.mem_of_getElem? (i := 203) rfl) rfl) tb_y49 ⟨_, _, rfl⟩,
  mm_mr1 tb_k245 (tb_i5 (List.mem_of_getElem? (i := 205) rfl) rfl) (tb_i5 (List.mem_of_getElem? (i := 176) rfl) rfl) (tb_i5 (List.mem_of_getElem? (i := 177) rfl) rfl) tb_y14 ⟨_, _, rfl⟩,
  mm_mr1 tb_k281 (tb_i5 (List.mem_of_getElem? (i := 124) rfl) rfl) (tb_i5 (List.mem_of_getElem? (i := 126) rfl) rfl) (tb_p4 (List.mem_of_getElem? (i := 10) rfl) rfl) tb_y9 ⟨_, _, rfl⟩,
  mm_mr1 tb_k360 (tb_i5 (List.mem_of_getElem? (i := 128) rfl) rfl) (tb_i5 (List.mem_of_getElem? (i := 129) rfl) rfl) (tb_i5 (List.mem_of_getElem? (i := 130) rfl) rfl) tb_y9 ⟨_, _, rfl⟩,
  mm_mr0 tb_k282 (tb_i5 (List.mem_of_getElem? (i := 132) rfl) rfl) (tb_i5 (List.mem_of_getElem? (i := 133) rfl) rfl) tb_y61,
  mm_mr1 tb_k283 (tb_i5 (List.mem_of_getElem? (i := 135) rfl) rfl) (tb_i5 (List.mem_of_getElem? (i := 137) rfl) rfl) (tb_p4 (List.mem_of_getElem? (i := 11) rfl) rfl) tb_y65 ⟨_, _, rfl⟩,
  mm_mr1 tb_k284 (tb_i5 (List.mem_of_getElem? (i := 139) rfl) rfl) (tb_i5 (List.mem_of_getElem? (i := 141) rfl) rfl) (tb_p4 (List.mem_of_getElem? (i := 12) rfl) rfl) tb_y10 ⟨_, _, rfl⟩,
  mm_mr1 tb_k297 (tb_i5 (List.mem_of_getElem? (i := 206) rfl) rfl) (tb_i5 (List.mem_of_getElem? (i := 208) rfl) rfl) (tb_p5 (List.mem_of_getElem? (i := 9) rfl) rfl) tb_y37 ⟨_, _, rfl⟩,
  mm_mr1 tb_k298 (tb_i5 (List.mem_of_getElem? (i := 210) rfl) rfl) (tb_i5 (List.mem_of_getElem? (i := 212) rfl) rfl) (tb_p5 (List.mem_of_getElem? (i := 10) rfl) rfl) tb_y37 ⟨_, _, rfl⟩,
  trivial⟩
set_option maxRecDepth 20000 in
theorem tb_ml_7 : mm_allL (fun q => (fun (o i : Nat) (v : Nat × Nat × Nat) => mm_mR tb_P tb_TB tb_cl tb_cn tb_ky tb_kb tb_hs o i v) 7 q.1 q.2) ((tb_ML[7]?).getD []) := ⟨mm_mr3 ⟨(tb_i2 (List.mem_of_getElem? (i := 26) rfl) rfl), (tb_i1 (List.mem_of_getElem? (i := 33) rfl) rfl), (tb_i1 (List.mem_of_getElem? (i := 34) rfl) rfl)⟩,
  mm_mr1 tb_k304 (tb_i5 (List.mem_of_getElem? (i := 222) rfl) rfl) (tb_i5 (List.mem_of_getElem? (i := 224) rfl) rfl) (tb_p5 (List.mem_of_getElem? (i := 11) rfl) rfl) tb_y12 ⟨_, _, rfl⟩,
  mm_mr1 tb_k305 (tb_i5 (List.mem_of_getElem? (i := 227) rfl) rfl) (tb_i5 (List.mem_of_getElem? (i := 229) rfl) rfl) (tb_p5 (List.mem_of_getElem? (i := 12) rfl) rfl) tb_y17 ⟨_, _, rfl⟩,
  mm_mr1 tb_k356 (tb_i5 (List.mem_of_getElem? (i := 226) rfl) rfl) (tb_i4 (List.mem_of_getElem? (i := 92) rfl) rfl) (tb_i4 (List.mem_of_getElem? (i := 93) rfl) rfl) tb_y16 ⟨_, _, rfl⟩,
  mm_mr1 tb_k359 (tb_i5 (List.mem_of_getElem? (i := 231) rfl) rfl) (tb_i4 (List.mem_of_getElem? (i := 115) rfl) rfl) (tb_i4 (List.mem_of_getElem? (i := 116) rfl) rfl) tb_y9 ⟨_, _, rfl⟩,
  mm_mr1 tb_k306 (tb_i5 (List.mem_of_getElem? (i := 232) rfl) rfl) (tb_i5 (List.mem_of_getElem? (i := 234) rfl) rfl) (tb_p5 (List.mem_of_getElem? (i := 13) rfl) rfl) tb_y17 ⟨_, _, rfl⟩,
  mm_mr1 tb_k308 (tb_i6 (List.mem_of_getElem? (i := 0) rfl) rfl) (tb_i6 (List.mem_of_getElem? (i := 2) rfl) rfl) (tb_p5 (List.mem_of_getElem? (i := 15) rfl) rfl) tb_y17 ⟨_, _, rfl⟩,
  mm_mr1 tb_k309 (tb_i6 (List.mem_of_getElem? (i := 4) rfl) rfl) (tb_i6 (List.mem_of_getElem? (i := 6) rfl) rfl) (tb_p6 (List.mem_of_getElem? (i := 0) rfl) rfl) tb_y17 ⟨_, _, rfl⟩,
  mm_mr1 tb_k307 (tb_i5 (List.mem_of_getElem? (i := 236) rfl) rfl) (tb_i5 (List.mem_of_getElem? (i := 238) rfl) rfl) (tb_p5 (List.mem_of_getElem? (i := 14) rfl) rfl) tb_y12 ⟨_, _, rfl⟩,
  trivial⟩
set_option maxRecDepth 20000 in
theorem tb_ml_8 : mm_allL (fun q => (fun (o i : Nat) (v : Nat × Nat × Nat) => mm_mR tb_P tb_TB tb_cl tb_cn tb_ky tb_kb tb_hs o i v) 8 q.1 q.2) ((tb_ML[8]?).getD []) := ⟨mm_mr3 ⟨(tb_i2 (List.mem_of_getElem? (i := 59) rfl) rfl), (tb_i1 (List.mem_of_getElem? (i := 33) rfl) rfl), (tb_i1 (List.mem_of_getElem? (i := 34) rfl) rfl)⟩,
  mm_mr5 tb_k174 ⟨_, (tb_i6 (List.mem_of_getElem? (i := 135) rfl) rfl)⟩ (tb_i6 (List.mem_of_getElem? (i := 123) rfl) rfl) tb_y13,
  mm_mr1 tb_k315 (tb_i6 (List.mem_of_getElem? (i := 159) rfl) rfl) (tb_i6 (List.mem_of_getElem? (i := 160) rfl) rfl) (tb_i6 (List.mem_of_getElem? (i := 161) rfl) rfl) tb_y14 ⟨_, _, rfl⟩,
  mm_mr1 tb_k314 (tb_i6 (List.mem_of_getElem? (i := 168) rfl) rfl) (tb_i6 (List.mem_of_getElem? (i := 156) rfl) rfl) (tb_i6 (List.mem_of_getElem? (i := 157) rfl) rfl) tb_y19 ⟨_, _, rfl⟩,
  mm_mr1 tb_k356 (tb_i6 (List.mem_of_getElem? (i := 209) rfl) rfl) (tb_i4 (List.mem_of_getElem? (i := 92) rfl) rfl) (tb_i4 (List.mem_of_getElem? (i := 93) rfl) rfl) tb_y16 ⟨_, _, rfl⟩,
  mm_mr1 tb_k359 (tb_i6 (List.mem_of_getElem? (i := 210) rfl) rfl) (tb_i4 (List.mem_of_getElem? (i := 115) rfl) rfl) (tb_i4 (List.mem_of_getElem? (i := 116) rfl) rfl) tb_y9 ⟨_, _, rfl⟩,
  mm_mr1 tb_k321 (tb_i6 (List.mem_of_getElem? (i := 211) rfl) rfl) (tb_i6 (List.mem_of_getElem? (i := 213) rfl) rfl) (tb_p6 (List.mem_of_getElem? (i := 4) rfl) rfl) tb_y64 ⟨_, _, rfl⟩,
  mm_mr1 tb_k317 (tb_i6 (List.mem_of_getElem? (i := 223) rfl) rfl) (tb_i6 (List.mem_of_getElem? (i := 178) rfl) rfl) (tb_i6 (List.mem_of_getElem? (i := 179) rfl) rfl) tb_y9 ⟨_, _, rfl⟩,
  mm_mr1 tb_k325 (tb_i6 (List.mem_of_getElem? (i := 227) rfl) rfl) (tb_i6 (List.mem_of_getElem? (i := 229) rfl) rfl) (tb_p6 (List.mem_of_getElem? (i := 7) rfl) rfl) tb_y62 ⟨_, _, rfl⟩,
  mm_mr1 tb_k322 (tb_i6 (List.mem_of_getElem? (i := 215) rfl) rfl) (tb_i6 (List.mem_of_getElem? (i := 217) rfl) rfl) (tb_p6 (List.mem_of_getElem? (i := 5) rfl) rfl) tb_y63 ⟨_, _, rfl⟩,
  mm_mr0 tb_k324 (tb_i6 (List.mem_of_getElem? (i := 224) rfl) rfl) (tb_i6 (List.mem_of_getElem? (i := 225) rfl) rfl) tb_y33,
  mm_mr1 tb_k323 (tb_i6 (List.mem_of_getElem? (i := 219) rfl) rfl) (tb_i6 (List.mem_of_getElem? (i := 221) rfl) rfl) (tb_p6 (List.mem_of_getElem? (i := 6) rfl) rfl) tb_y60 ⟨_, _, rfl⟩,
  trivial⟩
set_option maxRecDepth 20000 in
theorem tb_ml_9 : mm_allL (fun q => (fun (o i : Nat) (v : Nat × Nat × Nat) => mm_mR tb_P tb_TB tb_cl tb_cn tb_ky tb_kb tb_hs o i v) 9 q.1 q.2) ((tb_ML[9]?).getD []) := ⟨mm_mr3 ⟨(tb_i2 (List.mem_of_getElem? (i := 78) rfl) rfl), (tb_i1 (List.mem_of_getElem? (i := 33) rfl) rfl), (tb_i1 (List.mem_of_getElem? (i := 34) rfl) rfl)⟩,
  mm_mr1 tb_k328 (tb_i6 (List.mem_of_getElem? (i := 20) rfl) rfl) (tb_i6 (List.mem_of_getElem? (i := 22) rfl) rfl) (tb_p6 (List.mem_of_getElem? (i := 1) rfl) rfl) tb_y9 ⟨_, _, rfl⟩,
  mm_mr1 tb_k329 (tb_i6 (List.mem_of_getElem? (i := 24) rfl) rfl) (tb_i6 (List.mem_of_getElem? (i := 26) rfl) rfl) (tb_p6 (List.mem_of_getElem? (i := 2) rfl) rfl) tb_y9 ⟨_, _, rfl⟩,
  mm_mr1 tb_k332 (tb_i6 (List.mem_of_getElem? (i := 235) rfl) rfl) (tb_i6 (List.mem_of_getElem? (i := 237) rfl) rfl) (tb_p6 (List.mem_of_getElem? (i := 8) rfl) rfl) tb_y12 ⟨_, _, rfl⟩,
  mm_mr1 tb_k333 (tb_i7 (List.mem_of_getElem? (i := 2) rfl) rfl) (tb_i7 (List.mem_of_getElem? (i := 4) rfl) rfl) (tb_p6 (List.mem_of_getElem? (i := 9) rfl) rfl) tb_y56 ⟨_, _, rfl⟩,
  mm_mr1 tb_k337 (tb_i7 (List.mem_of_getElem? (i := 22) rfl) rfl) (tb_i7 (List.mem_of_getElem? (i := 24) rfl) rfl) (tb_p6 (List.mem_of_getElem? (i := 13) rfl) rfl) tb_y1 ⟨_, _, rfl⟩,
  mm_mr1 tb_k349 (tb_i7 (List.mem_of_getElem? (i := 78) rfl) rfl) (tb_i7 (List.mem_of_getElem? (i := 80) rfl) rfl) (tb_p7 (List.mem_of_getElem? (i := 9) rfl) rfl) tb_y12 ⟨_, _, rfl⟩,
  mm_mr1 tb_k350 (tb_i7 (List.mem_of_getElem? (i := 82) rfl) rfl) (tb_i7 (List.mem_of_getElem? (i := 84) rfl) rfl) (tb_p7 (List.mem_of_getElem? (i := 10) rfl) rfl) tb_y57 ⟨_, _, rfl⟩,
  mm_mr0 tb_k371 (tb_i6 (List.mem_of_getElem? (i := 239) rfl) rfl) (tb_i7 (List.mem_of_getElem? (i := 0) rfl) rfl) tb_y76,
  mm_mr0 tb_k365 (tb_i7 (List.mem_of_getElem? (i := 10) rfl) rfl) (tb_i2 (List.mem_of_getElem? (i := 176) rfl) rfl) tb_y15,
  mm_mr1 tb_k334 (tb_i7 (List.mem_of_getElem? (i := 6) rfl) rfl) (tb_i7 (List.mem_of_getElem? (i := 8) rfl) rfl) (tb_p6 (List.mem_of_getElem? (i := 10) rfl) rfl) tb_y9 ⟨_, _, rfl⟩,
  mm_mr1 tb_k317 (tb_i7 (List.mem_of_getElem? (i := 11) rfl) rfl) (tb_i6 (List.mem_of_getElem? (i := 178) rfl) rfl) (tb_i6 (List.mem_of_getElem? (i := 179) rfl) rfl) tb_y9 ⟨_, _, rfl⟩,
  mm_mr1 tb_k315 (tb_i7 (List.mem_of_getElem? (i := 12) rfl) rfl) (tb_i6 (List.mem_of_getElem? (i := 160) rfl) rfl) (tb_i6 (List.mem_of_getElem? (i := 161) rfl) rfl) tb_y14 ⟨_, _, rfl⟩,
  mm_mr1 tb_k335 (tb_i7 (List.mem_of_getElem? (i := 13) rfl) rfl) (tb_i7 (List.mem_of_getElem? (i := 15) rfl) rfl) (tb_p6 (List.mem_of_getElem? (i := 11) rfl) rfl) tb_y9 ⟨_, _, rfl⟩,
  mm_mr1 tb_k318 (tb_i7 (List.mem_of_getElem? (i := 17) rfl) rfl) (tb_i6 (List.mem_of_getElem? (i := 182) rfl) rfl) (tb_i6 (List.mem_of_getElem? (i := 183) rfl) rfl) tb_y16 ⟨_, _, rfl⟩,
  mm_mr1 tb_k336 (tb_i7 (List.mem_of_getElem? (i := 18) rfl) rfl) (tb_i7 (List.mem_of_getElem? (i := 20) rfl) rfl) (tb_p6 (List.mem_of_getElem? (i := 12) rfl) rfl) tb_y17 ⟨_, _, rfl⟩,
  mm_mr1 tb_k316 (tb_i7 (List.mem_of_getElem? (i := 86) rfl) rfl) (tb_i6 (List.mem_of_getElem? (i := 165) rfl) rfl) (tb_i6 (List.mem_of_getElem? (i := 166) rfl) rfl) tb_y21 ⟨_, _, rfl⟩,
  mm_mr1 tb_k340 (tb_i7 (List.mem_of_getElem? (i := 35) rfl) rfl) (tb_i7 (List.mem_of_getElem? (i := 37) rfl) rfl) (tb_p7 (List.mem_of_getElem? (i := 0) rfl) rfl) tb_y1 ⟨_, _, rfl⟩,
  mm_mr1 tb_k310 (tb_i7 (List.mem_of_getElem? (i := 26) rfl) rfl) (tb_i6 (List.mem_of_getElem? (i := 112) rfl) rfl) (tb_i6 (List.mem_of_getElem? (i := 113) rfl) rfl) tb_y20 ⟨_, _, rfl⟩,
  mm_mr1 tb_k338 (tb_i7 (List.mem_of_getElem? (i := 27) rfl) rfl) (tb_i7 (List.mem_of_getElem? (i := 29) rfl) rfl) (tb_p6 (List.mem_of_getElem? (i := 14) rfl) rfl) tb_y9 ⟨_, _, rfl⟩,
  mm_mr1 tb_k339 (tb_i7 (List.mem_of_getElem? (i := 31) rfl) rfl) (tb_i7 (List.mem_of_getElem? (i := 33) rfl) rfl) (tb_p6 (List.mem_of_getElem? (i := 15) rfl) rfl) tb_y9 ⟨_, _, rfl⟩,
  mm_mr1 tb_k341 (tb_i7 (List.mem_of_getElem? (i := 39) rfl) rfl) (tb_i7 (List.mem_of_getElem? (i := 41) rfl) rfl) (tb_p7 (List.mem_of_getElem? (i := 1) rfl) rfl) tb_y9 ⟨_, _, rfl⟩,
  mm_mr0 tb_k369 (tb_i7 (List.mem_of_getElem? (i := 45) rfl) rfl) (tb_i7 (List.mem_of_getElem? (i := 46) rfl) rfl) tb_y15,
  mm_mr1 tb_k342 (tb_i7 (List.mem_of_getElem? (i := 48) rfl) rfl) (tb_i7 (List.mem_of_getElem? (i := 50) rfl) rfl) (tb_p7 (List.mem_of_getElem? (i := 2) rfl) rfl) tb_y9 ⟨_, _, rfl⟩,
  mm_mr1 tb_k343 (tb_i7 (List.mem_of_getElem? (i := 53) rfl) rfl) (tb_i7 (List.mem_of_getElem? (i := 55) rfl) rfl) (tb_p7 (List.mem_of_getElem? (i := 3) rfl) rfl) tb_y1 ⟨_, _, rfl⟩,
  mm_mr1 tb_k344 (tb_i7 (List.mem_of_getElem? (i := 57) rfl) rfl) (tb_i7 (List.mem_of_getElem? (i := 59) rfl) rfl) (tb_p7 (List.mem_of_getElem? (i := 4) rfl) rfl) tb_y16 ⟨_, _, rfl⟩,
  mm_mr1 tb_k345 (tb_i7 (List.mem_of_getElem? (i := 62) rfl) rfl) (tb_i7 (List.mem_of_getElem? (i := 64) rfl) rfl) (tb_p7 (List.mem_of_getElem? (i := 5) rfl) rfl) tb_y9 ⟨_, _, rfl⟩,
  mm_mr0 tb_k324 (tb_i7 (List.mem_of_getElem? (i := 61) rfl) rfl) (tb_i6 (List.mem_of_getElem? (i := 225) rfl) rfl) tb_y33,
  mm_mr1 tb_k346 (tb_i7 (List.mem_of_getElem? (i := 66) rfl) rfl) (tb_i7 (List.mem_of_getElem? (i := 68) rfl) rfl) (tb_p7 (List.mem_of_getElem? (i := 6) rfl) rfl) tb_y9 ⟨_, _, rfl⟩,
  mm_mr1 tb_k347 (tb_i7 (List.mem_of_getElem? (i := 70) rfl) rfl) (tb_i7 (List.mem_of_getElem? (i := 72) rfl) rfl) (tb_p7 (List.mem_of_getElem? (i := 7) rfl) rfl) tb_y1 ⟨_, _, rfl⟩,
  mm_mr1 tb_k348 (tb_i7 (List.mem_of_getElem? (i := 74) rfl) rfl) (tb_i7 (List.mem_of_getElem? (i := 76) rfl) rfl) (tb_p7 (List.mem_of_getElem? (i := 8) rfl) rfl) tb_y16 ⟨_, _, rfl⟩,
  mm_mr0 tb_k364 (tb_i7 (List.mem_of_getElem? (i := 52) rfl) rfl) (tb_i1 (List.mem_of_getElem? (i := 139) rfl) rfl) tb_y15,
  trivial⟩
set_option maxRecDepth 20000 in
theorem tb_ml_10 : mm_allL (fun q => (fun (o i : Nat) (v : Nat × Nat × Nat) => mm_mR tb_P tb_TB tb_cl tb_cn tb_ky tb_kb tb_hs o i v) 10 q.1 q.2) ((tb_ML[10]?).getD []) := ⟨mm_mr3 ⟨(tb_i2 (List.mem_of_getElem? (i := 183) rfl) rfl), (tb_i1 (List.mem_of_getElem? (i := 33) rfl) rfl), (tb_i1 (List.mem_of_getElem? (i := 34) rfl) rfl)⟩,
  mm_mr1 tb_k355 (tb_i3 (List.mem_of_getElem? (i := 238) rfl) rfl) (tb_i3 (List.mem_of_getElem? (i := 239) rfl) rfl) (tb_i4 (List.mem_of_getElem? (i := 0) rfl) rfl) tb_y21 ⟨_, _, rfl⟩,
  mm_mr1 tb_k359 (tb_i4 (List.mem_of_getElem? (i := 114) rfl) rfl) (tb_i4 (List.mem_of_getElem? (i := 115) rfl) rfl) (tb_i4 (List.mem_of_getElem? (i := 116) rfl) rfl) tb_y9 ⟨_, _, rfl⟩,
  mm_mr1 tb_k356 (tb_i4 (List.mem_of_getElem? (i := 109) rfl) rfl) (tb_i4 (List.mem_of_getElem? (i := 92) rfl) rfl) (tb_i4 (List.mem_of_getElem? (i := 93) rfl) rfl) tb_y16 ⟨_, _, rfl⟩,
  mm_mr1 tb_k358 (tb_i4 (List.mem_of_getElem? (i := 110) rfl) rfl) (tb_i4 (List.mem_of_getElem? (i := 112) rfl) rfl) (tb_p3 (List.mem_of_getElem? (i := 4) rfl) rfl) tb_y22 ⟨_, _, rfl⟩,
  trivial⟩
set_option maxRecDepth 20000 in
theorem tb_ml_11 : mm_allL (fun q => (fun (o i : Nat) (v : Nat × Nat × Nat) => mm_mR tb_P tb_TB tb_cl tb_cn tb_ky tb_kb tb_hs o i v) 11 q.1 q.2) ((tb_ML[11]?).getD []) := ⟨mm_mr3 ⟨(tb_i4 (List.mem_of_getElem? (i := 162) rfl) rfl), (tb_i1 (List.mem_of_getElem? (i := 33) rfl) rfl), (tb_i1 (List.mem_of_getElem? (i := 34) rfl) rfl)⟩,
  mm_mr2 tb_k235 (tb_i4 (List.mem_of_getElem? (i := 164) rfl) rfl) (tb_i1 (List.mem_of_getElem? (i := 145) rfl) rfl) rfl rfl (tb_i1 (List.mem_of_getElem? (i := 146) rfl) rfl) tb_y4,
  trivial⟩
set_option maxRecDepth 20000 in
theorem tb_ml_12 : mm_allL (fun q => (fun (o i : Nat) (v : Nat × Nat × Nat) => mm_mR tb_P tb_TB tb_cl tb_cn tb_ky tb_kb tb_hs o i v) 12 q.1 q.2) ((tb_ML[12]?).getD []) := ⟨mm_mr3 ⟨(tb_i7 (List.mem_of_getElem? (i := 136) rfl) rfl), (tb_i1 (List.mem_of_getElem? (i := 33) rfl) rfl), (tb_i1 (List.mem_of_getElem? (i := 34) rfl) rfl)⟩,
  mm_mr1 tb_k17 (tb_i9 (List.mem_of_getElem? (i := 101) rfl) rfl) (tb_i9 (List.mem_of_getElem? (i := 103) rfl) rfl) (tb_p7 (List.mem_of_getElem? (i := 11) rfl) rfl) tb_y17 ⟨_, _, rfl⟩,
  mm_mr1 tb_k18 (tb_i9 (List.mem_of_getElem? (i := 105) rfl) rfl) (tb_i9 (List.mem_of_getElem? (i := 107) rfl) rfl) (tb_p7 (List.mem_of_getElem? (i := 12) rfl) rfl) tb_y14 ⟨_, _, rfl⟩,
  mm_mr0 tb_k23 (tb_i9 (List.mem_of_getElem? (i := 125) rfl) rfl) (tb_i9 (List.mem_of_getElem? (i := 126) rfl) rfl) tb_y6,
  mm_mr1 tb_k24 (tb_i9 (List.mem_of_getElem? (i := 128) rfl) rfl) (tb_i9 (List.mem_of_getElem? (i := 130) rfl) rfl) (tb_p7 (List.mem_of_getElem? (i := 15) rfl) rfl) tb_y7 ⟨_, _, rfl⟩,
  mm_mr0 tb_k25 (tb_i9 (List.mem_of_getElem? (i := 132) rfl) rfl) (tb_i9 (List.mem_of_getElem? (i := 133) rfl) rfl) tb_y6,
  mm_mr0 tb_k26 (tb_i9 (List.mem_of_getElem? (i := 135) rfl) rfl) (tb_i9 (List.mem_of_getElem? (i := 136) rfl) rfl) tb_y6,
  mm_mr0 tb_k32 (tb_i9 (List.mem_of_getElem? (i := 158) rfl) rfl) (tb_i9 (List.mem_of_getElem? (i := 159) rfl) rfl) tb_y13,
  mm_mr1 tb_k33 (tb_i9 (List.mem_of_getElem? (i := 163) rfl) rfl) (tb_i9 (List.mem_of_getElem? (i := 165) rfl) rfl) (tb_p8 (List.mem_of_getElem? (i := 5) rfl) rfl) tb_y14 ⟨_, _, rfl⟩,
  mm_mr1 tb_k29 (tb_i9 (List.mem_of_getElem? (i := 146) rfl) rfl) (tb_i9 (List.mem_of_getElem? (i := 148) rfl) rfl) (tb_p8 (List.mem_of_getElem? (i := 2) rfl) rfl) tb_y4 ⟨_, _, rfl⟩,
  mm_mr1 tb_k28 (tb_i9 (List.mem_of_getElem? (i := 142) rfl) rfl) (tb_i9 (List.mem_of_getElem? (i := 144) rfl) rfl) (tb_p8 (List.mem_of_getElem? (i := 1) rfl) rfl) tb_y14 ⟨_, _, rfl⟩,
  mm_mr1 tb_k31 (tb_i9 (List.mem_of_getElem? (i := 154) rfl) rfl) (tb_i9 (List.mem_of_getElem? (i := 156) rfl) rfl) (tb_p8 (List.mem_of_getElem? (i := 4) rfl) rfl) tb_y5 ⟨_, _, rfl⟩,
  mm_mr1 tb_k40 (tb_i9 (List.mem_of_getElem? (i := 191) rfl) rfl) (tb_i9 (List.mem_of_getElem? (i := 193) rfl) rfl) (tb_p8 (List.mem_of_getElem? (i := 12) rfl) rfl) tb_y17 ⟨_, _, rfl⟩,
  mm_mr1 tb_k30 (tb_i9 (List.mem_of_getElem? (i := 150) rfl) rfl) (tb_i9 (List.mem_of_getElem? (i := 152) rfl) rfl) (tb_p8 (List.mem_of_getElem? (i := 3) rfl) rfl) tb_y1 ⟨_, _, rfl⟩,
  mm_mr1 tb_k39 (tb_i9 (List.mem_of_getElem? (i := 187) rfl) rfl) (tb_i9 (List.mem_of_getElem? (i := 189) rfl) rfl) (tb_p8 (List.mem_of_getElem? (i := 11) rfl) rfl) tb_y12 ⟨_, _, rfl⟩,
  mm_mr1 tb_k38 (tb_i9 (List.mem_of_getElem? (i := 183) rfl) rfl) (tb_i9 (List.mem_of_getElem? (i := 185) rfl) rfl) (tb_p8 (List.mem_of_getElem? (i := 10) rfl) rfl) tb_y1 ⟨_, _, rfl⟩,
  mm_mr1 tb_k41 (tb_i9 (List.mem_of_getElem? (i := 195) rfl) rfl) (tb_i9 (List.mem_of_getElem? (i := 197) rfl) rfl) (tb_p8 (List.mem_of_getElem? (i := 13) rfl) rfl) tb_y1 ⟨_, _, rfl⟩,
  mm_mr1 tb_k42 (tb_i9 (List.mem_of_getElem? (i := 199) rfl) rfl) (tb_i9 (List.mem_of_getElem? (i := 201) rfl) rfl) (tb_p8 (List.mem_of_getElem? (i := 14) rfl) rfl) tb_y12 ⟨_, _, rfl⟩,
  mm_mr1 tb_k37 (tb_i9 (List.mem_of_getElem? (i := 179) rfl) rfl) (tb_i9 (List.mem_of_getElem? (i := 181) rfl) rfl) (tb_p8 (List.mem_of_getElem? (i := 9) rfl) rfl) tb_y1 ⟨_, _, rfl⟩,
  mm_mr1 tb_k35 (tb_i9 (List.mem_of_getElem? (i := 171) rfl) rfl) (tb_i9 (List.mem_of_getElem? (i := 173) rfl) rfl) (tb_p8 (List.mem_of_getElem? (i := 7) rfl) rfl) tb_y19 ⟨_, _, rfl⟩,
  mm_mr1 tb_k36 (tb_i9 (List.mem_of_getElem? (i := 175) rfl) rfl) (tb_i9 (List.mem_of_getElem? (i := 177) rfl) rfl) (tb_p8 (List.mem_of_getElem? (i := 8) rfl) rfl) tb_y12 ⟨_, _, rfl⟩,
  mm_mr1 tb_k44 (tb_i9 (List.mem_of_getElem? (i := 207) rfl) rfl) (tb_i9 (List.mem_of_getElem? (i := 209) rfl) rfl) (tb_p9 (List.mem_of_getElem? (i := 0) rfl) rfl) tb_y1 ⟨_, _, rfl⟩,
  mm_mr1 tb_k22 (tb_i9 (List.mem_of_getElem? (i := 121) rfl) rfl) (tb_i9 (List.mem_of_getElem? (i := 123) rfl) rfl) (tb_p7 (List.mem_of_getElem? (i := 14) rfl) rfl) tb_y4 ⟨_, _, rfl⟩,
  mm_mr1 tb_k27 (tb_i9 (List.mem_of_getElem? (i := 138) rfl) rfl) (tb_i9 (List.mem_of_getElem? (i := 140) rfl) rfl) (tb_p8 (List.mem_of_getElem? (i := 0) rfl) rfl) tb_y12 ⟨_, _, rfl⟩,
  mm_mr1 tb_k34 (tb_i9 (List.mem_of_getElem? (i := 167) rfl) rfl) (tb_i9 (List.mem_of_getElem? (i := 169) rfl) rfl) (tb_p8 (List.mem_of_getElem? (i := 6) rfl) rfl) tb_y12 ⟨_, _, rfl⟩,
  mm_mr1 tb_k43 (tb_i9 (List.mem_of_getElem? (i := 203) rfl) rfl) (tb_i9 (List.mem_of_getElem? (i := 205) rfl) rfl) (tb_p8 (List.mem_of_getElem? (i := 15) rfl) rfl) tb_y12 ⟨_, _, rfl⟩,
  mm_mr1 tb_k45 (tb_i9 (List.mem_of_getElem? (i := 211) rfl) rfl) (tb_i9 (List.mem_of_getElem? (i := 213) rfl) rfl) (tb_p9 (List.mem_of_getElem? (i := 1) rfl) rfl) tb_y1 ⟨_, _, rfl⟩,
  mm_mr1 tb_k46 (tb_i9 (List.mem_of_getElem? (i := 215) rfl) rfl) (tb_i9 (List.mem_of_getElem? (i := 217) rfl) rfl) (tb_p9 (List.mem_of_getElem? (i := 2) rfl) rfl) tb_y17 ⟨_, _, rfl⟩,
  mm_mr1 tb_k47 (tb_i9 (List.mem_of_getElem? (i := 219) rfl) rfl) (tb_i9 (List.mem_of_getElem? (i := 221) rfl) rfl) (tb_p9 (List.mem_of_getElem? (i := 3) rfl) rfl) tb_y12 ⟨_, _, rfl⟩,
  mm_mr1 tb_k50 (tb_i9 (List.mem_of_getElem? (i := 231) rfl) rfl) (tb_i9 (List.mem_of_getElem? (i := 233) rfl) rfl) (tb_p9 (List.mem_of_getElem? (i := 6) rfl) rfl) tb_y12 ⟨_, _, rfl⟩,
  mm_mr1 tb_k51 (tb_i9 (List.mem_of_getElem? (i := 235) rfl) rfl) (tb_i9 (List.mem_of_getElem? (i := 237) rfl) rfl) (tb_p9 (List.mem_of_getElem? (i := 7) rfl) rfl) tb_y12 ⟨_, _, rfl⟩,
  mm_mr1 tb_k52 (tb_i9 (List.mem_of_getElem? (i := 239) rfl) rfl) (tb_i10 (List.mem_of_getElem? (i := 1) rfl) rfl) (tb_p9 (List.mem_of_getElem? (i := 8) rfl) rfl) tb_y12 ⟨_, _, rfl⟩,
  mm_mr1 tb_k53 (tb_i10 (List.mem_of_getElem? (i := 3) rfl) rfl) (tb_i10 (List.mem_of_getElem? (i := 5) rfl) rfl) (tb_p9 (List.mem_of_getElem? (i := 9) rfl) rfl) tb_y12 ⟨_, _, rfl⟩,
  mm_mr1 tb_k48 (tb_i9 (List.mem_of_getElem? (i := 223) rfl) rfl) (tb_i9 (List.mem_of_getElem? (i := 225) rfl) rfl) (tb_p9 (List.mem_of_getElem? (i := 4) rfl) rfl) tb_y27 ⟨_, _, rfl⟩,
  mm_mr1 tb_k49 (tb_i9 (List.mem_of_getElem? (i := 227) rfl) rfl) (tb_i9 (List.mem_of_getElem? (i := 229) rfl) rfl) (tb_p9 (List.mem_of_getElem? (i := 5) rfl) rfl) tb_y12 ⟨_, _, rfl⟩,
  mm_mr1 tb_k55 (tb_i10 (List.mem_of_getElem? (i := 11) rfl) rfl) (tb_i10 (List.mem_of_getElem? (i := 13) rfl) rfl) (tb_p9 (List.mem_of_getElem? (i := 11) rfl) rfl) tb_y12 ⟨_, _, rfl⟩,
  mm_mr1 tb_k56 (tb_i10 (List.mem_of_getElem? (i := 15) rfl) rfl) (tb_i10 (List.mem_of_getElem? (i := 17) rfl) rfl) (tb_p9 (List.mem_of_getElem? (i := 12) rfl) rfl) tb_y12 ⟨_, _, rfl⟩,
  mm_mr1 tb_k57 (tb_i10 (List.mem_of_getElem? (i := 19) rfl) rfl) (tb_i10 (List.mem_of_getElem? (i := 21) rfl) rfl) (tb_p9 (List.mem_of_getElem? (i := 13) rfl) rfl) tb_y12 ⟨_, _, rfl⟩,
  mm_mr1 tb_k54 (tb_i10 (List.mem_of_getElem? (i := 7) rfl) rfl) (tb_i10 (List.mem_of_getElem? (i := 9) rfl) rfl) (tb_p9 (List.mem_of_getElem? (i := 10) rfl) rfl) tb_y12 ⟨_, _, rfl⟩,
  mm_mr1 tb_k21 (tb_i9 (List.mem_of_getElem? (i := 117) rfl) rfl) (tb_i9 (List.mem_of_getElem? (i := 119) rfl) rfl) (tb_p7 (List.mem_of_getElem? (i := 13) rfl) rfl) tb_y14 ⟨_, _, rfl⟩,
  mm_mr1 tb_k58 (tb_i10 (List.mem_of_getElem? (i := 23) rfl) rfl) (tb_i10 (List.mem_of_getElem? (i := 25) rfl) rfl) (tb_p9 (List.mem_of_getElem? (i := 14) rfl) rfl) tb_y4 ⟨_, _, rfl⟩,
  mm_mr1 tb_k64 (tb_i10 (List.mem_of_getElem? (i := 47) rfl) rfl) (tb_i10 (List.mem_of_getElem? (i := 49) rfl) rfl) (tb_p10 (List.mem_of_getElem? (i := 1) rfl) rfl) tb_y17 ⟨_, _, rfl⟩,
  mm_mr1 tb_k81 (tb_i10 (List.mem_of_getElem? (i := 119) rfl) rfl) (tb_i10 (List.mem_of_getElem? (i := 121) rfl) rfl) (tb_p11 (List.mem_of_getElem? (i := 0) rfl) rfl) tb_y74 ⟨_, _, rfl⟩,
  mm_mr1 tb_k68 (tb_i10 (List.mem_of_getElem? (i := 63) rfl) rfl) (tb_i10 (List.mem_of_getElem? (i := 65) rfl) rfl) (tb_p10 (List.mem_of_getElem? (i := 5) rfl) rfl) tb_y38 ⟨_, _, rfl⟩,
  mm_mr1 tb_k69 (tb_i10 (List.mem_of_getElem? (i := 67) rfl) rfl) (tb_i10 (List.mem_of_getElem? (i := 69) rfl) rfl) (tb_p10 (List.mem_of_getElem? (i := 6) rfl) rfl) tb_y84 ⟨_, _, rfl⟩,
  mm_mr0 tb_k70 (tb_i10 (List.mem_of_getElem? (i := 71) rfl) rfl) (tb_i10 (List.mem_of_getElem? (i := 72) rfl) rfl) tb_y77,
  mm_mr1 tb_k67 (tb_i10 (List.mem_of_getElem? (i := 59) rfl) rfl) (tb_i10 (List.mem_of_getElem? (i := 61) rfl) rfl) (tb_p10 (List.mem_of_getElem? (i := 4) rfl) rfl) tb_y40 ⟨_, _, rfl⟩,
  mm_mr1 tb_k71 (tb_i10 (List.mem_of_getElem? (i := 76) rfl) rfl) (tb_i10 (List.mem_of_getElem? (i := 78) rfl) rfl) (tb_p10 (List.mem_of_getElem? (i := 7) rfl) rfl) tb_y32 ⟨_, _, rfl⟩,
  mm_mr1 tb_k72 (tb_i10 (List.mem_of_getElem? (i := 80) rfl) rfl) (tb_i10 (List.mem_of_getElem? (i := 82) rfl) rfl) (tb_p10 (List.mem_of_getElem? (i := 8) rfl) rfl) tb_y79 ⟨_, _, rfl⟩,
  mm_mr1 tb_k73 (tb_i10 (List.mem_of_getElem? (i := 84) rfl) rfl) (tb_i10 (List.mem_of_getElem? (i := 86) rfl) rfl) (tb_p10 (List.mem_of_getElem? (i := 9) rfl) rfl) tb_y17 ⟨_, _, rfl⟩,
  mm_mr1 tb_k63 (tb_i10 (List.mem_of_getElem? (i := 43) rfl) rfl) (tb_i10 (List.mem_of_getElem? (i := 45) rfl) rfl) (tb_p10 (List.mem_of_getElem? (i := 0) rfl) rfl) tb_y9 ⟨_, _, rfl⟩,
  mm_mr1 tb_k80 (tb_i10 (List.mem_of_getElem? (i := 115) rfl) rfl) (tb_i10 (List.mem_of_getElem? (i := 117) rfl) rfl) (tb_p10 (List.mem_of_getElem? (i := 15) rfl) rfl) tb_y39 ⟨_, _, rfl⟩,
  mm_mr1 tb_k82 (tb_i10 (List.mem_of_getElem? (i := 123) rfl) rfl) (tb_i10 (List.mem_of_getElem? (i := 125) rfl) rfl) (tb_p11 (List.mem_of_getElem? (i := 1) rfl) rfl) tb_y82 ⟨_, _, rfl⟩,
  mm_mr1 tb_k66 (tb_i10 (List.mem_of_getElem? (i := 55) rfl) rfl) (tb_i10 (List.mem_of_getElem? (i := 57) rfl) rfl) (tb_p10 (List.mem_of_getElem? (i := 3) rfl) rfl) tb_y24 ⟨_, _, rfl⟩,
  mm_mr1 tb_k74 (tb_i10 (List.mem_of_getElem? (i := 88) rfl) rfl) (tb_i10 (List.mem_of_getElem? (i := 90) rfl) rfl) (tb_p10 (List.mem_of_getElem? (i := 10) rfl) rfl) tb_y78 ⟨_, _, rfl⟩,
  mm_mr0 tb_k76 (tb_i10 (List.mem_of_getElem? (i := 96) rfl) rfl) (tb_i10 (List.mem_of_getElem? (i := 97) rfl) rfl) tb_y45,
  mm_mr0 tb_k367 (tb_i10 (List.mem_of_getElem? (i := 99) rfl) rfl) (tb_i5 (List.mem_of_getElem? (i := 108) rfl) rfl) tb_y45,
  mm_mr0 tb_k368 (tb_i10 (List.mem_of_getElem? (i := 102) rfl) rfl) (tb_i5 (List.mem_of_getElem? (i := 113) rfl) rfl) tb_y45,
  mm_mr1 tb_k75 (tb_i10 (List.mem_of_getElem? (i := 92) rfl) rfl) (tb_i10 (List.mem_of_getElem? (i := 94) rfl) rfl) (tb_p10 (List.mem_of_getElem? (i := 11) rfl) rfl) tb_y5 ⟨_, _, rfl⟩,
  mm_mr1 tb_k77 (tb_i10 (List.mem_of_getElem? (i := 103) rfl) rfl) (tb_i10 (List.mem_of_getElem? (i := 105) rfl) rfl) (tb_p10 (List.mem_of_getElem? (i := 12) rfl) rfl) tb_y4 ⟨_, _, rfl⟩,
  mm_mr1 tb_k78 (tb_i10 (List.mem_of_getElem? (i := 107) rfl) rfl) (tb_i10 (List.mem_of_getElem? (i := 109) rfl) rfl) (tb_p10 (List.mem_of_getElem? (i := 13) rfl) rfl) tb_y14 ⟨_, _, rfl⟩,
  mm_mr1 tb_k96 (tb_i10 (List.mem_of_getElem? (i := 179) rfl) rfl) (tb_i10 (List.mem_of_getElem? (i := 181) rfl) rfl) (tb_p11 (List.mem_of_getElem? (i := 15) rfl) rfl) tb_y9 ⟨_, _, rfl⟩,
  mm_mr1 tb_k86 (tb_i10 (List.mem_of_getElem? (i := 139) rfl) rfl) (tb_i10 (List.mem_of_getElem? (i := 141) rfl) rfl) (tb_p11 (List.mem_of_getElem? (i := 5) rfl) rfl) tb_y21 ⟨_, _, rfl⟩,
  mm_mr1 tb_k87 (tb_i10 (List.mem_of_getElem? (i := 143) rfl) rfl) (tb_i10 (List.mem_of_getElem? (i := 145) rfl) rfl) (tb_p11 (List.mem_of_getElem? (i := 6) rfl) rfl) tb_y17 ⟨_, _, rfl⟩,
  mm_mr1 tb_k88 (tb_i10 (List.mem_of_getElem? (i := 147) rfl) rfl) (tb_i10 (List.mem_of_getElem? (i := 149) rfl) rfl) (tb_p11 (List.mem_of_getElem? (i := 7) rfl) rfl) tb_y17 ⟨_, _, rfl⟩,
  mm_mr1 tb_k92 (tb_i10 (List.mem_of_getElem? (i := 163) rfl) rfl) (tb_i10 (List.mem_of_getElem? (i := 165) rfl) rfl) (tb_p11 (List.mem_of_getElem? (i := 11) rfl) rfl) tb_y4 ⟨_, _, rfl⟩,
  mm_mr1 tb_k93 (tb_i10 (List.mem_of_getElem? (i := 167) rfl) rfl) (tb_i10 (List.mem_of_getElem? (i := 169) rfl) rfl) (tb_p11 (List.mem_of_getElem? (i := 12) rfl) rfl) tb_y12 ⟨_, _, rfl⟩,
  mm_mr1 tb_k94 (tb_i10 (List.mem_of_getElem? (i := 171) rfl) rfl) (tb_i10 (List.mem_of_getElem? (i := 173) rfl) rfl) (tb_p11 (List.mem_of_getElem? (i := 13) rfl) rfl) tb_y17 ⟨_, _, rfl⟩,
  mm_mr1 tb_k99 (tb_i10 (List.mem_of_getElem? (i := 191) rfl) rfl) (tb_i10 (List.mem_of_getElem? (i := 193) rfl) rfl) (tb_p12 (List.mem_of_getElem? (i := 2) rfl) rfl) tb_y17 ⟨_, _, rfl⟩,
  mm_mr1 tb_k95 (tb_i10 (List.mem_of_getElem? (i := 175) rfl) rfl) (tb_i10 (List.mem_of_getElem? (i := 177) rfl) rfl) (tb_p11 (List.mem_of_getElem? (i := 14) rfl) rfl) tb_y9 ⟨_, _, rfl⟩,
  mm_mr1 tb_k103 (tb_i10 (List.mem_of_getElem? (i := 207) rfl) rfl) (tb_i10 (List.mem_of_getElem? (i := 209) rfl) rfl) (tb_p12 (List.mem_of_getElem? (i := 6) rfl) rfl) tb_y17 ⟨_, _, rfl⟩,
  mm_mr1 tb_k104 (tb_i10 (List.mem_of_getElem? (i := 211) rfl) rfl) (tb_i10 (List.mem_of_getElem? (i := 213) rfl) rfl) (tb_p12 (List.mem_of_getElem? (i := 7) rfl) rfl) tb_y17 ⟨_, _, rfl⟩,
  mm_mr1 tb_k106 (tb_i10 (List.mem_of_getElem? (i := 219) rfl) rfl) (tb_i10 (List.mem_of_getElem? (i := 221) rfl) rfl) (tb_p12 (List.mem_of_getElem? (i := 8) rfl) rfl) tb_y17 ⟨_, _, rfl⟩,
  mm_mr1 tb_k107 (tb_i10 (List.mem_of_getElem? (i := 223) rfl) rfl) (tb_i10 (List.mem_of_getElem? (i := 225) rfl) rfl) (tb_p12 (List.mem_of_getElem? (i := 9) rfl) rfl) tb_y17 ⟨_, _, rfl⟩,
  mm_mr1 tb_k108 (tb_i10 (List.mem_of_getElem? (i := 227) rfl) rfl) (tb_i10 (List.mem_of_getElem? (i := 229) rfl) rfl) (tb_p12 (List.mem_of_getElem? (i := 10) rfl) rfl) tb_y17 ⟨_, _, rfl⟩,
  mm_mr1 tb_k109 (tb_i10 (List.mem_of_getElem? (i := 231) rfl) rfl) (tb_i10 (List.mem_of_getElem? (i := 233) rfl) rfl) (tb_p12 (List.mem_of_getElem? (i := 11) rfl) rfl) tb_y17 ⟨_, _, rfl⟩,
  mm_mr1 tb_k113 (tb_i11 (List.mem_of_getElem? (i := 6) rfl) rfl) (tb_i11 (List.mem_of_getElem? (i := 8) rfl) rfl) (tb_p12 (List.mem_of_getElem? (i := 14) rfl) rfl) tb_y17 ⟨_, _, rfl⟩,
  mm_mr1 tb_k89 (tb_i10 (List.mem_of_getElem? (i := 151) rfl) rfl) (tb_i10 (List.mem_of_getElem? (i := 153) rfl) rfl) (tb_p11 (List.mem_of_getElem? (i := 8) rfl) rfl) tb_y17 ⟨_, _, rfl⟩,
  mm_mr1 tb_k90 (tb_i10 (List.mem_of_getElem? (i := 155) rfl) rfl) (tb_i10 (List.mem_of_getElem? (i := 157) rfl) rfl) (tb_p11 (List.mem_of_getElem? (i := 9) rfl) rfl) tb_y39 ⟨_, _, rfl⟩,
  mm_mr1 tb_k97 (tb_i10 (List.mem_of_getElem? (i := 183) rfl) rfl) (tb_i10 (List.mem_of_getElem? (i := 185) rfl) rfl) (tb_p12 (List.mem_of_getElem? (i := 0) rfl) rfl) tb_y31 ⟨_, _, rfl⟩,
  mm_mr1 tb_k98 (tb_i10 (List.mem_of_getElem? (i := 187) rfl) rfl) (tb_i10 (List.mem_of_getElem? (i := 189) rfl) rfl) (tb_p12 (List.mem_of_getElem? (i := 1) rfl) rfl) tb_y12 ⟨_, _, rfl⟩,
  mm_mr0 tb_k105 (tb_i10 (List.mem_of_getElem? (i := 215) rfl) rfl) (tb_i10 (List.mem_of_getElem? (i := 216) rfl) rfl) tb_y77,
  mm_mr1 tb_k83 (tb_i10 (List.mem_of_getElem? (i := 127) rfl) rfl) (tb_i10 (List.mem_of_getElem? (i := 129) rfl) rfl) (tb_p11 (List.mem_of_getElem? (i := 2) rfl) rfl) tb_y12 ⟨_, _, rfl⟩,
  mm_mr1 tb_k110 (tb_i10 (List.mem_of_getElem? (i := 235) rfl) rfl) (tb_i10 (List.mem_of_getElem? (i := 237) rfl) rfl) (tb_p12 (List.mem_of_getElem? (i := 12) rfl) rfl) tb_y21 ⟨_, _, rfl⟩,
  mm_mr0 tb_k111 (tb_i10 (List.mem_of_getElem? (i := 239) rfl) rfl) (tb_i11 (List.mem_of_getElem? (i := 0) rfl) rfl) tb_y8,
  mm_mr1 tb_k112 (tb_i11 (List.mem_of_getElem? (i := 2) rfl) rfl) (tb_i11 (List.mem_of_getElem? (i := 4) rfl) rfl) (tb_p12 (List.mem_of_getElem? (i := 13) rfl) rfl) tb_y17 ⟨_, _, rfl⟩,
  mm_mr1 tb_k91 (tb_i10 (List.mem_of_getElem? (i := 159) rfl) rfl) (tb_i10 (List.mem_of_getElem? (i := 161) rfl) rfl) (tb_p11 (List.mem_of_getElem? (i := 10) rfl) rfl) tb_y24 ⟨_, _, rfl⟩,
  mm_mr1 tb_k84 (tb_i10 (List.mem_of_getElem? (i := 131) rfl) rfl) (tb_i10 (List.mem_of_getElem? (i := 133) rfl) rfl) (tb_p11 (List.mem_of_getElem? (i := 3) rfl) rfl) tb_y12 ⟨_, _, rfl⟩,
  mm_mr1 tb_k79 (tb_i10 (List.mem_of_getElem? (i := 111) rfl) rfl) (tb_i10 (List.mem_of_getElem? (i := 113) rfl) rfl) (tb_p10 (List.mem_of_getElem? (i := 14) rfl) rfl) tb_y17 ⟨_, _, rfl⟩,
  mm_mr1 tb_k101 (tb_i10 (List.mem_of_getElem? (i := 199) rfl) rfl) (tb_i10 (List.mem_of_getElem? (i := 201) rfl) rfl) (tb_p12 (List.mem_of_getElem? (i := 4) rfl) rfl) tb_y9 ⟨_, _, rfl⟩,
  mm_mr1 tb_k100 (tb_i10 (List.mem_of_getElem? (i := 195) rfl) rfl) (tb_i10 (List.mem_of_getElem? (i := 197) rfl) rfl) (tb_p12 (List.mem_of_getElem? (i := 3) rfl) rfl) tb_y17 ⟨_, _, rfl⟩,
  mm_mr1 tb_k102 (tb_i10 (List.mem_of_getElem? (i := 203) rfl) rfl) (tb_i10 (List.mem_of_getElem? (i := 205) rfl) rfl) (tb_p12 (List.mem_of_getElem? (i := 5) rfl) rfl) tb_y17 ⟨_, _, rfl⟩,
  mm_mr1 tb_k65 (tb_i10 (List.mem_of_getElem? (i := 51) rfl) rfl) (tb_i10 (List.mem_of_getElem? (i := 53) rfl) rfl) (tb_p10 (List.mem_of_getElem? (i := 2) rfl) rfl) tb_y17 ⟨_, _, rfl⟩,
  mm_mr1 tb_k62 (tb_i10 (List.mem_of_getElem? (i := 39) rfl) rfl) (tb_i10 (List.mem_of_getElem? (i := 41) rfl) rfl) (tb_p9 (List.mem_of_getElem? (i := 15) rfl) rfl) tb_y12 ⟨_, _, rfl⟩,
  mm_mr1 tb_k85 (tb_i10 (List.mem_of_getElem? (i := 135) rfl) rfl) (tb_i10 (List.mem_of_getElem? (i := 137) rfl) rfl) (tb_p11 (List.mem_of_getElem? (i := 4) rfl) rfl) tb_y21 ⟨_, _, rfl⟩,
  mm_mr1 tb_k114 (tb_i11 (List.mem_of_getElem? (i := 10) rfl) rfl) (tb_i11 (List.mem_of_getElem? (i := 12) rfl) rfl) (tb_p12 (List.mem_of_getElem? (i := 15) rfl) rfl) tb_y12 ⟨_, _, rfl⟩,
  mm_mr0 tb_k124 (tb_i11 (List.mem_of_getElem? (i := 51) rfl) rfl) (tb_i11 (List.mem_of_getElem? (i := 52) rfl) rfl) tb_y46,
  mm_mr1 tb_k115 (tb_i11 (List.mem_of_getElem? (i := 14) rfl) rfl) (tb_i11 (List.mem_of_getElem? (i := 16) rfl) rfl) (tb_p13 (List.mem_of_getElem? (i := 0) rfl) rfl) tb_y17 ⟨_, _, rfl⟩,
  mm_mr1 tb_k116 (tb_i11 (List.mem_of_getElem? (i := 18) rfl) rfl) (tb_i11 (List.mem_of_getElem? (i := 20) rfl) rfl) (tb_p13 (List.mem_of_getElem? (i := 1) rfl) rfl) tb_y17 ⟨_, _, rfl⟩,
  mm_mr1 tb_k117 (tb_i11 (List.mem_of_getElem? (i := 22) rfl) rfl) (tb_i11 (List.mem_of_getElem? (i := 24) rfl) rfl) (tb_p13 (List.mem_of_getElem? (i := 2) rfl) rfl) tb_y9 ⟨_, _, rfl⟩,
  mm_mr1 tb_k118 (tb_i11 (List.mem_of_getElem? (i := 26) rfl) rfl) (tb_i11 (List.mem_of_getElem? (i := 28) rfl) rfl) (tb_p13 (List.mem_of_getElem? (i := 3) rfl) rfl) tb_y17 ⟨_, _, rfl⟩,
  mm_mr1 tb_k119 (tb_i11 (List.mem_of_getElem? (i := 30) rfl) rfl) (tb_i11 (List.mem_of_getElem? (i := 32) rfl) rfl) (tb_p13 (List.mem_of_getElem? (i := 4) rfl) rfl) tb_y22 ⟨_, _, rfl⟩,
  mm_mr1 tb_k120 (tb_i11 (List.mem_of_getElem? (i := 34) rfl) rfl) (tb_i11 (List.mem_of_getElem? (i := 36) rfl) rfl) (tb_p13 (List.mem_of_getElem? (i := 5) rfl) rfl) tb_y17 ⟨_, _, rfl⟩,
  mm_mr1 tb_k121 (tb_i11 (List.mem_of_getElem? (i := 38) rfl) rfl) (tb_i11 (List.mem_of_getElem? (i := 40) rfl) rfl) (tb_p13 (List.mem_of_getElem? (i := 6) rfl) rfl) tb_y17 ⟨_, _, rfl⟩,
  mm_mr1 tb_k122 (tb_i11 (List.mem_of_getElem? (i := 42) rfl) rfl) (tb_i11 (List.mem_of_getElem? (i := 44) rfl) rfl) (tb_p13 (List.mem_of_getElem? (i := 7) rfl) rfl) tb_y17 ⟨_, _, rfl⟩,
  mm_mr1 tb_k127 (tb_i11 (List.mem_of_getElem? (i := 62) rfl) rfl) (tb_i11 (List.mem_of_getElem? (i := 64) rfl) rfl) (tb_p13 (List.mem_of_getElem? (i := 8) rfl) rfl) tb_y14 ⟨_, _, rfl⟩,
  mm_mr1 tb_k128 (tb_i11 (List.mem_of_getElem? (i := 66) rfl) rfl) (tb_i11 (List.mem_of_getElem? (i := 68) rfl) rfl) (tb_p13 (List.mem_of_getElem? (i := 9) rfl) rfl) tb_y16 ⟨_, _, rfl⟩,
  mm_mr0 tb_k130 (tb_i11 (List.mem_of_getElem? (i := 74) rfl) rfl) (tb_i11 (List.mem_of_getElem? (i := 75) rfl) rfl) tb_y13,
  mm_mr0 tb_k131 (tb_i11 (List.mem_of_getElem? (i := 77) rfl) rfl) (tb_i11 (List.mem_of_getElem? (i := 78) rfl) rfl) tb_y13,
  mm_mr1 tb_k134 (tb_i11 (List.mem_of_getElem? (i := 89) rfl) rfl) (tb_i11 (List.mem_of_getElem? (i := 91) rfl) rfl) (tb_p13 (List.mem_of_getElem? (i := 10) rfl) rfl) tb_y19 ⟨_, _, rfl⟩,
  mm_mr1 tb_k140 (tb_i11 (List.mem_of_getElem? (i := 115) rfl) rfl) (tb_i11 (List.mem_of_getElem? (i := 117) rfl) rfl) (tb_p13 (List.mem_of_getElem? (i := 13) rfl) rfl) tb_y29 ⟨_, _, rfl⟩,
  mm_mr0 tb_k141 (tb_i11 (List.mem_of_getElem? (i := 119) rfl) rfl) (tb_i11 (List.mem_of_getElem? (i := 120) rfl) rfl) tb_y44,
  mm_mr1 tb_k139 (tb_i11 (List.mem_of_getElem? (i := 111) rfl) rfl) (tb_i11 (List.mem_of_getElem? (i := 113) rfl) rfl) (tb_p13 (List.mem_of_getElem? (i := 12) rfl) rfl) tb_y28 ⟨_, _, rfl⟩,
  mm_mr1 tb_k145 (tb_i11 (List.mem_of_getElem? (i := 134) rfl) rfl) (tb_i11 (List.mem_of_getElem? (i := 136) rfl) rfl) (tb_p14 (List.mem_of_getElem? (i := 1) rfl) rfl) tb_y1 ⟨_, _, rfl⟩,
  mm_mr1 tb_k144 (tb_i11 (List.mem_of_getElem? (i := 130) rfl) rfl) (tb_i11 (List.mem_of_getElem? (i := 132) rfl) rfl) (tb_p14 (List.mem_of_getElem? (i := 0) rfl) rfl) tb_y12 ⟨_, _, rfl⟩,
  mm_mr0 tb_k364 (tb_i11 (List.mem_of_getElem? (i := 155) rfl) rfl) (tb_i1 (List.mem_of_getElem? (i := 139) rfl) rfl) tb_y15,
  mm_mr1 tb_k146 (tb_i11 (List.mem_of_getElem? (i := 138) rfl) rfl) (tb_i11 (List.mem_of_getElem? (i := 140) rfl) rfl) (tb_p14 (List.mem_of_getElem? (i := 2) rfl) rfl) tb_y9 ⟨_, _, rfl⟩,
  mm_mr0 tb_k369 (tb_i11 (List.mem_of_getElem? (i := 142) rfl) rfl) (tb_i7 (List.mem_of_getElem? (i := 46) rfl) rfl) tb_y15,
  mm_mr1 tb_k147 (tb_i11 (List.mem_of_getElem? (i := 143) rfl) rfl) (tb_i11 (List.mem_of_getElem? (i := 145) rfl) rfl) (tb_p14 (List.mem_of_getElem? (i := 3) rfl) rfl) tb_y1 ⟨_, _, rfl⟩,
  mm_mr1 tb_k148 (tb_i11 (List.mem_of_getElem? (i := 147) rfl) rfl) (tb_i11 (List.mem_of_getElem? (i := 149) rfl) rfl) (tb_p14 (List.mem_of_getElem? (i := 4) rfl) rfl) tb_y9 ⟨_, _, rfl⟩,
  mm_mr1 tb_k149 (tb_i11 (List.mem_of_getElem? (i := 151) rfl) rfl) (tb_i11 (List.mem_of_getElem? (i := 153) rfl) rfl) (tb_p14 (List.mem_of_getElem? (i := 5) rfl) rfl) tb_y9 ⟨_, _, rfl⟩,
  mm_mr1 tb_k138 (tb_i11 (List.mem_of_getElem? (i := 107) rfl) rfl) (tb_i11 (List.mem_of_getElem? (i := 109) rfl) rfl) (tb_p13 (List.mem_of_getElem? (i := 11) rfl) rfl) tb_y14 ⟨_, _, rfl⟩,
  mm_mr1 tb_k142 (tb_i11 (List.mem_of_getElem? (i := 122) rfl) rfl) (tb_i11 (List.mem_of_getElem? (i := 124) rfl) rfl) (tb_p13 (List.mem_of_getElem? (i := 14) rfl) rfl) tb_y12 ⟨_, _, rfl⟩,
  mm_mr1 tb_k143 (tb_i11 (List.mem_of_getElem? (i := 126) rfl) rfl) (tb_i11 (List.mem_of_getElem? (i := 128) rfl) rfl) (tb_p13 (List.mem_of_getElem? (i := 15) rfl) rfl) tb_y9 ⟨_, _, rfl⟩,
  mm_mr0 tb_k365 (tb_i11 (List.mem_of_getElem? (i := 165) rfl) rfl) (tb_i2 (List.mem_of_getElem? (i := 176) rfl) rfl) tb_y15,
  mm_mr0 tb_k153 (tb_i11 (List.mem_of_getElem? (i := 170) rfl) rfl) (tb_i11 (List.mem_of_getElem? (i := 171) rfl) rfl) tb_y25,
  mm_mr0 tb_k154 (tb_i11 (List.mem_of_getElem? (i := 175) rfl) rfl) (tb_i11 (List.mem_of_getElem? (i := 176) rfl) rfl) tb_y80,
  trivial⟩
set_option maxRecDepth 20000 in
theorem tb_ml_13 : mm_allL (fun q => (fun (o i : Nat) (v : Nat × Nat × Nat) => mm_mR tb_P tb_TB tb_cl tb_cn tb_ky tb_kb tb_hs o i v) 13 q.1 q.2) ((tb_ML[13]?).getD []) := trivial
set_option maxRecDepth 20000 in
theorem tb_ml_14 : mm_allL (fun q => (fun (o i : Nat) (v : Nat × Nat × Nat) => mm_mR tb_P tb_TB tb_cl tb_cn tb_ky tb_kb tb_hs o i v) 14 q.1 q.2) ((tb_ML[14]?).getD []) := trivial
set_option maxRecDepth 20000 in
theorem tb_ml_15 : mm_allL (fun q => (fun (o i : Nat) (v : Nat × Nat × Nat) => mm_mR tb_P tb_TB tb_cl tb_cn tb_ky tb_kb tb_hs o i v) 15 q.1 q.2) ((tb_ML[15]?).getD []) := ⟨mm_mr1 tb_k167 (tb_i6 (List.mem_of_getElem? (i := 40) rfl) rfl) (tb_i6 (List.mem_of_getElem? (i := 41) rfl) rfl) (tb_i6 (List.mem_of_getElem? (i := 42) rfl) rfl) tb_y27 ⟨_, _, rfl⟩,
  mm_mr1 tb_k169 (tb_i6 (List.mem_of_getElem? (i := 58) rfl) rfl) (tb_i6 (List.mem_of_getElem? (i := 59) rfl) rfl) (tb_i6 (List.mem_of_getElem? (i := 60) rfl) rfl) tb_y9 ⟨_, _, rfl⟩,
  mm_mr1 tb_k170 (tb_i6 (List.mem_of_getElem? (i := 85) rfl) rfl) (tb_i6 (List.mem_of_getElem? (i := 86) rfl) rfl) (tb_i6 (List.mem_of_getElem? (i := 87) rfl) rfl) tb_y16 ⟨_, _, rfl⟩,
  mm_mr1 tb_k171 (tb_i6 (List.mem_of_getElem? (i := 101) rfl) rfl) (tb_i6 (List.mem_of_getElem? (i := 102) rfl) rfl) (tb_i6 (List.mem_of_getElem? (i := 103) rfl) rfl) tb_y20 ⟨_, _, rfl⟩,
  mm_mr1 tb_k173 (tb_i6 (List.mem_of_getElem? (i := 118) rfl) rfl) (tb_i6 (List.mem_of_getElem? (i := 119) rfl) rfl) (tb_i6 (List.mem_of_getElem? (i := 120) rfl) rfl) tb_y17 ⟨_, _, rfl⟩,
  mm_mr1 tb_k176 (tb_i6 (List.mem_of_getElem? (i := 139) rfl) rfl) (tb_i6 (List.mem_of_getElem? (i := 140) rfl) rfl) (tb_i6 (List.mem_of_getElem? (i := 141) rfl) rfl) tb_y17 ⟨_, _, rfl⟩,
  mm_mr1 tb_k177 (tb_i6 (List.mem_of_getElem? (i := 151) rfl) rfl) (tb_i6 (List.mem_of_getElem? (i := 152) rfl) rfl) (tb_i6 (List.mem_of_getElem? (i := 153) rfl) rfl) tb_y21 ⟨_, _, rfl⟩,
  mm_mr1 tb_k178 (tb_i6 (List.mem_of_getElem? (i := 172) rfl) rfl) (tb_i6 (List.mem_of_getElem? (i := 173) rfl) rfl) (tb_i6 (List.mem_of_getElem? (i := 174) rfl) rfl) tb_y16 ⟨_, _, rfl⟩,
  mm_mr1 tb_k179 (tb_i6 (List.mem_of_getElem? (i := 188) rfl) rfl) (tb_i6 (List.mem_of_getElem? (i := 189) rfl) rfl) (tb_i6 (List.mem_of_getElem? (i := 190) rfl) rfl) tb_y16 ⟨_, _, rfl⟩,
  mm_mr1 tb_k180 (tb_i6 (List.mem_of_getElem? (i := 200) rfl) rfl) (tb_i6 (List.mem_of_getElem? (i := 201) rfl) rfl) (tb_i6 (List.mem_of_getElem? (i := 202) rfl) rfl) tb_y20 ⟨_, _, rfl⟩,
  mm_mr1 tb_k181 (tb_i7 (List.mem_of_getElem? (i := 90) rfl) rfl) (tb_i7 (List.mem_of_getElem? (i := 91) rfl) rfl) (tb_i7 (List.mem_of_getElem? (i := 92) rfl) rfl) tb_y9 ⟨_, _, rfl⟩,
  mm_mr1 tb_k182 (tb_i7 (List.mem_of_getElem? (i := 102) rfl) rfl) (tb_i7 (List.mem_of_getElem? (i := 103) rfl) rfl) (tb_i7 (List.mem_of_getElem? (i := 104) rfl) rfl) tb_y23 ⟨_, _, rfl⟩,
  mm_mr1 tb_k185 (tb_i7 (List.mem_of_getElem? (i := 123) rfl) rfl) (tb_i7 (List.mem_of_getElem? (i := 124) rfl) rfl) (tb_i7 (List.mem_of_getElem? (i := 125) rfl) rfl) tb_y26 ⟨_, _, rfl⟩,
  mm_mr2 tb_k157 (tb_i1 (List.mem_of_getElem? (i := 29) rfl) rfl) (tb_i1 (List.mem_of_getElem? (i := 30) rfl) rfl) rfl rfl (tb_i1 (List.mem_of_getElem? (i := 31) rfl) rfl) tb_y4,
  mm_mr2 tb_k14 (tb_i7 (List.mem_of_getElem? (i := 133) rfl) rfl) (tb_i7 (List.mem_of_getElem? (i := 134) rfl) rfl) rfl rfl (tb_i7 (List.mem_of_getElem? (i := 135) rfl) rfl) tb_y4,
  mm_mr0 tb_k1 (tb_i6 (List.mem_of_getElem? (i := 36) rfl) rfl) (tb_i6 (List.mem_of_getElem? (i := 37) rfl) rfl) tb_y69,
  mm_mr1 tb_k16 (tb_i9 (List.mem_of_getElem? (i := 97) rfl) rfl) (tb_i9 (List.mem_of_getElem? (i := 98) rfl) rfl) (tb_i9 (List.mem_of_getElem? (i := 99) rfl) rfl) tb_y27 ⟨_, _, rfl⟩,
  mm_mr1 tb_k15 (tb_i9 (List.mem_of_getElem? (i := 93) rfl) rfl) (tb_i9 (List.mem_of_getElem? (i := 94) rfl) rfl) (tb_i9 (List.mem_of_getElem? (i := 95) rfl) rfl) tb_y1 ⟨_, _, rfl⟩,
  mm_mr1 tb_k158 (tb_i2 (List.mem_of_getElem? (i := 163) rfl) rfl) (tb_i2 (List.mem_of_getElem? (i := 164) rfl) rfl) (tb_i2 (List.mem_of_getElem? (i := 165) rfl) rfl) tb_y1 ⟨_, _, rfl⟩,
  mm_mr1 tb_k19 (tb_i9 (List.mem_of_getElem? (i := 109) rfl) rfl) (tb_i9 (List.mem_of_getElem? (i := 110) rfl) rfl) (tb_i9 (List.mem_of_getElem? (i := 111) rfl) rfl) tb_y1 ⟨_, _, rfl⟩,
  mm_mr1 tb_k159 (tb_i2 (List.mem_of_getElem? (i := 167) rfl) rfl) (tb_i2 (List.mem_of_getElem? (i := 168) rfl) rfl) (tb_i2 (List.mem_of_getElem? (i := 169) rfl) rfl) tb_y1 ⟨_, _, rfl⟩,
  mm_mr1 tb_k20 (tb_i9 (List.mem_of_getElem? (i := 113) rfl) rfl) (tb_i9 (List.mem_of_getElem? (i := 114) rfl) rfl) (tb_i9 (List.mem_of_getElem? (i := 115) rfl) rfl) tb_y1 ⟨_, _, rfl⟩,
  mm_mr1 tb_k162 (tb_i4 (List.mem_of_getElem? (i := 118) rfl) rfl) (tb_i4 (List.mem_of_getElem? (i := 119) rfl) rfl) (tb_i4 (List.mem_of_getElem? (i := 120) rfl) rfl) tb_y1 ⟨_, _, rfl⟩,
  mm_mr1 tb_k59 (tb_i10 (List.mem_of_getElem? (i := 27) rfl) rfl) (tb_i10 (List.mem_of_getElem? (i := 28) rfl) rfl) (tb_i10 (List.mem_of_getElem? (i := 29) rfl) rfl) tb_y1 ⟨_, _, rfl⟩,
  mm_mr1 tb_k163 (tb_i4 (List.mem_of_getElem? (i := 122) rfl) rfl) (tb_i4 (List.mem_of_getElem? (i := 123) rfl) rfl) (tb_i4 (List.mem_of_getElem? (i := 124) rfl) rfl) tb_y1 ⟨_, _, rfl⟩,
  mm_mr1 tb_k61 (tb_i10 (List.mem_of_getElem? (i := 35) rfl) rfl) (tb_i10 (List.mem_of_getElem? (i := 36) rfl) rfl) (tb_i10 (List.mem_of_getElem? (i := 37) rfl) rfl) tb_y1 ⟨_, _, rfl⟩,
  mm_mr1 tb_k164 (tb_i6 (List.mem_of_getElem? (i := 8) rfl) rfl) (tb_i6 (List.mem_of_getElem? (i := 9) rfl) rfl) (tb_i6 (List.mem_of_getElem? (i := 10) rfl) rfl) tb_y1 ⟨_, _, rfl⟩,
  mm_mr1 tb_k60 (tb_i10 (List.mem_of_getElem? (i := 31) rfl) rfl) (tb_i10 (List.mem_of_getElem? (i := 32) rfl) rfl) (tb_i10 (List.mem_of_getElem? (i := 33) rfl) rfl) tb_y1 ⟨_, _, rfl⟩,
  mm_mr0 tb_k2 (tb_i6 (List.mem_of_getElem? (i := 54) rfl) rfl) (tb_i6 (List.mem_of_getElem? (i := 55) rfl) rfl) tb_y73,
  mm_mr1 tb_k123 (tb_i11 (List.mem_of_getElem? (i := 46) rfl) rfl) (tb_i11 (List.mem_of_getElem? (i := 47) rfl) rfl) (tb_i11 (List.mem_of_getElem? (i := 48) rfl) rfl) tb_y9 ⟨_, _, rfl⟩,
  mm_mr0 tb_k3 (tb_i6 (List.mem_of_getElem? (i := 82) rfl) rfl) (tb_i6 (List.mem_of_getElem? (i := 83) rfl) rfl) tb_y72,
  mm_mr1 tb_k125 (tb_i11 (List.mem_of_getElem? (i := 54) rfl) rfl) (tb_i11 (List.mem_of_getElem? (i := 55) rfl) rfl) (tb_i11 (List.mem_of_getElem? (i := 56) rfl) rfl) tb_y16 ⟨_, _, rfl⟩,
  mm_mr0 tb_k4 (tb_i6 (List.mem_of_getElem? (i := 98) rfl) rfl) (tb_i6 (List.mem_of_getElem? (i := 99) rfl) rfl) tb_y71,
  mm_mr1 tb_k126 (tb_i11 (List.mem_of_getElem? (i := 58) rfl) rfl) (tb_i11 (List.mem_of_getElem? (i := 59) rfl) rfl) (tb_i11 (List.mem_of_getElem? (i := 60) rfl) rfl) tb_y20 ⟨_, _, rfl⟩,
  mm_mr0 tb_k5 (tb_i6 (List.mem_of_getElem? (i := 115) rfl) rfl) (tb_i6 (List.mem_of_getElem? (i := 116) rfl) rfl) tb_y67,
  mm_mr1 tb_k129 (tb_i11 (List.mem_of_getElem? (i := 70) rfl) rfl) (tb_i11 (List.mem_of_getElem? (i := 71) rfl) rfl) (tb_i11 (List.mem_of_getElem? (i := 72) rfl) rfl) tb_y17 ⟨_, _, rfl⟩,
  mm_mr0 tb_k6 (tb_i6 (List.mem_of_getElem? (i := 136) rfl) rfl) (tb_i6 (List.mem_of_getElem? (i := 137) rfl) rfl) tb_y67,
  mm_mr1 tb_k132 (tb_i11 (List.mem_of_getElem? (i := 80) rfl) rfl) (tb_i11 (List.mem_of_getElem? (i := 81) rfl) rfl) (tb_i11 (List.mem_of_getElem? (i := 82) rfl) rfl) tb_y17 ⟨_, _, rfl⟩,
  mm_mr0 tb_k7 (tb_i6 (List.mem_of_getElem? (i := 148) rfl) rfl) (tb_i6 (List.mem_of_getElem? (i := 149) rfl) rfl) tb_y68,
  mm_mr1 tb_k133 (tb_i11 (List.mem_of_getElem? (i := 85) rfl) rfl) (tb_i11 (List.mem_of_getElem? (i := 86) rfl) rfl) (tb_i11 (List.mem_of_getElem? (i := 87) rfl) rfl) tb_y21 ⟨_, _, rfl⟩,
  mm_mr0 tb_k8 (tb_i6 (List.mem_of_getElem? (i := 169) rfl) rfl) (tb_i6 (List.mem_of_getElem? (i := 170) rfl) rfl) tb_y72,
  mm_mr1 tb_k135 (tb_i11 (List.mem_of_getElem? (i := 93) rfl) rfl) (tb_i11 (List.mem_of_getElem? (i := 94) rfl) rfl) (tb_i11 (List.mem_of_getElem? (i := 95) rfl) rfl) tb_y16 ⟨_, _, rfl⟩,
  mm_mr0 tb_k9 (tb_i6 (List.mem_of_getElem? (i := 185) rfl) rfl) (tb_i6 (List.mem_of_getElem? (i := 186) rfl) rfl) tb_y72,
  mm_mr1 tb_k136 (tb_i11 (List.mem_of_getElem? (i := 97) rfl) rfl) (tb_i11 (List.mem_of_getElem? (i := 98) rfl) rfl) (tb_i11 (List.mem_of_getElem? (i := 99) rfl) rfl) tb_y16 ⟨_, _, rfl⟩,
  mm_mr0 tb_k10 (tb_i6 (List.mem_of_getElem? (i := 197) rfl) rfl) (tb_i6 (List.mem_of_getElem? (i := 198) rfl) rfl) tb_y71,
  mm_mr1 tb_k137 (tb_i11 (List.mem_of_getElem? (i := 102) rfl) rfl) (tb_i11 (List.mem_of_getElem? (i := 103) rfl) rfl) (tb_i11 (List.mem_of_getElem? (i := 104) rfl) rfl) tb_y20 ⟨_, _, rfl⟩,
  mm_mr0 tb_k11 (tb_i7 (List.mem_of_getElem? (i := 87) rfl) rfl) (tb_i7 (List.mem_of_getElem? (i := 88) rfl) rfl) tb_y73,
  mm_mr1 tb_k150 (tb_i11 (List.mem_of_getElem? (i := 156) rfl) rfl) (tb_i11 (List.mem_of_getElem? (i := 157) rfl) rfl) (tb_i11 (List.mem_of_getElem? (i := 158) rfl) rfl) tb_y9 ⟨_, _, rfl⟩,
  mm_mr1 tb_k165 (tb_i6 (List.mem_of_getElem? (i := 12) rfl) rfl) (tb_i6 (List.mem_of_getElem? (i := 13) rfl) rfl) (tb_i6 (List.mem_of_getElem? (i := 14) rfl) rfl) tb_y38 ⟨_, _, rfl⟩,
  mm_mr1 tb_k151 (tb_i11 (List.mem_of_getElem? (i := 161) rfl) rfl) (tb_i11 (List.mem_of_getElem? (i := 162) rfl) rfl) (tb_i11 (List.mem_of_getElem? (i := 163) rfl) rfl) tb_y38 ⟨_, _, rfl⟩,
  mm_mr0 tb_k12 (tb_i7 (List.mem_of_getElem? (i := 99) rfl) rfl) (tb_i7 (List.mem_of_getElem? (i := 100) rfl) rfl) tb_y70,
  mm_mr1 tb_k152 (tb_i11 (List.mem_of_getElem? (i := 166) rfl) rfl) (tb_i11 (List.mem_of_getElem? (i := 167) rfl) rfl) (tb_i11 (List.mem_of_getElem? (i := 168) rfl) rfl) tb_y23 ⟨_, _, rfl⟩,
  mm_mr0 tb_k13 (tb_i7 (List.mem_of_getElem? (i := 120) rfl) rfl) (tb_i7 (List.mem_of_getElem? (i := 121) rfl) rfl) tb_y70,
  mm_mr1 tb_k155 (tb_i11 (List.mem_of_getElem? (i := 178) rfl) rfl) (tb_i11 (List.mem_of_getElem? (i := 179) rfl) rfl) (tb_i11 (List.mem_of_getElem? (i := 180) rfl) rfl) tb_y26 ⟨_, _, rfl⟩,
  mm_mr1 tb_k166 (tb_i6 (List.mem_of_getElem? (i := 32) rfl) rfl) (tb_i6 (List.mem_of_getElem? (i := 33) rfl) rfl) (tb_i6 (List.mem_of_getElem? (i := 34) rfl) rfl) tb_y1 ⟨_, _, rfl⟩,
  mm_mr1 tb_k156 (tb_i11 (List.mem_of_getElem? (i := 182) rfl) rfl) (tb_i11 (List.mem_of_getElem? (i := 183) rfl) rfl) (tb_i11 (List.mem_of_getElem? (i := 184) rfl) rfl) tb_y1 ⟨_, _, rfl⟩,
  trivial⟩
set_option maxRecDepth 20000 in
theorem tb_ml_16 : mm_allL (fun q => (fun (o i : Nat) (v : Nat × Nat × Nat) => mm_mR tb_P tb_TB tb_cl tb_cn tb_ky tb_kb tb_hs o i v) 16 q.1 q.2) ((tb_ML[16]?).getD []) := trivial
set_option maxRecDepth 20000 in
theorem tb_ml_17 : mm_allL (fun q => (fun (o i : Nat) (v : Nat × Nat × Nat) => mm_mR tb_P tb_TB tb_cl tb_cn tb_ky tb_kb tb_hs o i v) 17 q.1 q.2) ((tb_ML[17]?).getD []) := trivial
set_option maxRecDepth 20000 in
theorem tb_ml_18 : mm_allL (fun q => (fun (o i : Nat) (v : Nat × Nat × Nat) => mm_mR tb_P tb_TB tb_cl tb_cn tb_ky tb_kb tb_hs o i v) 18 q.1 q.2) ((tb_ML[18]?).getD []) := ⟨mm_mr7 tb_k376 (tb_i3 (List.mem_of_getElem? (i := 67) rfl) rfl) (tb_i3 (List.mem_of_getElem? (i := 68) rfl) rfl) (tb_i3 (List.mem_of_getElem? (i := 69) rfl) rfl) tb_y0 rfl,
  mm_mr7 tb_k374 (tb_i3 (List.mem_of_getElem? (i := 57) rfl) rfl) (tb_i3 (List.mem_of_getElem? (i := 58) rfl) rfl) (tb_i3 (List.mem_of_getElem? (i := 59) rfl) rfl) tb_y5 rfl,
  mm_mr7 tb_k375 (tb_i3 (List.mem_of_getElem? (i := 63) rfl) rfl) (tb_i3 (List.mem_of_getElem? (i := 64) rfl) rfl) (tb_i3 (List.mem_of_getElem? (i := 65) rfl) rfl) tb_y1 rfl,
  mm_mr7 tb_k373 (tb_i3 (List.mem_of_getElem? (i := 53) rfl) rfl) (tb_i3 (List.mem_of_getElem? (i := 54) rfl) rfl) (tb_i3 (List.mem_of_getElem? (i := 55) rfl) rfl) tb_y16 rfl,
  mm_mr0 tb_k377 (tb_i3 (List.mem_of_getElem? (i := 71) rfl) rfl) (tb_i3 (List.mem_of_getElem? (i := 72) rfl) rfl) tb_y75,
  trivial⟩
set_option maxRecDepth 20000 in
theorem tb_ml_19 : mm_allL (fun q => (fun (o i : Nat) (v : Nat × Nat × Nat) => mm_mR tb_P tb_TB tb_cl tb_cn tb_ky tb_kb tb_hs o i v) 19 q.1 q.2) ((tb_ML[19]?).getD []) := ⟨mm_mr0 tb_k365 (tb_i3 (List.mem_of_getElem? (i := 78) rfl) rfl) (tb_i2 (List.mem_of_getElem? (i := 176) rfl) rfl) tb_y15,
  mm_mr0 tb_k378 (tb_i3 (List.mem_of_getElem? (i := 74) rfl) rfl) (tb_i3 (List.mem_of_getElem? (i := 75) rfl) rfl) tb_y13,
  mm_mr0 tb_k364 (tb_i3 (List.mem_of_getElem? (i := 77) rfl) rfl) (tb_i1 (List.mem_of_getElem? (i := 139) rfl) rfl) tb_y15,
  mm_mr0 tb_k379 (tb_i3 (List.mem_of_getElem? (i := 79) rfl) rfl) (tb_i3 (List.mem_of_getElem? (i := 80) rfl) rfl) tb_y75,
  trivial⟩
set_option maxRecDepth 20000 in
theorem tb_ml_all : mm_all2P (fun (o i : Nat) (v : Nat × Nat × Nat) => mm_mR tb_P tb_TB tb_cl tb_cn tb_ky tb_kb tb_hs o i v) 0 tb_ML := ⟨tb_ml_0, tb_ml_1, tb_ml_2, tb_ml_3, tb_ml_4, tb_ml_5, tb_ml_6, tb_ml_7, tb_ml_8, tb_ml_9, tb_ml_10, tb_ml_11, tb_ml_12, tb_ml_13, tb_ml_14, tb_ml_15, tb_ml_16, tb_ml_17, tb_ml_18, tb_ml_19, trivial⟩
def tb_names2 : List String := ["java/lang/RuntimeException", "java/lang/Exception"]
set_option maxRecDepth 20000 in
theorem tb_x0 : mm_allL (fun w => w ∈ tb_TB ∨ w = .isRef (.static Bundle.tN "UNASSIGNED_STACK" Bundle.steD) ∨ w = .isRef (.static Bundle.tN "SUPPRESSED_SENTINEL" Bundle.listD)) (Bundle.ownAtoms "IndexedCompiler" 95 "java/lang/IllegalStateException" tb_names2) := ⟨Or.inl (tb_i1 (List.mem_of_getElem? (i := 13) rfl) rfl),
  Or.inl (tb_i3 (List.mem_of_getElem? (i := 168) rfl) rfl),
  Or.inl (tb_i3 (List.mem_of_getElem? (i := 177) rfl) rfl),
  Or.inl (tb_i3 (List.mem_of_getElem? (i := 180) rfl) rfl),
  Or.inl (tb_i3 (List.mem_of_getElem? (i := 183) rfl) rfl),
  Or.inl (tb_i3 (List.mem_of_getElem? (i := 185) rfl) rfl),
  Or.inl (tb_i3 (List.mem_of_getElem? (i := 169) rfl) rfl),
  Or.inl (tb_i3 (List.mem_of_getElem? (i := 170) rfl) rfl),
  Or.inl (tb_i1 (List.mem_of_getElem? (i := 33) rfl) rfl),
  Or.inl (tb_i1 (List.mem_of_getElem? (i := 34) rfl) rfl),
  Or.inl (tb_i3 (List.mem_of_getElem? (i := 171) rfl) rfl),
  Or.inl (tb_i3 (List.mem_of_getElem? (i := 176) rfl) rfl),
  Or.inl (tb_i3 (List.mem_of_getElem? (i := 181) rfl) rfl),
  Or.inl (tb_i3 (List.mem_of_getElem? (i := 201) rfl) rfl),
  Or.inl (tb_i3 (List.mem_of_getElem? (i := 158) rfl) rfl),
  Or.inl (tb_i3 (List.mem_of_getElem? (i := 202) rfl) rfl),
  Or.inl (tb_i3 (List.mem_of_getElem? (i := 160) rfl) rfl),
  Or.inl (tb_i3 (List.mem_of_getElem? (i := 203) rfl) rfl),
  Or.inl (tb_i3 (List.mem_of_getElem? (i := 162) rfl) rfl),
  Or.inl (tb_i3 (List.mem_of_getElem? (i := 172) rfl) rfl),
  Or.inl (tb_i3 (List.mem_of_getElem? (i := 173) rfl) rfl),
  Or.inl (tb_i3 (List.mem_of_getElem? (i := 174) rfl) rfl),
  Or.inl (tb_i3 (List.mem_of_getElem? (i := 175) rfl) rfl),
  Or.inl (tb_i3 (List.mem_of_getElem? (i := 164) rfl) rfl),
  Or.inl (tb_i3 (List.mem_of_getElem? (i := 197) rfl) rfl),
  Or.inl (tb_i3 (List.mem_of_getElem? (i := 198) rfl) rfl),
  Or.inl (tb_i3 (List.mem_of_getElem? (i := 200) rfl) rfl),
  Or.inl (tb_i3 (List.mem_of_getElem? (i := 164) rfl) rfl),
  Or.inl (tb_i3 (List.mem_of_getElem? (i := 188) rfl) rfl),
  Or.inl (tb_i3 (List.mem_of_getElem? (i := 189) rfl) rfl),
  Or.inl (tb_i3 (List.mem_of_getElem? (i := 190) rfl) rfl),
  Or.inl (tb_i3 (List.mem_of_getElem? (i := 191) rfl) rfl),
  Or.inl (tb_i3 (List.mem_of_getElem? (i := 150) rfl) rfl),
  Or.inl (tb_i3 (List.mem_of_getElem? (i := 191) rfl) rfl),
  Or.inl (tb_i3 (List.mem_of_getElem? (i := 192) rfl) rfl),
  Or.inl (tb_i3 (List.mem_of_getElem? (i := 193) rfl) rfl),
  Or.inl (tb_i3 (List.mem_of_getElem? (i := 194) rfl) rfl),
  Or.inl (tb_i3 (List.mem_of_getElem? (i := 152) rfl) rfl),
  Or.inl (tb_i3 (List.mem_of_getElem? (i := 194) rfl) rfl),
  Or.inl (tb_i3 (List.mem_of_getElem? (i := 195) rfl) rfl),
  Or.inl (tb_i3 (List.mem_of_getElem? (i := 196) rfl) rfl),
  Or.inl (tb_i3 (List.mem_of_getElem? (i := 197) rfl) rfl),
  Or.inl (tb_i3 (List.mem_of_getElem? (i := 154) rfl) rfl),
  Or.inl (tb_i6 (List.mem_of_getElem? (i := 49) rfl) rfl),
  Or.inl (tb_i3 (List.mem_of_getElem? (i := 147) rfl) rfl),
  Or.inl (tb_i3 (List.mem_of_getElem? (i := 148) rfl) rfl),
  Or.inl (tb_i3 (List.mem_of_getElem? (i := 155) rfl) rfl),
  Or.inl (tb_i3 (List.mem_of_getElem? (i := 156) rfl) rfl),
  Or.inl (tb_i3 (List.mem_of_getElem? (i := 157) rfl) rfl),
  Or.inl (tb_i3 (List.mem_of_getElem? (i := 159) rfl) rfl),
  Or.inl (tb_i3 (List.mem_of_getElem? (i := 161) rfl) rfl),
  Or.inl (tb_i3 (List.mem_of_getElem? (i := 163) rfl) rfl),
  Or.inr (Or.inl rfl),
  Or.inr (Or.inr rfl),
  Or.inl (tb_i3 (List.mem_of_getElem? (i := 167) rfl) rfl),
  Or.inl (tb_i3 (List.mem_of_getElem? (i := 166) rfl) rfl),
  Or.inl (tb_i3 (List.mem_of_getElem? (i := 165) rfl) rfl), trivial⟩
set_option maxRecDepth 20000 in
theorem tb_x1 : mm_allL (fun w => w ∈ tb_TB ∨ w = .isRef (.static Bundle.tN "UNASSIGNED_STACK" Bundle.steD) ∨ w = .isRef (.static Bundle.tN "SUPPRESSED_SENTINEL" Bundle.listD)) (Bundle.ownAtoms "IndexedCompiler" 133 "java/lang/IllegalArgumentException" tb_names2) := ⟨Or.inl (tb_i1 (List.mem_of_getElem? (i := 13) rfl) rfl),
  Or.inl (tb_i3 (List.mem_of_getElem? (i := 168) rfl) rfl),
  Or.inl (tb_i3 (List.mem_of_getElem? (i := 177) rfl) rfl),
  Or.inl (tb_i3 (List.mem_of_getElem? (i := 180) rfl) rfl),
  Or.inl (tb_i3 (List.mem_of_getElem? (i := 183) rfl) rfl),
  Or.inl (tb_i3 (List.mem_of_getElem? (i := 185) rfl) rfl),
  Or.inl (tb_i3 (List.mem_of_getElem? (i := 169) rfl) rfl),
  Or.inl (tb_i3 (List.mem_of_getElem? (i := 170) rfl) rfl),
  Or.inl (tb_i1 (List.mem_of_getElem? (i := 33) rfl) rfl),
  Or.inl (tb_i1 (List.mem_of_getElem? (i := 34) rfl) rfl),
  Or.inl (tb_i3 (List.mem_of_getElem? (i := 171) rfl) rfl),
  Or.inl (tb_i3 (List.mem_of_getElem? (i := 176) rfl) rfl),
  Or.inl (tb_i3 (List.mem_of_getElem? (i := 181) rfl) rfl),
  Or.inl (tb_i3 (List.mem_of_getElem? (i := 201) rfl) rfl),
  Or.inl (tb_i3 (List.mem_of_getElem? (i := 158) rfl) rfl),
  Or.inl (tb_i3 (List.mem_of_getElem? (i := 202) rfl) rfl),
  Or.inl (tb_i3 (List.mem_of_getElem? (i := 160) rfl) rfl),
  Or.inl (tb_i3 (List.mem_of_getElem? (i := 203) rfl) rfl),
  Or.inl (tb_i3 (List.mem_of_getElem? (i := 162) rfl) rfl),
  Or.inl (tb_i3 (List.mem_of_getElem? (i := 172) rfl) rfl),
  Or.inl (tb_i3 (List.mem_of_getElem? (i := 173) rfl) rfl),
  Or.inl (tb_i3 (List.mem_of_getElem? (i := 174) rfl) rfl),
  Or.inl (tb_i3 (List.mem_of_getElem? (i := 175) rfl) rfl),
  Or.inl (tb_i3 (List.mem_of_getElem? (i := 164) rfl) rfl),
  Or.inl (tb_i3 (List.mem_of_getElem? (i := 197) rfl) rfl),
  Or.inl (tb_i3 (List.mem_of_getElem? (i := 198) rfl) rfl),
  Or.inl (tb_i3 (List.mem_of_getElem? (i := 200) rfl) rfl),
  Or.inl (tb_i3 (List.mem_of_getElem? (i := 164) rfl) rfl),
  Or.inl (tb_i6 (List.mem_of_getElem? (i := 73) rfl) rfl),
  Or.inl (tb_i6 (List.mem_of_getElem? (i := 74) rfl) rfl),
  Or.inl (tb_i6 (List.mem_of_getElem? (i := 75) rfl) rfl),
  Or.inl (tb_i3 (List.mem_of_getElem? (i := 191) rfl) rfl),
  Or.inl (tb_i3 (List.mem_of_getElem? (i := 150) rfl) rfl),
  Or.inl (tb_i3 (List.mem_of_getElem? (i := 191) rfl) rfl),
  Or.inl (tb_i3 (List.mem_of_getElem? (i := 192) rfl) rfl),
  Or.inl (tb_i3 (List.mem_of_getElem? (i := 193) rfl) rfl),
  Or.inl (tb_i3 (List.mem_of_getElem? (i := 194) rfl) rfl),
  Or.inl (tb_i3 (List.mem_of_getElem? (i := 152) rfl) rfl),
  Or.inl (tb_i3 (List.mem_of_getElem? (i := 194) rfl) rfl),
  Or.inl (tb_i3 (List.mem_of_getElem? (i := 195) rfl) rfl),
  Or.inl (tb_i3 (List.mem_of_getElem? (i := 196) rfl) rfl),
  Or.inl (tb_i3 (List.mem_of_getElem? (i := 197) rfl) rfl),
  Or.inl (tb_i3 (List.mem_of_getElem? (i := 154) rfl) rfl),
  Or.inl (tb_i6 (List.mem_of_getElem? (i := 72) rfl) rfl),
  Or.inl (tb_i6 (List.mem_of_getElem? (i := 63) rfl) rfl),
  Or.inl (tb_i6 (List.mem_of_getElem? (i := 64) rfl) rfl),
  Or.inl (tb_i6 (List.mem_of_getElem? (i := 65) rfl) rfl),
  Or.inl (tb_i3 (List.mem_of_getElem? (i := 179) rfl) rfl),
  Or.inl (tb_i6 (List.mem_of_getElem? (i := 66) rfl) rfl),
  Or.inl (tb_i6 (List.mem_of_getElem? (i := 67) rfl) rfl),
  Or.inl (tb_i6 (List.mem_of_getElem? (i := 68) rfl) rfl),
  Or.inl (tb_i6 (List.mem_of_getElem? (i := 69) rfl) rfl),
  Or.inr (Or.inl rfl),
  Or.inr (Or.inr rfl),
  Or.inl (tb_i3 (List.mem_of_getElem? (i := 167) rfl) rfl),
  Or.inl (tb_i3 (List.mem_of_getElem? (i := 166) rfl) rfl),
  Or.inl (tb_i6 (List.mem_of_getElem? (i := 70) rfl) rfl), trivial⟩
set_option maxRecDepth 20000 in
theorem tb_x2 : mm_allL (fun w => w ∈ tb_TB ∨ w = .isRef (.static Bundle.tN "UNASSIGNED_STACK" Bundle.steD) ∨ w = .isRef (.static Bundle.tN "SUPPRESSED_SENTINEL" Bundle.listD)) (Bundle.ownAtoms "IndexedCompiler$Ground" 75 "java/lang/IllegalStateException" tb_names2) := ⟨Or.inl (tb_i1 (List.mem_of_getElem? (i := 13) rfl) rfl),
  Or.inl (tb_i3 (List.mem_of_getElem? (i := 168) rfl) rfl),
  Or.inl (tb_i3 (List.mem_of_getElem? (i := 177) rfl) rfl),
  Or.inl (tb_i3 (List.mem_of_getElem? (i := 180) rfl) rfl),
  Or.inl (tb_i3 (List.mem_of_getElem? (i := 183) rfl) rfl),
  Or.inl (tb_i3 (List.mem_of_getElem? (i := 185) rfl) rfl),
  Or.inl (tb_i3 (List.mem_of_getElem? (i := 169) rfl) rfl),
  Or.inl (tb_i3 (List.mem_of_getElem? (i := 170) rfl) rfl),
  Or.inl (tb_i1 (List.mem_of_getElem? (i := 33) rfl) rfl),
  Or.inl (tb_i1 (List.mem_of_getElem? (i := 34) rfl) rfl),
  Or.inl (tb_i3 (List.mem_of_getElem? (i := 171) rfl) rfl),
  Or.inl (tb_i3 (List.mem_of_getElem? (i := 176) rfl) rfl),
  Or.inl (tb_i3 (List.mem_of_getElem? (i := 181) rfl) rfl),
  Or.inl (tb_i3 (List.mem_of_getElem? (i := 201) rfl) rfl),
  Or.inl (tb_i3 (List.mem_of_getElem? (i := 158) rfl) rfl),
  Or.inl (tb_i3 (List.mem_of_getElem? (i := 202) rfl) rfl),
  Or.inl (tb_i3 (List.mem_of_getElem? (i := 160) rfl) rfl),
  Or.inl (tb_i3 (List.mem_of_getElem? (i := 203) rfl) rfl),
  Or.inl (tb_i3 (List.mem_of_getElem? (i := 162) rfl) rfl),
  Or.inl (tb_i3 (List.mem_of_getElem? (i := 172) rfl) rfl),
  Or.inl (tb_i3 (List.mem_of_getElem? (i := 173) rfl) rfl),
  Or.inl (tb_i3 (List.mem_of_getElem? (i := 174) rfl) rfl),
  Or.inl (tb_i3 (List.mem_of_getElem? (i := 175) rfl) rfl),
  Or.inl (tb_i3 (List.mem_of_getElem? (i := 164) rfl) rfl),
  Or.inl (tb_i3 (List.mem_of_getElem? (i := 197) rfl) rfl),
  Or.inl (tb_i3 (List.mem_of_getElem? (i := 198) rfl) rfl),
  Or.inl (tb_i3 (List.mem_of_getElem? (i := 200) rfl) rfl),
  Or.inl (tb_i3 (List.mem_of_getElem? (i := 164) rfl) rfl),
  Or.inl (tb_i3 (List.mem_of_getElem? (i := 188) rfl) rfl),
  Or.inl (tb_i3 (List.mem_of_getElem? (i := 189) rfl) rfl),
  Or.inl (tb_i3 (List.mem_of_getElem? (i := 190) rfl) rfl),
  Or.inl (tb_i3 (List.mem_of_getElem? (i := 191) rfl) rfl),
  Or.inl (tb_i3 (List.mem_of_getElem? (i := 150) rfl) rfl),
  Or.inl (tb_i3 (List.mem_of_getElem? (i := 191) rfl) rfl),
  Or.inl (tb_i3 (List.mem_of_getElem? (i := 192) rfl) rfl),
  Or.inl (tb_i3 (List.mem_of_getElem? (i := 193) rfl) rfl),
  Or.inl (tb_i3 (List.mem_of_getElem? (i := 194) rfl) rfl),
  Or.inl (tb_i3 (List.mem_of_getElem? (i := 152) rfl) rfl),
  Or.inl (tb_i3 (List.mem_of_getElem? (i := 194) rfl) rfl),
  Or.inl (tb_i3 (List.mem_of_getElem? (i := 195) rfl) rfl),
  Or.inl (tb_i3 (List.mem_of_getElem? (i := 196) rfl) rfl),
  Or.inl (tb_i3 (List.mem_of_getElem? (i := 197) rfl) rfl),
  Or.inl (tb_i3 (List.mem_of_getElem? (i := 154) rfl) rfl),
  Or.inl (tb_i4 (List.mem_of_getElem? (i := 157) rfl) rfl),
  Or.inl (tb_i3 (List.mem_of_getElem? (i := 147) rfl) rfl),
  Or.inl (tb_i3 (List.mem_of_getElem? (i := 148) rfl) rfl),
  Or.inl (tb_i3 (List.mem_of_getElem? (i := 155) rfl) rfl),
  Or.inl (tb_i3 (List.mem_of_getElem? (i := 156) rfl) rfl),
  Or.inl (tb_i3 (List.mem_of_getElem? (i := 157) rfl) rfl),
  Or.inl (tb_i3 (List.mem_of_getElem? (i := 159) rfl) rfl),
  Or.inl (tb_i3 (List.mem_of_getElem? (i := 161) rfl) rfl),
  Or.inl (tb_i3 (List.mem_of_getElem? (i := 163) rfl) rfl),
  Or.inr (Or.inl rfl),
  Or.inr (Or.inr rfl),
  Or.inl (tb_i3 (List.mem_of_getElem? (i := 167) rfl) rfl),
  Or.inl (tb_i3 (List.mem_of_getElem? (i := 166) rfl) rfl),
  Or.inl (tb_i3 (List.mem_of_getElem? (i := 165) rfl) rfl), trivial⟩
set_option maxRecDepth 20000 in
theorem tb_x3 : mm_allL (fun w => w ∈ tb_TB ∨ w = .isRef (.static Bundle.tN "UNASSIGNED_STACK" Bundle.steD) ∨ w = .isRef (.static Bundle.tN "SUPPRESSED_SENTINEL" Bundle.listD)) (Bundle.ownAtoms "IndexedCompiler$Reader" 188 "java/lang/IllegalStateException" tb_names2) := ⟨Or.inl (tb_i1 (List.mem_of_getElem? (i := 13) rfl) rfl),
  Or.inl (tb_i3 (List.mem_of_getElem? (i := 168) rfl) rfl),
  Or.inl (tb_i3 (List.mem_of_getElem? (i := 177) rfl) rfl),
  Or.inl (tb_i3 (List.mem_of_getElem? (i := 180) rfl) rfl),
  Or.inl (tb_i3 (List.mem_of_getElem? (i := 183) rfl) rfl),
  Or.inl (tb_i3 (List.mem_of_getElem? (i := 185) rfl) rfl),
  Or.inl (tb_i3 (List.mem_of_getElem? (i := 169) rfl) rfl),
  Or.inl (tb_i3 (List.mem_of_getElem? (i := 170) rfl) rfl),
  Or.inl (tb_i1 (List.mem_of_getElem? (i := 33) rfl) rfl),
  Or.inl (tb_i1 (List.mem_of_getElem? (i := 34) rfl) rfl),
  Or.inl (tb_i3 (List.mem_of_getElem? (i := 171) rfl) rfl),
  Or.inl (tb_i3 (List.mem_of_getElem? (i := 176) rfl) rfl),
  Or.inl (tb_i3 (List.mem_of_getElem? (i := 181) rfl) rfl),
  Or.inl (tb_i3 (List.mem_of_getElem? (i := 201) rfl) rfl),
  Or.inl (tb_i3 (List.mem_of_getElem? (i := 158) rfl) rfl),
  Or.inl (tb_i3 (List.mem_of_getElem? (i := 202) rfl) rfl),
  Or.inl (tb_i3 (List.mem_of_getElem? (i := 160) rfl) rfl),
  Or.inl (tb_i3 (List.mem_of_getElem? (i := 203) rfl) rfl),
  Or.inl (tb_i3 (List.mem_of_getElem? (i := 162) rfl) rfl),
  Or.inl (tb_i3 (List.mem_of_getElem? (i := 172) rfl) rfl),
  Or.inl (tb_i3 (List.mem_of_getElem? (i := 173) rfl) rfl),
  Or.inl (tb_i3 (List.mem_of_getElem? (i := 174) rfl) rfl),
  Or.inl (tb_i3 (List.mem_of_getElem? (i := 175) rfl) rfl),
  Or.inl (tb_i3 (List.mem_of_getElem? (i := 164) rfl) rfl),
  Or.inl (tb_i3 (List.mem_of_getElem? (i := 197) rfl) rfl),
  Or.inl (tb_i3 (List.mem_of_getElem? (i := 198) rfl) rfl),
  Or.inl (tb_i3 (List.mem_of_getElem? (i := 200) rfl) rfl),
  Or.inl (tb_i3 (List.mem_of_getElem? (i := 164) rfl) rfl),
  Or.inl (tb_i3 (List.mem_of_getElem? (i := 188) rfl) rfl),
  Or.inl (tb_i3 (List.mem_of_getElem? (i := 189) rfl) rfl),
  Or.inl (tb_i3 (List.mem_of_getElem? (i := 190) rfl) rfl),
  Or.inl (tb_i3 (List.mem_of_getElem? (i := 191) rfl) rfl),
  Or.inl (tb_i3 (List.mem_of_getElem? (i := 150) rfl) rfl),
  Or.inl (tb_i3 (List.mem_of_getElem? (i := 191) rfl) rfl),
  Or.inl (tb_i3 (List.mem_of_getElem? (i := 192) rfl) rfl),
  Or.inl (tb_i3 (List.mem_of_getElem? (i := 193) rfl) rfl),
  Or.inl (tb_i3 (List.mem_of_getElem? (i := 194) rfl) rfl),
  Or.inl (tb_i3 (List.mem_of_getElem? (i := 152) rfl) rfl),
  Or.inl (tb_i3 (List.mem_of_getElem? (i := 194) rfl) rfl),
  Or.inl (tb_i3 (List.mem_of_getElem? (i := 195) rfl) rfl),
  Or.inl (tb_i3 (List.mem_of_getElem? (i := 196) rfl) rfl),
  Or.inl (tb_i3 (List.mem_of_getElem? (i := 197) rfl) rfl),
  Or.inl (tb_i3 (List.mem_of_getElem? (i := 154) rfl) rfl),
  Or.inl (tb_i3 (List.mem_of_getElem? (i := 187) rfl) rfl),
  Or.inl (tb_i3 (List.mem_of_getElem? (i := 147) rfl) rfl),
  Or.inl (tb_i3 (List.mem_of_getElem? (i := 148) rfl) rfl),
  Or.inl (tb_i3 (List.mem_of_getElem? (i := 155) rfl) rfl),
  Or.inl (tb_i3 (List.mem_of_getElem? (i := 156) rfl) rfl),
  Or.inl (tb_i3 (List.mem_of_getElem? (i := 157) rfl) rfl),
  Or.inl (tb_i3 (List.mem_of_getElem? (i := 159) rfl) rfl),
  Or.inl (tb_i3 (List.mem_of_getElem? (i := 161) rfl) rfl),
  Or.inl (tb_i3 (List.mem_of_getElem? (i := 163) rfl) rfl),
  Or.inr (Or.inl rfl),
  Or.inr (Or.inr rfl),
  Or.inl (tb_i3 (List.mem_of_getElem? (i := 167) rfl) rfl),
  Or.inl (tb_i3 (List.mem_of_getElem? (i := 166) rfl) rfl),
  Or.inl (tb_i3 (List.mem_of_getElem? (i := 165) rfl) rfl), trivial⟩
theorem tb_fit : Bundle.fit "java/lang/IllegalStateException" = true ∧ Bundle.fit "java/lang/IllegalArgumentException" = true ∧ ∀ n ∈ tb_names2, Bundle.fit n = true := ⟨by decide +kernel, by decide +kernel, by decide +kernel⟩
set_option maxRecDepth 20000 in
theorem tb_xt_0 : mm_allL (fun q => mm_xR tb_P tb_TB tb_SB tb_cl tb_cn tb_kb tb_hs tb_X 0 q.1 q.2) ((tb_XT[0]?).getD []) := trivial
set_option maxRecDepth 20000 in
theorem tb_xt_1 : mm_allL (fun q => mm_xR tb_P tb_TB tb_SB tb_cl tb_cn tb_kb tb_hs tb_X 1 q.1 q.2) ((tb_XT[1]?).getD []) := trivial
set_option maxRecDepth 20000 in
theorem tb_xt_2 : mm_allL (fun q => mm_xR tb_P tb_TB tb_SB tb_cl tb_cn tb_kb tb_hs tb_X 2 q.1 q.2) ((tb_XT[2]?).getD []) := trivial
set_option maxRecDepth 20000 in
theorem tb_xt_3 : mm_allL (fun q => mm_xR tb_P tb_TB tb_SB tb_cl tb_cn tb_kb tb_hs tb_X 3 q.1 q.2) ((tb_XT[3]?).getD []) := trivial
set_option maxRecDepth 20000 in
theorem tb_xt_4 : mm_allL (fun q => mm_xR tb_P tb_TB tb_SB tb_cl tb_cn tb_kb tb_hs tb_X 4 q.1 q.2) ((tb_XT[4]?).getD []) := trivial
set_option maxRecDepth 20000 in
theorem tb_xt_5 : mm_allL (fun q => mm_xR tb_P tb_TB tb_SB tb_cl tb_cn tb_kb tb_hs tb_X 5 q.1 q.2) ((tb_XT[5]?).getD []) := trivial
set_option maxRecDepth 20000 in
theorem tb_xt_6 : mm_allL (fun q => mm_xR tb_P tb_TB tb_SB tb_cl tb_cn tb_kb tb_hs tb_X 6 q.1 q.2) ((tb_XT[6]?).getD []) := trivial
set_option maxRecDepth 20000 in
theorem tb_xt_7 : mm_allL (fun q => mm_xR tb_P tb_TB tb_SB tb_cl tb_cn tb_kb tb_hs tb_X 7 q.1 q.2) ((tb_XT[7]?).getD []) := trivial
set_option maxRecDepth 20000 in
theorem tb_xt_8 : mm_allL (fun q => mm_xR tb_P tb_TB tb_SB tb_cl tb_cn tb_kb tb_hs tb_X 8 q.1 q.2) ((tb_XT[8]?).getD []) := trivial
set_option maxRecDepth 20000 in
theorem tb_xt_9 : mm_allL (fun q => mm_xR tb_P tb_TB tb_SB tb_cl tb_cn tb_kb tb_hs tb_X 9 q.1 q.2) ((tb_XT[9]?).getD []) := trivial
set_option maxRecDepth 20000 in
theorem tb_xt_10 : mm_allL (fun q => mm_xR tb_P tb_TB tb_SB tb_cl tb_cn tb_kb tb_hs tb_X 10 q.1 q.2) ((tb_XT[10]?).getD []) := trivial
set_option maxRecDepth 20000 in
theorem tb_xt_11 : mm_allL (fun q => mm_xR tb_P tb_TB tb_SB tb_cl tb_cn tb_kb tb_hs tb_X 11 q.1 q.2) ((tb_XT[11]?).getD []) := trivial
set_option maxRecDepth 20000 in
theorem tb_xt_12 : mm_allL (fun q => mm_xR tb_P tb_TB tb_SB tb_cl tb_cn tb_kb tb_hs tb_X 12 q.1 q.2) ((tb_XT[12]?).getD []) := trivial
set_option maxRecDepth 20000 in
theorem tb_xt_13 : mm_allL (fun q => mm_xR tb_P tb_TB tb_SB tb_cl tb_cn tb_kb tb_hs tb_X 13 q.1 q.2) ((tb_XT[13]?).getD []) := trivial
set_option maxRecDepth 20000 in
theorem tb_xt_14 : mm_allL (fun q => mm_xR tb_P tb_TB tb_SB tb_cl tb_cn tb_kb tb_hs tb_X 14 q.1 q.2) ((tb_XT[14]?).getD []) := trivial
set_option maxRecDepth 20000 in
theorem tb_xt_15 : mm_allL (fun q => mm_xR tb_P tb_TB tb_SB tb_cl tb_cn tb_kb tb_hs tb_X 15 q.1 q.2) ((tb_XT[15]?).getD []) := trivial
set_option maxRecDepth 20000 in
theorem tb_xt_16 : mm_allL (fun q => mm_xR tb_P tb_TB tb_SB tb_cl tb_cn tb_kb tb_hs tb_X 16 q.1 q.2) ((tb_XT[16]?).getD []) := trivial
set_option maxRecDepth 20000 in
theorem tb_xt_17 : mm_allL (fun q => mm_xR tb_P tb_TB tb_SB tb_cl tb_cn tb_kb tb_hs tb_X 17 q.1 q.2) ((tb_XT[17]?).getD []) := trivial
set_option maxRecDepth 20000 in
theorem tb_xt_18 : mm_allL (fun q => mm_xR tb_P tb_TB tb_SB tb_cl tb_cn tb_kb tb_hs tb_X 18 q.1 q.2) ((tb_XT[18]?).getD []) := trivial
set_option maxRecDepth 20000 in
theorem tb_xt_19 : mm_allL (fun q => mm_xR tb_P tb_TB tb_SB tb_cl tb_cn tb_kb tb_hs tb_X 19 q.1 q.2) ((tb_XT[19]?).getD []) := trivial
set_option maxRecDepth 20000 in
theorem tb_xt_20 : mm_allL (fun q => mm_xR tb_P tb_TB tb_SB tb_cl tb_cn tb_kb tb_hs tb_X 20 q.1 q.2) ((tb_XT[20]?).getD []) := trivial
set_option maxRecDepth 20000 in
theorem tb_xt_21 : mm_allL (fun q => mm_xR tb_P tb_TB tb_SB tb_cl tb_cn tb_kb tb_hs tb_X 21 q.1 q.2) ((tb_XT[21]?).getD []) := trivial
set_option maxRecDepth 20000 in
theorem tb_xt_22 : mm_allL (fun q => mm_xR tb_P tb_TB tb_SB tb_cl tb_cn tb_kb tb_hs tb_X 22 q.1 q.2) ((tb_XT[22]?).getD []) := trivial
set_option maxRecDepth 20000 in
theorem tb_xt_23 : mm_allL (fun q => mm_xR tb_P tb_TB tb_SB tb_cl tb_cn tb_kb tb_hs tb_X 23 q.1 q.2) ((tb_XT[23]?).getD []) := trivial
set_option maxRecDepth 20000 in
theorem tb_xt_24 : mm_allL (fun q => mm_xR tb_P tb_TB tb_SB tb_cl tb_cn tb_kb tb_hs tb_X 24 q.1 q.2) ((tb_XT[24]?).getD []) := trivial
set_option maxRecDepth 20000 in
theorem tb_xt_25 : mm_allL (fun q => mm_xR tb_P tb_TB tb_SB tb_cl tb_cn tb_kb tb_hs tb_X 25 q.1 q.2) ((tb_XT[25]?).getD []) := trivial
set_option maxRecDepth 20000 in
theorem tb_xt_26 : mm_allL (fun q => mm_xR tb_P tb_TB tb_SB tb_cl tb_cn tb_kb tb_hs tb_X 26 q.1 q.2) ((tb_XT[26]?).getD []) := trivial
set_option maxRecDepth 20000 in
theorem tb_xt_27 : mm_allL (fun q => mm_xR tb_P tb_TB tb_SB tb_cl tb_cn tb_kb tb_hs tb_X 27 q.1 q.2) ((tb_XT[27]?).getD []) := trivial
set_option maxRecDepth 20000 in
theorem tb_xt_28 : mm_allL (fun q => mm_xR tb_P tb_TB tb_SB tb_cl tb_cn tb_kb tb_hs tb_X 28 q.1 q.2) ((tb_XT[28]?).getD []) := trivial
set_option maxRecDepth 20000 in
theorem tb_xt_29 : mm_allL (fun q => mm_xR tb_P tb_TB tb_SB tb_cl tb_cn tb_kb tb_hs tb_X 29 q.1 q.2) ((tb_XT[29]?).getD []) := trivial
set_option maxRecDepth 20000 in
theorem tb_xt_30 : mm_allL (fun q => mm_xR tb_P tb_TB tb_SB tb_cl tb_cn tb_kb tb_hs tb_X 30 q.1 q.2) ((tb_XT[30]?).getD []) := trivial
set_option maxRecDepth 20000 in
theorem tb_xt_31 : mm_allL (fun q => mm_xR tb_P tb_TB tb_SB tb_cl tb_cn tb_kb tb_hs tb_X 31 q.1 q.2) ((tb_XT[31]?).getD []) := trivial
set_option maxRecDepth 20000 in
theorem tb_xt_32 : mm_allL (fun q => mm_xR tb_P tb_TB tb_SB tb_cl tb_cn tb_kb tb_hs tb_X 32 q.1 q.2) ((tb_XT[32]?).getD []) := trivial
set_option maxRecDepth 20000 in
theorem tb_xt_33 : mm_allL (fun q => mm_xR tb_P tb_TB tb_SB tb_cl tb_cn tb_kb tb_hs tb_X 33 q.1 q.2) ((tb_XT[33]?).getD []) := trivial
set_option maxRecDepth 20000 in
theorem tb_xt_34 : mm_allL (fun q => mm_xR tb_P tb_TB tb_SB tb_cl tb_cn tb_kb tb_hs tb_X 34 q.1 q.2) ((tb_XT[34]?).getD []) := trivial
set_option maxRecDepth 20000 in
theorem tb_xt_35 : mm_allL (fun q => mm_xR tb_P tb_TB tb_SB tb_cl tb_cn tb_kb tb_hs tb_X 35 q.1 q.2) ((tb_XT[35]?).getD []) := trivial
set_option maxRecDepth 20000 in
theorem tb_xt_36 : mm_allL (fun q => mm_xR tb_P tb_TB tb_SB tb_cl tb_cn tb_kb tb_hs tb_X 36 q.1 q.2) ((tb_XT[36]?).getD []) := trivial
set_option maxRecDepth 20000 in
theorem tb_xt_37 : mm_allL (fun q => mm_xR tb_P tb_TB tb_SB tb_cl tb_cn tb_kb tb_hs tb_X 37 q.1 q.2) ((tb_XT[37]?).getD []) := trivial
set_option maxRecDepth 20000 in
theorem tb_xt_38 : mm_allL (fun q => mm_xR tb_P tb_TB tb_SB tb_cl tb_cn tb_kb tb_hs tb_X 38 q.1 q.2) ((tb_XT[38]?).getD []) := trivial
set_option maxRecDepth 20000 in
theorem tb_xt_39 : mm_allL (fun q => mm_xR tb_P tb_TB tb_SB tb_cl tb_cn tb_kb tb_hs tb_X 39 q.1 q.2) ((tb_XT[39]?).getD []) := trivial
set_option maxRecDepth 20000 in
theorem tb_xt_40 : mm_allL (fun q => mm_xR tb_P tb_TB tb_SB tb_cl tb_cn tb_kb tb_hs tb_X 40 q.1 q.2) ((tb_XT[40]?).getD []) := trivial
set_option maxRecDepth 20000 in
theorem tb_xt_41 : mm_allL (fun q => mm_xR tb_P tb_TB tb_SB tb_cl tb_cn tb_kb tb_hs tb_X 41 q.1 q.2) ((tb_XT[41]?).getD []) := trivial
set_option maxRecDepth 20000 in
theorem tb_xt_42 : mm_allL (fun q => mm_xR tb_P tb_TB tb_SB tb_cl tb_cn tb_kb tb_hs tb_X 42 q.1 q.2) ((tb_XT[42]?).getD []) := trivial
set_option maxRecDepth 20000 in
theorem tb_xt_43 : mm_allL (fun q => mm_xR tb_P tb_TB tb_SB tb_cl tb_cn tb_kb tb_hs tb_X 43 q.1 q.2) ((tb_XT[43]?).getD []) := trivial
set_option maxRecDepth 20000 in
theorem tb_xt_44 : mm_allL (fun q => mm_xR tb_P tb_TB tb_SB tb_cl tb_cn tb_kb tb_hs tb_X 44 q.1 q.2) ((tb_XT[44]?).getD []) := trivial
set_option maxRecDepth 20000 in
theorem tb_xt_45 : mm_allL (fun q => mm_xR tb_P tb_TB tb_SB tb_cl tb_cn tb_kb tb_hs tb_X 45 q.1 q.2) ((tb_XT[45]?).getD []) := trivial
set_option maxRecDepth 20000 in
theorem tb_xt_46 : mm_allL (fun q => mm_xR tb_P tb_TB tb_SB tb_cl tb_cn tb_kb tb_hs tb_X 46 q.1 q.2) ((tb_XT[46]?).getD []) := trivial
set_option maxRecDepth 20000 in
theorem tb_xt_47 : mm_allL (fun q => mm_xR tb_P tb_TB tb_SB tb_cl tb_cn tb_kb tb_hs tb_X 47 q.1 q.2) ((tb_XT[47]?).getD []) := trivial
set_option maxRecDepth 20000 in
theorem tb_xt_48 : mm_allL (fun q => mm_xR tb_P tb_TB tb_SB tb_cl tb_cn tb_kb tb_hs tb_X 48 q.1 q.2) ((tb_XT[48]?).getD []) := trivial
set_option maxRecDepth 20000 in
theorem tb_xt_49 : mm_allL (fun q => mm_xR tb_P tb_TB tb_SB tb_cl tb_cn tb_kb tb_hs tb_X 49 q.1 q.2) ((tb_XT[49]?).getD []) := trivial
set_option maxRecDepth 20000 in
theorem tb_xt_50 : mm_allL (fun q => mm_xR tb_P tb_TB tb_SB tb_cl tb_cn tb_kb tb_hs tb_X 50 q.1 q.2) ((tb_XT[50]?).getD []) := trivial
set_option maxRecDepth 20000 in
theorem tb_xt_51 : mm_allL (fun q => mm_xR tb_P tb_TB tb_SB tb_cl tb_cn tb_kb tb_hs tb_X 51 q.1 q.2) ((tb_XT[51]?).getD []) := trivial
set_option maxRecDepth 20000 in
theorem tb_xt_52 : mm_allL (fun q => mm_xR tb_P tb_TB tb_SB tb_cl tb_cn tb_kb tb_hs tb_X 52 q.1 q.2) ((tb_XT[52]?).getD []) := trivial
set_option maxRecDepth 20000 in
theorem tb_xt_53 : mm_allL (fun q => mm_xR tb_P tb_TB tb_SB tb_cl tb_cn tb_kb tb_hs tb_X 53 q.1 q.2) ((tb_XT[53]?).getD []) := trivial
set_option maxRecDepth 20000 in
theorem tb_xt_54 : mm_allL (fun q => mm_xR tb_P tb_TB tb_SB tb_cl tb_cn tb_kb tb_hs tb_X 54 q.1 q.2) ((tb_XT[54]?).getD []) := trivial
set_option maxRecDepth 20000 in
theorem tb_xt_55 : mm_allL (fun q => mm_xR tb_P tb_TB tb_SB tb_cl tb_cn tb_kb tb_hs tb_X 55 q.1 q.2) ((tb_XT[55]?).getD []) := trivial
set_option maxRecDepth 20000 in
theorem tb_xt_56 : mm_allL (fun q => mm_xR tb_P tb_TB tb_SB tb_cl tb_cn tb_kb tb_hs tb_X 56 q.1 q.2) ((tb_XT[56]?).getD []) := trivial
set_option maxRecDepth 20000 in
theorem tb_xt_57 : mm_allL (fun q => mm_xR tb_P tb_TB tb_SB tb_cl tb_cn tb_kb tb_hs tb_X 57 q.1 q.2) ((tb_XT[57]?).getD []) := trivial
set_option maxRecDepth 20000 in
theorem tb_xt_58 : mm_allL (fun q => mm_xR tb_P tb_TB tb_SB tb_cl tb_cn tb_kb tb_hs tb_X 58 q.1 q.2) ((tb_XT[58]?).getD []) := trivial
set_option maxRecDepth 20000 in
theorem tb_xt_59 : mm_allL (fun q => mm_xR tb_P tb_TB tb_SB tb_cl tb_cn tb_kb tb_hs tb_X 59 q.1 q.2) ((tb_XT[59]?).getD []) := trivial
set_option maxRecDepth 20000 in
theorem tb_xt_60 : mm_allL (fun q => mm_xR tb_P tb_TB tb_SB tb_cl tb_cn tb_kb tb_hs tb_X 60 q.1 q.2) ((tb_XT[60]?).getD []) := trivial
set_option maxRecDepth 20000 in
theorem tb_xt_61 : mm_allL (fun q => mm_xR tb_P tb_TB tb_SB tb_cl tb_cn tb_kb tb_hs tb_X 61 q.1 q.2) ((tb_XT[61]?).getD []) := trivial
set_option maxRecDepth 20000 in
theorem tb_xt_62 : mm_allL (fun q => mm_xR tb_P tb_TB tb_SB tb_cl tb_cn tb_kb tb_hs tb_X 62 q.1 q.2) ((tb_XT[62]?).getD []) := trivial
set_option maxRecDepth 20000 in
theorem tb_xt_63 : mm_allL (fun q => mm_xR tb_P tb_TB tb_SB tb_cl tb_cn tb_kb tb_hs tb_X 63 q.1 q.2) ((tb_XT[63]?).getD []) := trivial
set_option maxRecDepth 20000 in
theorem tb_xt_64 : mm_allL (fun q => mm_xR tb_P tb_TB tb_SB tb_cl tb_cn tb_kb tb_hs tb_X 64 q.1 q.2) ((tb_XT[64]?).getD []) := trivial
set_option maxRecDepth 20000 in
theorem tb_xt_65 : mm_allL (fun q => mm_xR tb_P tb_TB tb_SB tb_cl tb_cn tb_kb tb_hs tb_X 65 q.1 q.2) ((tb_XT[65]?).getD []) := trivial
set_option maxRecDepth 20000 in
theorem tb_xt_66 : mm_allL (fun q => mm_xR tb_P tb_TB tb_SB tb_cl tb_cn tb_kb tb_hs tb_X 66 q.1 q.2) ((tb_XT[66]?).getD []) := trivial
set_option maxRecDepth 20000 in
theorem tb_xt_67 : mm_allL (fun q => mm_xR tb_P tb_TB tb_SB tb_cl tb_cn tb_kb tb_hs tb_X 67 q.1 q.2) ((tb_XT[67]?).getD []) := trivial
set_option maxRecDepth 20000 in
theorem tb_xt_68 : mm_allL (fun q => mm_xR tb_P tb_TB tb_SB tb_cl tb_cn tb_kb tb_hs tb_X 68 q.1 q.2) ((tb_XT[68]?).getD []) := trivial
set_option maxRecDepth 20000 in
theorem tb_xt_69 : mm_allL (fun q => mm_xR tb_P tb_TB tb_SB tb_cl tb_cn tb_kb tb_hs tb_X 69 q.1 q.2) ((tb_XT[69]?).getD []) := trivial
set_option maxRecDepth 20000 in
theorem tb_xt_70 : mm_allL (fun q => mm_xR tb_P tb_TB tb_SB tb_cl tb_cn tb_kb tb_hs tb_X 70 q.1 q.2) ((tb_XT[70]?).getD []) := trivial
set_option maxRecDepth 20000 in
theorem tb_xt_71 : mm_allL (fun q => mm_xR tb_P tb_TB tb_SB tb_cl tb_cn tb_kb tb_hs tb_X 71 q.1 q.2) ((tb_XT[71]?).getD []) := trivial
set_option maxRecDepth 20000 in
theorem tb_xt_72 : mm_allL (fun q => mm_xR tb_P tb_TB tb_SB tb_cl tb_cn tb_kb tb_hs tb_X 72 q.1 q.2) ((tb_XT[72]?).getD []) := trivial
set_option maxRecDepth 20000 in
theorem tb_xt_73 : mm_allL (fun q => mm_xR tb_P tb_TB tb_SB tb_cl tb_cn tb_kb tb_hs tb_X 73 q.1 q.2) ((tb_XT[73]?).getD []) := trivial
set_option maxRecDepth 20000 in
theorem tb_xt_74 : mm_allL (fun q => mm_xR tb_P tb_TB tb_SB tb_cl tb_cn tb_kb tb_hs tb_X 74 q.1 q.2) ((tb_XT[74]?).getD []) := trivial
set_option maxRecDepth 20000 in
theorem tb_xt_75 : mm_allL (fun q => mm_xR tb_P tb_TB tb_SB tb_cl tb_cn tb_kb tb_hs tb_X 75 q.1 q.2) ((tb_XT[75]?).getD []) := trivial
set_option maxRecDepth 20000 in
theorem tb_xt_76 : mm_allL (fun q => mm_xR tb_P tb_TB tb_SB tb_cl tb_cn tb_kb tb_hs tb_X 76 q.1 q.2) ((tb_XT[76]?).getD []) := trivial
set_option maxRecDepth 20000 in
theorem tb_xt_77 : mm_allL (fun q => mm_xR tb_P tb_TB tb_SB tb_cl tb_cn tb_kb tb_hs tb_X 77 q.1 q.2) ((tb_XT[77]?).getD []) := trivial
set_option maxRecDepth 20000 in
theorem tb_xt_78 : mm_allL (fun q => mm_xR tb_P tb_TB tb_SB tb_cl tb_cn tb_kb tb_hs tb_X 78 q.1 q.2) ((tb_XT[78]?).getD []) := trivial
set_option maxRecDepth 20000 in
theorem tb_xt_79 : mm_allL (fun q => mm_xR tb_P tb_TB tb_SB tb_cl tb_cn tb_kb tb_hs tb_X 79 q.1 q.2) ((tb_XT[79]?).getD []) := trivial
set_option maxRecDepth 20000 in
theorem tb_xt_80 : mm_allL (fun q => mm_xR tb_P tb_TB tb_SB tb_cl tb_cn tb_kb tb_hs tb_X 80 q.1 q.2) ((tb_XT[80]?).getD []) := trivial
set_option maxRecDepth 20000 in
theorem tb_xt_81 : mm_allL (fun q => mm_xR tb_P tb_TB tb_SB tb_cl tb_cn tb_kb tb_hs tb_X 81 q.1 q.2) ((tb_XT[81]?).getD []) := trivial
set_option maxRecDepth 20000 in
theorem tb_xt_82 : mm_allL (fun q => mm_xR tb_P tb_TB tb_SB tb_cl tb_cn tb_kb tb_hs tb_X 82 q.1 q.2) ((tb_XT[82]?).getD []) := trivial
set_option maxRecDepth 20000 in
theorem tb_xt_83 : mm_allL (fun q => mm_xR tb_P tb_TB tb_SB tb_cl tb_cn tb_kb tb_hs tb_X 83 q.1 q.2) ((tb_XT[83]?).getD []) := trivial
set_option maxRecDepth 20000 in
theorem tb_xt_84 : mm_allL (fun q => mm_xR tb_P tb_TB tb_SB tb_cl tb_cn tb_kb tb_hs tb_X 84 q.1 q.2) ((tb_XT[84]?).getD []) := trivial
set_option maxRecDepth 20000 in
theorem tb_xt_85 : mm_allL (fun q => mm_xR tb_P tb_TB tb_SB tb_cl tb_cn tb_kb tb_hs tb_X 85 q.1 q.2) ((tb_XT[85]?).getD []) := trivial
set_option maxRecDepth 20000 in
theorem tb_xt_86 : mm_allL (fun q => mm_xR tb_P tb_TB tb_SB tb_cl tb_cn tb_kb tb_hs tb_X 86 q.1 q.2) ((tb_XT[86]?).getD []) := trivial
set_option maxRecDepth 20000 in
theorem tb_xt_87 : mm_allL (fun q => mm_xR tb_P tb_TB tb_SB tb_cl tb_cn tb_kb tb_hs tb_X 87 q.1 q.2) ((tb_XT[87]?).getD []) := trivial
set_option maxRecDepth 20000 in
theorem tb_xt_88 : mm_allL (fun q => mm_xR tb_P tb_TB tb_SB tb_cl tb_cn tb_kb tb_hs tb_X 88 q.1 q.2) ((tb_XT[88]?).getD []) := trivial
set_option maxRecDepth 20000 in
theorem tb_xt_89 : mm_allL (fun q => mm_xR tb_P tb_TB tb_SB tb_cl tb_cn tb_kb tb_hs tb_X 89 q.1 q.2) ((tb_XT[89]?).getD []) := trivial
set_option maxRecDepth 20000 in
theorem tb_xt_90 : mm_allL (fun q => mm_xR tb_P tb_TB tb_SB tb_cl tb_cn tb_kb tb_hs tb_X 90 q.1 q.2) ((tb_XT[90]?).getD []) := trivial
set_option maxRecDepth 20000 in
theorem tb_xt_91 : mm_allL (fun q => mm_xR tb_P tb_TB tb_SB tb_cl tb_cn tb_kb tb_hs tb_X 91 q.1 q.2) ((tb_XT[91]?).getD []) := trivial
set_option maxRecDepth 20000 in
theorem tb_xt_92 : mm_allL (fun q => mm_xR tb_P tb_TB tb_SB tb_cl tb_cn tb_kb tb_hs tb_X 92 q.1 q.2) ((tb_XT[92]?).getD []) := trivial
set_option maxRecDepth 20000 in
theorem tb_xt_93 : mm_allL (fun q => mm_xR tb_P tb_TB tb_SB tb_cl tb_cn tb_kb tb_hs tb_X 93 q.1 q.2) ((tb_XT[93]?).getD []) := trivial
set_option maxRecDepth 20000 in
theorem tb_xt_94 : mm_allL (fun q => mm_xR tb_P tb_TB tb_SB tb_cl tb_cn tb_kb tb_hs tb_X 94 q.1 q.2) ((tb_XT[94]?).getD []) := trivial
set_option maxRecDepth 20000 in
theorem tb_xt_95 : mm_allL (fun q => mm_xR tb_P tb_TB tb_SB tb_cl tb_cn tb_kb tb_hs tb_X 95 q.1 q.2) ((tb_XT[95]?).getD []) := trivial
set_option maxRecDepth 20000 in
theorem tb_xt_96 : mm_allL (fun q => mm_xR tb_P tb_TB tb_SB tb_cl tb_cn tb_kb tb_hs tb_X 96 q.1 q.2) ((tb_XT[96]?).getD []) := trivial
set_option maxRecDepth 20000 in
theorem tb_xt_97 : mm_allL (fun q => mm_xR tb_P tb_TB tb_SB tb_cl tb_cn tb_kb tb_hs tb_X 97 q.1 q.2) ((tb_XT[97]?).getD []) := trivial
set_option maxRecDepth 20000 in
theorem tb_xt_98 : mm_allL (fun q => mm_xR tb_P tb_TB tb_SB tb_cl tb_cn tb_kb tb_hs tb_X 98 q.1 q.2) ((tb_XT[98]?).getD []) := trivial
set_option maxRecDepth 20000 in
theorem tb_xt_99 : mm_allL (fun q => mm_xR tb_P tb_TB tb_SB tb_cl tb_cn tb_kb tb_hs tb_X 99 q.1 q.2) ((tb_XT[99]?).getD []) := trivial
set_option maxRecDepth 20000 in
theorem tb_xt_100 : mm_allL (fun q => mm_xR tb_P tb_TB tb_SB tb_cl tb_cn tb_kb tb_hs tb_X 100 q.1 q.2) ((tb_XT[100]?).getD []) := trivial
set_option maxRecDepth 20000 in
theorem tb_xt_101 : mm_allL (fun q => mm_xR tb_P tb_TB tb_SB tb_cl tb_cn tb_kb tb_hs tb_X 101 q.1 q.2) ((tb_XT[101]?).getD []) := trivial
set_option maxRecDepth 20000 in
theorem tb_xt_102 : mm_allL (fun q => mm_xR tb_P tb_TB tb_SB tb_cl tb_cn tb_kb tb_hs tb_X 102 q.1 q.2) ((tb_XT[102]?).getD []) := trivial
set_option maxRecDepth 20000 in
theorem tb_xt_103 : mm_allL (fun q => mm_xR tb_P tb_TB tb_SB tb_cl tb_cn tb_kb tb_hs tb_X 103 q.1 q.2) ((tb_XT[103]?).getD []) := trivial
set_option maxRecDepth 20000 in
theorem tb_xt_104 : mm_allL (fun q => mm_xR tb_P tb_TB tb_SB tb_cl tb_cn tb_kb tb_hs tb_X 104 q.1 q.2) ((tb_XT[104]?).getD []) := trivial
set_option maxRecDepth 20000 in
theorem tb_xt_105 : mm_allL (fun q => mm_xR tb_P tb_TB tb_SB tb_cl tb_cn tb_kb tb_hs tb_X 105 q.1 q.2) ((tb_XT[105]?).getD []) := trivial
set_option maxRecDepth 20000 in
theorem tb_xt_106 : mm_allL (fun q => mm_xR tb_P tb_TB tb_SB tb_cl tb_cn tb_kb tb_hs tb_X 106 q.1 q.2) ((tb_XT[106]?).getD []) := trivial
set_option maxRecDepth 20000 in
theorem tb_xt_107 : mm_allL (fun q => mm_xR tb_P tb_TB tb_SB tb_cl tb_cn tb_kb tb_hs tb_X 107 q.1 q.2) ((tb_XT[107]?).getD []) := trivial
set_option maxRecDepth 20000 in
theorem tb_xt_108 : mm_allL (fun q => mm_xR tb_P tb_TB tb_SB tb_cl tb_cn tb_kb tb_hs tb_X 108 q.1 q.2) ((tb_XT[108]?).getD []) := trivial
set_option maxRecDepth 20000 in
theorem tb_xt_109 : mm_allL (fun q => mm_xR tb_P tb_TB tb_SB tb_cl tb_cn tb_kb tb_hs tb_X 109 q.1 q.2) ((tb_XT[109]?).getD []) := trivial
set_option maxRecDepth 20000 in
theorem tb_xt_110 : mm_allL (fun q => mm_xR tb_P tb_TB tb_SB tb_cl tb_cn tb_kb tb_hs tb_X 110 q.1 q.2) ((tb_XT[110]?).getD []) := trivial
set_option maxRecDepth 20000 in
theorem tb_xt_111 : mm_allL (fun q => mm_xR tb_P tb_TB tb_SB tb_cl tb_cn tb_kb tb_hs tb_X 111 q.1 q.2) ((tb_XT[111]?).getD []) := trivial
set_option maxRecDepth 20000 in
theorem tb_xt_112 : mm_allL (fun q => mm_xR tb_P tb_TB tb_SB tb_cl tb_cn tb_kb tb_hs tb_X 112 q.1 q.2) ((tb_XT[112]?).getD []) := trivial
set_option maxRecDepth 20000 in
theorem tb_xt_113 : mm_allL (fun q => mm_xR tb_P tb_TB tb_SB tb_cl tb_cn tb_kb tb_hs tb_X 113 q.1 q.2) ((tb_XT[113]?).getD []) := trivial
set_option maxRecDepth 20000 in
theorem tb_xt_114 : mm_allL (fun q => mm_xR tb_P tb_TB tb_SB tb_cl tb_cn tb_kb tb_hs tb_X 114 q.1 q.2) ((tb_XT[114]?).getD []) := trivial
set_option maxRecDepth 20000 in
theorem tb_xt_115 : mm_allL (fun q => mm_xR tb_P tb_TB tb_SB tb_cl tb_cn tb_kb tb_hs tb_X 115 q.1 q.2) ((tb_XT[115]?).getD []) := trivial
set_option maxRecDepth 20000 in
theorem tb_xt_116 : mm_allL (fun q => mm_xR tb_P tb_TB tb_SB tb_cl tb_cn tb_kb tb_hs tb_X 116 q.1 q.2) ((tb_XT[116]?).getD []) := trivial
set_option maxRecDepth 20000 in
theorem tb_xt_117 : mm_allL (fun q => mm_xR tb_P tb_TB tb_SB tb_cl tb_cn tb_kb tb_hs tb_X 117 q.1 q.2) ((tb_XT[117]?).getD []) := trivial
set_option maxRecDepth 20000 in
theorem tb_xt_118 : mm_allL (fun q => mm_xR tb_P tb_TB tb_SB tb_cl tb_cn tb_kb tb_hs tb_X 118 q.1 q.2) ((tb_XT[118]?).getD []) := trivial
set_option maxRecDepth 20000 in
theorem tb_xt_119 : mm_allL (fun q => mm_xR tb_P tb_TB tb_SB tb_cl tb_cn tb_kb tb_hs tb_X 119 q.1 q.2) ((tb_XT[119]?).getD []) := trivial
set_option maxRecDepth 20000 in
theorem tb_xt_120 : mm_allL (fun q => mm_xR tb_P tb_TB tb_SB tb_cl tb_cn tb_kb tb_hs tb_X 120 q.1 q.2) ((tb_XT[120]?).getD []) := trivial
set_option maxRecDepth 20000 in
theorem tb_xt_121 : mm_allL (fun q => mm_xR tb_P tb_TB tb_SB tb_cl tb_cn tb_kb tb_hs tb_X 121 q.1 q.2) ((tb_XT[121]?).getD []) := trivial
set_option maxRecDepth 20000 in
theorem tb_xt_122 : mm_allL (fun q => mm_xR tb_P tb_TB tb_SB tb_cl tb_cn tb_kb tb_hs tb_X 122 q.1 q.2) ((tb_XT[122]?).getD []) := trivial
set_option maxRecDepth 20000 in
theorem tb_xt_123 : mm_allL (fun q => mm_xR tb_P tb_TB tb_SB tb_cl tb_cn tb_kb tb_hs tb_X 123 q.1 q.2) ((tb_XT[123]?).getD []) := trivial
set_option maxRecDepth 20000 in
theorem tb_xt_124 : mm_allL (fun q => mm_xR tb_P tb_TB tb_SB tb_cl tb_cn tb_kb tb_hs tb_X 124 q.1 q.2) ((tb_XT[124]?).getD []) := trivial
set_option maxRecDepth 20000 in
theorem tb_xt_125 : mm_allL (fun q => mm_xR tb_P tb_TB tb_SB tb_cl tb_cn tb_kb tb_hs tb_X 125 q.1 q.2) ((tb_XT[125]?).getD []) := trivial
set_option maxRecDepth 20000 in
theorem tb_xt_126 : mm_allL (fun q => mm_xR tb_P tb_TB tb_SB tb_cl tb_cn tb_kb tb_hs tb_X 126 q.1 q.2) ((tb_XT[126]?).getD []) := trivial
set_option maxRecDepth 20000 in
theorem tb_xt_127 : mm_allL (fun q => mm_xR tb_P tb_TB tb_SB tb_cl tb_cn tb_kb tb_hs tb_X 127 q.1 q.2) ((tb_XT[127]?).getD []) := trivial
set_option maxRecDepth 20000 in
theorem tb_xt_128 : mm_allL (fun q => mm_xR tb_P tb_TB tb_SB tb_cl tb_cn tb_kb tb_hs tb_X 128 q.1 q.2) ((tb_XT[128]?).getD []) := trivial
set_option maxRecDepth 20000 in
theorem tb_xt_129 : mm_allL (fun q => mm_xR tb_P tb_TB tb_SB tb_cl tb_cn tb_kb tb_hs tb_X 129 q.1 q.2) ((tb_XT[129]?).getD []) := trivial
set_option maxRecDepth 20000 in
theorem tb_xt_130 : mm_allL (fun q => mm_xR tb_P tb_TB tb_SB tb_cl tb_cn tb_kb tb_hs tb_X 130 q.1 q.2) ((tb_XT[130]?).getD []) := trivial
set_option maxRecDepth 20000 in
theorem tb_xt_131 : mm_allL (fun q => mm_xR tb_P tb_TB tb_SB tb_cl tb_cn tb_kb tb_hs tb_X 131 q.1 q.2) ((tb_XT[131]?).getD []) := trivial
set_option maxRecDepth 20000 in
theorem tb_xt_132 : mm_allL (fun q => mm_xR tb_P tb_TB tb_SB tb_cl tb_cn tb_kb tb_hs tb_X 132 q.1 q.2) ((tb_XT[132]?).getD []) := trivial
set_option maxRecDepth 20000 in
theorem tb_xt_133 : mm_allL (fun q => mm_xR tb_P tb_TB tb_SB tb_cl tb_cn tb_kb tb_hs tb_X 133 q.1 q.2) ((tb_XT[133]?).getD []) := trivial
set_option maxRecDepth 20000 in
theorem tb_xt_134 : mm_allL (fun q => mm_xR tb_P tb_TB tb_SB tb_cl tb_cn tb_kb tb_hs tb_X 134 q.1 q.2) ((tb_XT[134]?).getD []) := trivial
set_option maxRecDepth 20000 in
theorem tb_xt_135 : mm_allL (fun q => mm_xR tb_P tb_TB tb_SB tb_cl tb_cn tb_kb tb_hs tb_X 135 q.1 q.2) ((tb_XT[135]?).getD []) := trivial
set_option maxRecDepth 20000 in
theorem tb_xt_136 : mm_allL (fun q => mm_xR tb_P tb_TB tb_SB tb_cl tb_cn tb_kb tb_hs tb_X 136 q.1 q.2) ((tb_XT[136]?).getD []) := trivial
set_option maxRecDepth 20000 in
theorem tb_xt_137 : mm_allL (fun q => mm_xR tb_P tb_TB tb_SB tb_cl tb_cn tb_kb tb_hs tb_X 137 q.1 q.2) ((tb_XT[137]?).getD []) := trivial
set_option maxRecDepth 20000 in
theorem tb_xt_138 : mm_allL (fun q => mm_xR tb_P tb_TB tb_SB tb_cl tb_cn tb_kb tb_hs tb_X 138 q.1 q.2) ((tb_XT[138]?).getD []) := trivial
set_option maxRecDepth 20000 in
theorem tb_xt_139 : mm_allL (fun q => mm_xR tb_P tb_TB tb_SB tb_cl tb_cn tb_kb tb_hs tb_X 139 q.1 q.2) ((tb_XT[139]?).getD []) := trivial
set_option maxRecDepth 20000 in
theorem tb_xt_140 : mm_allL (fun q => mm_xR tb_P tb_TB tb_SB tb_cl tb_cn tb_kb tb_hs tb_X 140 q.1 q.2) ((tb_XT[140]?).getD []) := trivial
set_option maxRecDepth 20000 in
theorem tb_xt_141 : mm_allL (fun q => mm_xR tb_P tb_TB tb_SB tb_cl tb_cn tb_kb tb_hs tb_X 141 q.1 q.2) ((tb_XT[141]?).getD []) := trivial
set_option maxRecDepth 20000 in
theorem tb_xt_142 : mm_allL (fun q => mm_xR tb_P tb_TB tb_SB tb_cl tb_cn tb_kb tb_hs tb_X 142 q.1 q.2) ((tb_XT[142]?).getD []) := trivial
set_option maxRecDepth 20000 in
theorem tb_xt_143 : mm_allL (fun q => mm_xR tb_P tb_TB tb_SB tb_cl tb_cn tb_kb tb_hs tb_X 143 q.1 q.2) ((tb_XT[143]?).getD []) := trivial
set_option maxRecDepth 20000 in
theorem tb_xt_144 : mm_allL (fun q => mm_xR tb_P tb_TB tb_SB tb_cl tb_cn tb_kb tb_hs tb_X 144 q.1 q.2) ((tb_XT[144]?).getD []) := trivial
set_option maxRecDepth 20000 in
theorem tb_xt_145 : mm_allL (fun q => mm_xR tb_P tb_TB tb_SB tb_cl tb_cn tb_kb tb_hs tb_X 145 q.1 q.2) ((tb_XT[145]?).getD []) := trivial
set_option maxRecDepth 20000 in
theorem tb_xt_146 : mm_allL (fun q => mm_xR tb_P tb_TB tb_SB tb_cl tb_cn tb_kb tb_hs tb_X 146 q.1 q.2) ((tb_XT[146]?).getD []) := trivial
set_option maxRecDepth 20000 in
theorem tb_xt_147 : mm_allL (fun q => mm_xR tb_P tb_TB tb_SB tb_cl tb_cn tb_kb tb_hs tb_X 147 q.1 q.2) ((tb_XT[147]?).getD []) := trivial
set_option maxRecDepth 20000 in
theorem tb_xt_148 : mm_allL (fun q => mm_xR tb_P tb_TB tb_SB tb_cl tb_cn tb_kb tb_hs tb_X 148 q.1 q.2) ((tb_XT[148]?).getD []) := trivial
set_option maxRecDepth 20000 in
theorem tb_xt_149 : mm_allL (fun q => mm_xR tb_P tb_TB tb_SB tb_cl tb_cn tb_kb tb_hs tb_X 149 q.1 q.2) ((tb_XT[149]?).getD []) := trivial
set_option maxRecDepth 20000 in
theorem tb_xt_150 : mm_allL (fun q => mm_xR tb_P tb_TB tb_SB tb_cl tb_cn tb_kb tb_hs tb_X 150 q.1 q.2) ((tb_XT[150]?).getD []) := trivial
set_option maxRecDepth 20000 in
theorem tb_xt_151 : mm_allL (fun q => mm_xR tb_P tb_TB tb_SB tb_cl tb_cn tb_kb tb_hs tb_X 151 q.1 q.2) ((tb_XT[151]?).getD []) := trivial
set_option maxRecDepth 20000 in
theorem tb_xt_152 : mm_allL (fun q => mm_xR tb_P tb_TB tb_SB tb_cl tb_cn tb_kb tb_hs tb_X 152 q.1 q.2) ((tb_XT[152]?).getD []) := trivial
set_option maxRecDepth 20000 in
theorem tb_xt_153 : mm_allL (fun q => mm_xR tb_P tb_TB tb_SB tb_cl tb_cn tb_kb tb_hs tb_X 153 q.1 q.2) ((tb_XT[153]?).getD []) := trivial
set_option maxRecDepth 20000 in
theorem tb_xt_154 : mm_allL (fun q => mm_xR tb_P tb_TB tb_SB tb_cl tb_cn tb_kb tb_hs tb_X 154 q.1 q.2) ((tb_XT[154]?).getD []) := trivial
set_option maxRecDepth 20000 in
theorem tb_xt_155 : mm_allL (fun q => mm_xR tb_P tb_TB tb_SB tb_cl tb_cn tb_kb tb_hs tb_X 155 q.1 q.2) ((tb_XT[155]?).getD []) := trivial
set_option maxRecDepth 20000 in
theorem tb_xt_156 : mm_allL (fun q => mm_xR tb_P tb_TB tb_SB tb_cl tb_cn tb_kb tb_hs tb_X 156 q.1 q.2) ((tb_XT[156]?).getD []) := trivial
set_option maxRecDepth 20000 in
theorem tb_xt_157 : mm_allL (fun q => mm_xR tb_P tb_TB tb_SB tb_cl tb_cn tb_kb tb_hs tb_X 157 q.1 q.2) ((tb_XT[157]?).getD []) := trivial
set_option maxRecDepth 20000 in
theorem tb_xt_158 : mm_allL (fun q => mm_xR tb_P tb_TB tb_SB tb_cl tb_cn tb_kb tb_hs tb_X 158 q.1 q.2) ((tb_XT[158]?).getD []) := trivial
set_option maxRecDepth 20000 in
theorem tb_xt_159 : mm_allL (fun q => mm_xR tb_P tb_TB tb_SB tb_cl tb_cn tb_kb tb_hs tb_X 159 q.1 q.2) ((tb_XT[159]?).getD []) := trivial
set_option maxRecDepth 20000 in
theorem tb_xt_160 : mm_allL (fun q => mm_xR tb_P tb_TB tb_SB tb_cl tb_cn tb_kb tb_hs tb_X 160 q.1 q.2) ((tb_XT[160]?).getD []) := trivial
set_option maxRecDepth 20000 in
theorem tb_xt_161 : mm_allL (fun q => mm_xR tb_P tb_TB tb_SB tb_cl tb_cn tb_kb tb_hs tb_X 161 q.1 q.2) ((tb_XT[161]?).getD []) := trivial
set_option maxRecDepth 20000 in
theorem tb_xt_162 : mm_allL (fun q => mm_xR tb_P tb_TB tb_SB tb_cl tb_cn tb_kb tb_hs tb_X 162 q.1 q.2) ((tb_XT[162]?).getD []) := trivial
set_option maxRecDepth 20000 in
theorem tb_xt_163 : mm_allL (fun q => mm_xR tb_P tb_TB tb_SB tb_cl tb_cn tb_kb tb_hs tb_X 163 q.1 q.2) ((tb_XT[163]?).getD []) := trivial
set_option maxRecDepth 20000 in
theorem tb_xt_164 : mm_allL (fun q => mm_xR tb_P tb_TB tb_SB tb_cl tb_cn tb_kb tb_hs tb_X 164 q.1 q.2) ((tb_XT[164]?).getD []) := trivial
set_option maxRecDepth 20000 in
theorem tb_xt_165 : mm_allL (fun q => mm_xR tb_P tb_TB tb_SB tb_cl tb_cn tb_kb tb_hs tb_X 165 q.1 q.2) ((tb_XT[165]?).getD []) := trivial
set_option maxRecDepth 20000 in
theorem tb_xt_166 : mm_allL (fun q => mm_xR tb_P tb_TB tb_SB tb_cl tb_cn tb_kb tb_hs tb_X 166 q.1 q.2) ((tb_XT[166]?).getD []) := trivial
set_option maxRecDepth 20000 in
theorem tb_xt_167 : mm_allL (fun q => mm_xR tb_P tb_TB tb_SB tb_cl tb_cn tb_kb tb_hs tb_X 167 q.1 q.2) ((tb_XT[167]?).getD []) := ⟨⟨Or.inl rfl, by decide, "java/lang/IllegalStateException", tb_TX, 91, 93, 95, "the line would be too long", tb_names2, rfl, by decide +kernel, by decide +kernel, by decide +kernel, by decide +kernel, by decide +kernel, (tb_i6 (List.mem_of_getElem? (i := 47) rfl) rfl), (tb_i3 (List.mem_of_getElem? (i := 147) rfl) rfl), (tb_i1 (List.mem_of_getElem? (i := 16) rfl) rfl), List.mem_of_getElem? (i := 0) rfl, tb_fit.1, tb_fit.2.2, rfl, mm_allL_mem tb_x0⟩, trivial⟩
set_option maxRecDepth 20000 in
theorem tb_xt_168 : mm_allL (fun q => mm_xR tb_P tb_TB tb_SB tb_cl tb_cn tb_kb tb_hs tb_X 168 q.1 q.2) ((tb_XT[168]?).getD []) := trivial
set_option maxRecDepth 20000 in
theorem tb_xt_169 : mm_allL (fun q => mm_xR tb_P tb_TB tb_SB tb_cl tb_cn tb_kb tb_hs tb_X 169 q.1 q.2) ((tb_XT[169]?).getD []) := ⟨⟨Or.inr rfl, by decide, "java/lang/IllegalArgumentException", tb_TX, 129, 131, 133, "what is 0 to 5", tb_names2, rfl, by decide +kernel, by decide +kernel, by decide +kernel, by decide +kernel, by decide +kernel, (tb_i6 (List.mem_of_getElem? (i := 62) rfl) rfl), (tb_i6 (List.mem_of_getElem? (i := 63) rfl) rfl), (tb_i1 (List.mem_of_getElem? (i := 26) rfl) rfl), List.mem_of_getElem? (i := 1) rfl, tb_fit.2.1, tb_fit.2.2, rfl, mm_allL_mem tb_x1⟩, trivial⟩
set_option maxRecDepth 20000 in
theorem tb_xt_170 : mm_allL (fun q => mm_xR tb_P tb_TB tb_SB tb_cl tb_cn tb_kb tb_hs tb_X 170 q.1 q.2) ((tb_XT[170]?).getD []) := ⟨⟨Or.inr rfl, by decide, "java/lang/IllegalArgumentException", tb_TX, 129, 131, 133, "what is 0 to 5", tb_names2, rfl, by decide +kernel, by decide +kernel, by decide +kernel, by decide +kernel, by decide +kernel, (tb_i6 (List.mem_of_getElem? (i := 62) rfl) rfl), (tb_i6 (List.mem_of_getElem? (i := 63) rfl) rfl), (tb_i1 (List.mem_of_getElem? (i := 26) rfl) rfl), List.mem_of_getElem? (i := 1) rfl, tb_fit.2.1, tb_fit.2.2, rfl, mm_allL_mem tb_x1⟩,
  ⟨Or.inl rfl, by decide, "java/lang/IllegalStateException", tb_TX, 91, 137, 95, "no such goal", tb_names2, rfl, by decide +kernel, by decide +kernel, by decide +kernel, by decide +kernel, by decide +kernel, (tb_i6 (List.mem_of_getElem? (i := 47) rfl) rfl), (tb_i3 (List.mem_of_getElem? (i := 147) rfl) rfl), (tb_i1 (List.mem_of_getElem? (i := 16) rfl) rfl), List.mem_of_getElem? (i := 2) rfl, tb_fit.1, tb_fit.2.2, rfl, mm_allL_mem tb_x0⟩, trivial⟩
set_option maxRecDepth 20000 in
theorem tb_xt_171 : mm_allL (fun q => mm_xR tb_P tb_TB tb_SB tb_cl tb_cn tb_kb tb_hs tb_X 171 q.1 q.2) ((tb_XT[171]?).getD []) := ⟨⟨Or.inr rfl, by decide, "java/lang/IllegalArgumentException", tb_TX, 129, 143, 133, "how is 0 or 1, k not below 0", tb_names2, rfl, by decide +kernel, by decide +kernel, by decide +kernel, by decide +kernel, by decide +kernel, (tb_i6 (List.mem_of_getElem? (i := 62) rfl) rfl), (tb_i6 (List.mem_of_getElem? (i := 63) rfl) rfl), (tb_i1 (List.mem_of_getElem? (i := 26) rfl) rfl), List.mem_of_getElem? (i := 3) rfl, tb_fit.2.1, tb_fit.2.2, rfl, mm_allL_mem tb_x1⟩,
  ⟨Or.inl rfl, by decide, "java/lang/IllegalStateException", tb_TX, 91, 149, 95, "not accepted, or no such function", tb_names2, rfl, by decide +kernel, by decide +kernel, by decide +kernel, by decide +kernel, by decide +kernel, (tb_i6 (List.mem_of_getElem? (i := 47) rfl) rfl), (tb_i3 (List.mem_of_getElem? (i := 147) rfl) rfl), (tb_i1 (List.mem_of_getElem? (i := 16) rfl) rfl), List.mem_of_getElem? (i := 4) rfl, tb_fit.1, tb_fit.2.2, rfl, mm_allL_mem tb_x0⟩, trivial⟩
set_option maxRecDepth 20000 in
theorem tb_xt_172 : mm_allL (fun q => mm_xR tb_P tb_TB tb_SB tb_cl tb_cn tb_kb tb_hs tb_X 172 q.1 q.2) ((tb_XT[172]?).getD []) := trivial
set_option maxRecDepth 20000 in
theorem tb_xt_173 : mm_allL (fun q => mm_xR tb_P tb_TB tb_SB tb_cl tb_cn tb_kb tb_hs tb_X 173 q.1 q.2) ((tb_XT[173]?).getD []) := ⟨⟨Or.inr rfl, by decide, "java/lang/IllegalArgumentException", tb_TX, 129, 161, 133, "no such slot, or no such number", tb_names2, rfl, by decide +kernel, by decide +kernel, by decide +kernel, by decide +kernel, by decide +kernel, (tb_i6 (List.mem_of_getElem? (i := 62) rfl) rfl), (tb_i6 (List.mem_of_getElem? (i := 63) rfl) rfl), (tb_i1 (List.mem_of_getElem? (i := 26) rfl) rfl), List.mem_of_getElem? (i := 5) rfl, tb_fit.2.1, tb_fit.2.2, rfl, mm_allL_mem tb_x1⟩, trivial⟩
set_option maxRecDepth 20000 in
theorem tb_xt_174 : mm_allL (fun q => mm_xR tb_P tb_TB tb_SB tb_cl tb_cn tb_kb tb_hs tb_X 174 q.1 q.2) ((tb_XT[174]?).getD []) := trivial
set_option maxRecDepth 20000 in
theorem tb_xt_175 : mm_allL (fun q => mm_xR tb_P tb_TB tb_SB tb_cl tb_cn tb_kb tb_hs tb_X 175 q.1 q.2) ((tb_XT[175]?).getD []) := trivial
set_option maxRecDepth 20000 in
theorem tb_xt_176 : mm_allL (fun q => mm_xR tb_P tb_TB tb_SB tb_cl tb_cn tb_kb tb_hs tb_X 176 q.1 q.2) ((tb_XT[176]?).getD []) := ⟨⟨Or.inr rfl, by decide, "java/lang/IllegalArgumentException", tb_TX, 129, 166, 133, "no such slot, or no such length", tb_names2, rfl, by decide +kernel, by decide +kernel, by decide +kernel, by decide +kernel, by decide +kernel, (tb_i6 (List.mem_of_getElem? (i := 62) rfl) rfl), (tb_i6 (List.mem_of_getElem? (i := 63) rfl) rfl), (tb_i1 (List.mem_of_getElem? (i := 26) rfl) rfl), List.mem_of_getElem? (i := 6) rfl, tb_fit.2.1, tb_fit.2.2, rfl, mm_allL_mem tb_x1⟩, trivial⟩
set_option maxRecDepth 20000 in
theorem tb_xt_177 : mm_allL (fun q => mm_xR tb_P tb_TB tb_SB tb_cl tb_cn tb_kb tb_hs tb_X 177 q.1 q.2) ((tb_XT[177]?).getD []) := ⟨⟨Or.inr rfl, by decide, "java/lang/IllegalArgumentException", tb_TX, 129, 161, 133, "no such slot, or no such number", tb_names2, rfl, by decide +kernel, by decide +kernel, by decide +kernel, by decide +kernel, by decide +kernel, (tb_i6 (List.mem_of_getElem? (i := 62) rfl) rfl), (tb_i6 (List.mem_of_getElem? (i := 63) rfl) rfl), (tb_i1 (List.mem_of_getElem? (i := 26) rfl) rfl), List.mem_of_getElem? (i := 5) rfl, tb_fit.2.1, tb_fit.2.2, rfl, mm_allL_mem tb_x1⟩,
  ⟨Or.inl rfl, by decide, "java/lang/IllegalStateException", tb_TX, 91, 175, 95, "no such number in the slot", tb_names2, rfl, by decide +kernel, by decide +kernel, by decide +kernel, by decide +kernel, by decide +kernel, (tb_i6 (List.mem_of_getElem? (i := 47) rfl) rfl), (tb_i3 (List.mem_of_getElem? (i := 147) rfl) rfl), (tb_i1 (List.mem_of_getElem? (i := 16) rfl) rfl), List.mem_of_getElem? (i := 7) rfl, tb_fit.1, tb_fit.2.2, rfl, mm_allL_mem tb_x0⟩, trivial⟩
set_option maxRecDepth 20000 in
theorem tb_xt_178 : mm_allL (fun q => mm_xR tb_P tb_TB tb_SB tb_cl tb_cn tb_kb tb_hs tb_X 178 q.1 q.2) ((tb_XT[178]?).getD []) := ⟨⟨Or.inr rfl, by decide, "java/lang/IllegalArgumentException", tb_TX, 129, 181, 133, "no such slot", tb_names2, rfl, by decide +kernel, by decide +kernel, by decide +kernel, by decide +kernel, by decide +kernel, (tb_i6 (List.mem_of_getElem? (i := 62) rfl) rfl), (tb_i6 (List.mem_of_getElem? (i := 63) rfl) rfl), (tb_i1 (List.mem_of_getElem? (i := 26) rfl) rfl), List.mem_of_getElem? (i := 8) rfl, tb_fit.2.1, tb_fit.2.2, rfl, mm_allL_mem tb_x1⟩,
  ⟨Or.inl rfl, by decide, "java/lang/IllegalStateException", tb_TX, 91, 175, 95, "no such number in the slot", tb_names2, rfl, by decide +kernel, by decide +kernel, by decide +kernel, by decide +kernel, by decide +kernel, (tb_i6 (List.mem_of_getElem? (i := 47) rfl) rfl), (tb_i3 (List.mem_of_getElem? (i := 147) rfl) rfl), (tb_i1 (List.mem_of_getElem? (i := 16) rfl) rfl), List.mem_of_getElem? (i := 7) rfl, tb_fit.1, tb_fit.2.2, rfl, mm_allL_mem tb_x0⟩, trivial⟩
set_option maxRecDepth 20000 in
theorem tb_xt_179 : mm_allL (fun q => mm_xR tb_P tb_TB tb_SB tb_cl tb_cn tb_kb tb_hs tb_X 179 q.1 q.2) ((tb_XT[179]?).getD []) := ⟨⟨Or.inr rfl, by decide, "java/lang/IllegalArgumentException", tb_TX, 129, 189, 133, "no such value, or no such number", tb_names2, rfl, by decide +kernel, by decide +kernel, by decide +kernel, by decide +kernel, by decide +kernel, (tb_i6 (List.mem_of_getElem? (i := 62) rfl) rfl), (tb_i6 (List.mem_of_getElem? (i := 63) rfl) rfl), (tb_i1 (List.mem_of_getElem? (i := 26) rfl) rfl), List.mem_of_getElem? (i := 9) rfl, tb_fit.2.1, tb_fit.2.2, rfl, mm_allL_mem tb_x1⟩, trivial⟩
set_option maxRecDepth 20000 in
theorem tb_xt_180 : mm_allL (fun q => mm_xR tb_P tb_TB tb_SB tb_cl tb_cn tb_kb tb_hs tb_X 180 q.1 q.2) ((tb_XT[180]?).getD []) := ⟨⟨Or.inr rfl, by decide, "java/lang/IllegalArgumentException", tb_TX, 129, 194, 133, "how is 0 or 1, steps 1 to 20000", tb_names2, rfl, by decide +kernel, by decide +kernel, by decide +kernel, by decide +kernel, by decide +kernel, (tb_i6 (List.mem_of_getElem? (i := 62) rfl) rfl), (tb_i6 (List.mem_of_getElem? (i := 63) rfl) rfl), (tb_i1 (List.mem_of_getElem? (i := 26) rfl) rfl), List.mem_of_getElem? (i := 10) rfl, tb_fit.2.1, tb_fit.2.2, rfl, mm_allL_mem tb_x1⟩,
  ⟨Or.inl rfl, by decide, "java/lang/IllegalStateException", tb_TX, 91, 149, 95, "not accepted, or no such function", tb_names2, rfl, by decide +kernel, by decide +kernel, by decide +kernel, by decide +kernel, by decide +kernel, (tb_i6 (List.mem_of_getElem? (i := 47) rfl) rfl), (tb_i3 (List.mem_of_getElem? (i := 147) rfl) rfl), (tb_i1 (List.mem_of_getElem? (i := 16) rfl) rfl), List.mem_of_getElem? (i := 4) rfl, tb_fit.1, tb_fit.2.2, rfl, mm_allL_mem tb_x0⟩, trivial⟩
set_option maxRecDepth 20000 in
theorem tb_xt_181 : mm_allL (fun q => mm_xR tb_P tb_TB tb_SB tb_cl tb_cn tb_kb tb_hs tb_X 181 q.1 q.2) ((tb_XT[181]?).getD []) := ⟨⟨Or.inr rfl, by decide, "java/lang/IllegalArgumentException", tb_TX, 129, 204, 133, "what is 0 to 7", tb_names2, rfl, by decide +kernel, by decide +kernel, by decide +kernel, by decide +kernel, by decide +kernel, (tb_i6 (List.mem_of_getElem? (i := 62) rfl) rfl), (tb_i6 (List.mem_of_getElem? (i := 63) rfl) rfl), (tb_i1 (List.mem_of_getElem? (i := 26) rfl) rfl), List.mem_of_getElem? (i := 11) rfl, tb_fit.2.1, tb_fit.2.2, rfl, mm_allL_mem tb_x1⟩, trivial⟩
set_option maxRecDepth 20000 in
theorem tb_xt_182 : mm_allL (fun q => mm_xR tb_P tb_TB tb_SB tb_cl tb_cn tb_kb tb_hs tb_X 182 q.1 q.2) ((tb_XT[182]?).getD []) := ⟨⟨Or.inr rfl, by decide, "java/lang/IllegalArgumentException", tb_TX, 129, 219, 133, "a number is too great or too small", tb_names2, rfl, by decide +kernel, by decide +kernel, by decide +kernel, by decide +kernel, by decide +kernel, (tb_i6 (List.mem_of_getElem? (i := 62) rfl) rfl), (tb_i6 (List.mem_of_getElem? (i := 63) rfl) rfl), (tb_i1 (List.mem_of_getElem? (i := 26) rfl) rfl), List.mem_of_getElem? (i := 12) rfl, tb_fit.2.1, tb_fit.2.2, rfl, mm_allL_mem tb_x1⟩,
  ⟨Or.inl rfl, by decide, "java/lang/IllegalStateException", tb_TX, 91, 224, 95, "the desk is full", tb_names2, rfl, by decide +kernel, by decide +kernel, by decide +kernel, by decide +kernel, by decide +kernel, (tb_i6 (List.mem_of_getElem? (i := 47) rfl) rfl), (tb_i3 (List.mem_of_getElem? (i := 147) rfl) rfl), (tb_i1 (List.mem_of_getElem? (i := 16) rfl) rfl), List.mem_of_getElem? (i := 13) rfl, tb_fit.1, tb_fit.2.2, rfl, mm_allL_mem tb_x0⟩, trivial⟩
set_option maxRecDepth 20000 in
theorem tb_xt_183 : mm_allL (fun q => mm_xR tb_P tb_TB tb_SB tb_cl tb_cn tb_kb tb_hs tb_X 183 q.1 q.2) ((tb_XT[183]?).getD []) := trivial
set_option maxRecDepth 20000 in
theorem tb_xt_184 : mm_allL (fun q => mm_xR tb_P tb_TB tb_SB tb_cl tb_cn tb_kb tb_hs tb_X 184 q.1 q.2) ((tb_XT[184]?).getD []) := trivial
set_option maxRecDepth 20000 in
theorem tb_xt_185 : mm_allL (fun q => mm_xR tb_P tb_TB tb_SB tb_cl tb_cn tb_kb tb_hs tb_X 185 q.1 q.2) ((tb_XT[185]?).getD []) := ⟨⟨Or.inr rfl, by decide, "java/lang/IllegalArgumentException", tb_TX, 129, 219, 133, "a number is too great or too small", tb_names2, rfl, by decide +kernel, by decide +kernel, by decide +kernel, by decide +kernel, by decide +kernel, (tb_i6 (List.mem_of_getElem? (i := 62) rfl) rfl), (tb_i6 (List.mem_of_getElem? (i := 63) rfl) rfl), (tb_i1 (List.mem_of_getElem? (i := 26) rfl) rfl), List.mem_of_getElem? (i := 12) rfl, tb_fit.2.1, tb_fit.2.2, rfl, mm_allL_mem tb_x1⟩, trivial⟩
set_option maxRecDepth 20000 in
theorem tb_xt_186 : mm_allL (fun q => mm_xR tb_P tb_TB tb_SB tb_cl tb_cn tb_kb tb_hs tb_X 186 q.1 q.2) ((tb_XT[186]?).getD []) := trivial
set_option maxRecDepth 20000 in
theorem tb_xt_187 : mm_allL (fun q => mm_xR tb_P tb_TB tb_SB tb_cl tb_cn tb_kb tb_hs tb_X 187 q.1 q.2) ((tb_XT[187]?).getD []) := trivial
set_option maxRecDepth 20000 in
theorem tb_xt_188 : mm_allL (fun q => mm_xR tb_P tb_TB tb_SB tb_cl tb_cn tb_kb tb_hs tb_X 188 q.1 q.2) ((tb_XT[188]?).getD []) := trivial
set_option maxRecDepth 20000 in
theorem tb_xt_189 : mm_allL (fun q => mm_xR tb_P tb_TB tb_SB tb_cl tb_cn tb_kb tb_hs tb_X 189 q.1 q.2) ((tb_XT[189]?).getD []) := trivial
set_option maxRecDepth 20000 in
theorem tb_xt_190 : mm_allL (fun q => mm_xR tb_P tb_TB tb_SB tb_cl tb_cn tb_kb tb_hs tb_X 190 q.1 q.2) ((tb_XT[190]?).getD []) := trivial
set_option maxRecDepth 20000 in
theorem tb_xt_191 : mm_allL (fun q => mm_xR tb_P tb_TB tb_SB tb_cl tb_cn tb_kb tb_hs tb_X 191 q.1 q.2) ((tb_XT[191]?).getD []) := trivial
set_option maxRecDepth 20000 in
theorem tb_xt_192 : mm_allL (fun q => mm_xR tb_P tb_TB tb_SB tb_cl tb_cn tb_kb tb_hs tb_X 192 q.1 q.2) ((tb_XT[192]?).getD []) := trivial
set_option maxRecDepth 20000 in
theorem tb_xt_193 : mm_allL (fun q => mm_xR tb_P tb_TB tb_SB tb_cl tb_cn tb_kb tb_hs tb_X 193 q.1 q.2) ((tb_XT[193]?).getD []) := trivial
set_option maxRecDepth 20000 in
theorem tb_xt_194 : mm_allL (fun q => mm_xR tb_P tb_TB tb_SB tb_cl tb_cn tb_kb tb_hs tb_X 194 q.1 q.2) ((tb_XT[194]?).getD []) := trivial
set_option maxRecDepth 20000 in
theorem tb_xt_195 : mm_allL (fun q => mm_xR tb_P tb_TB tb_SB tb_cl tb_cn tb_kb tb_hs tb_X 195 q.1 q.2) ((tb_XT[195]?).getD []) := trivial
set_option maxRecDepth 20000 in
theorem tb_xt_196 : mm_allL (fun q => mm_xR tb_P tb_TB tb_SB tb_cl tb_cn tb_kb tb_hs tb_X 196 q.1 q.2) ((tb_XT[196]?).getD []) := trivial
set_option maxRecDepth 20000 in
theorem tb_xt_197 : mm_allL (fun q => mm_xR tb_P tb_TB tb_SB tb_cl tb_cn tb_kb tb_hs tb_X 197 q.1 q.2) ((tb_XT[197]?).getD []) := trivial
set_option maxRecDepth 20000 in
theorem tb_xt_198 : mm_allL (fun q => mm_xR tb_P tb_TB tb_SB tb_cl tb_cn tb_kb tb_hs tb_X 198 q.1 q.2) ((tb_XT[198]?).getD []) := trivial
set_option maxRecDepth 20000 in
theorem tb_xt_199 : mm_allL (fun q => mm_xR tb_P tb_TB tb_SB tb_cl tb_cn tb_kb tb_hs tb_X 199 q.1 q.2) ((tb_XT[199]?).getD []) := trivial
set_option maxRecDepth 20000 in
theorem tb_xt_200 : mm_allL (fun q => mm_xR tb_P tb_TB tb_SB tb_cl tb_cn tb_kb tb_hs tb_X 200 q.1 q.2) ((tb_XT[200]?).getD []) := trivial
set_option maxRecDepth 20000 in
theorem tb_xt_201 : mm_allL (fun q => mm_xR tb_P tb_TB tb_SB tb_cl tb_cn tb_kb tb_hs tb_X 201 q.1 q.2) ((tb_XT[201]?).getD []) := trivial
set_option maxRecDepth 20000 in
theorem tb_xt_202 : mm_allL (fun q => mm_xR tb_P tb_TB tb_SB tb_cl tb_cn tb_kb tb_hs tb_X 202 q.1 q.2) ((tb_XT[202]?).getD []) := trivial
set_option maxRecDepth 20000 in
theorem tb_xt_203 : mm_allL (fun q => mm_xR tb_P tb_TB tb_SB tb_cl tb_cn tb_kb tb_hs tb_X 203 q.1 q.2) ((tb_XT[203]?).getD []) := trivial
set_option maxRecDepth 20000 in
theorem tb_xt_204 : mm_allL (fun q => mm_xR tb_P tb_TB tb_SB tb_cl tb_cn tb_kb tb_hs tb_X 204 q.1 q.2) ((tb_XT[204]?).getD []) := ⟨⟨Or.inl rfl, by decide, "java/lang/IllegalStateException", tb_TX, 82, 186, 188, "the line cannot go on so", tb_names2, rfl, by decide +kernel, by decide +kernel, by decide +kernel, by decide +kernel, by decide +kernel, (tb_i3 (List.mem_of_getElem? (i := 8) rfl) rfl), (tb_i3 (List.mem_of_getElem? (i := 147) rfl) rfl), (tb_i1 (List.mem_of_getElem? (i := 16) rfl) rfl), List.mem_of_getElem? (i := 15) rfl, tb_fit.1, tb_fit.2.2, rfl, mm_allL_mem tb_x3⟩, trivial⟩
set_option maxRecDepth 20000 in
theorem tb_xt_205 : mm_allL (fun q => mm_xR tb_P tb_TB tb_SB tb_cl tb_cn tb_kb tb_hs tb_X 205 q.1 q.2) ((tb_XT[205]?).getD []) := trivial
set_option maxRecDepth 20000 in
theorem tb_xt_206 : mm_allL (fun q => mm_xR tb_P tb_TB tb_SB tb_cl tb_cn tb_kb tb_hs tb_X 206 q.1 q.2) ((tb_XT[206]?).getD []) := trivial
set_option maxRecDepth 20000 in
theorem tb_xt_207 : mm_allL (fun q => mm_xR tb_P tb_TB tb_SB tb_cl tb_cn tb_kb tb_hs tb_X 207 q.1 q.2) ((tb_XT[207]?).getD []) := trivial
set_option maxRecDepth 20000 in
theorem tb_xt_208 : mm_allL (fun q => mm_xR tb_P tb_TB tb_SB tb_cl tb_cn tb_kb tb_hs tb_X 208 q.1 q.2) ((tb_XT[208]?).getD []) := trivial
set_option maxRecDepth 20000 in
theorem tb_xt_209 : mm_allL (fun q => mm_xR tb_P tb_TB tb_SB tb_cl tb_cn tb_kb tb_hs tb_X 209 q.1 q.2) ((tb_XT[209]?).getD []) := trivial
set_option maxRecDepth 20000 in
theorem tb_xt_210 : mm_allL (fun q => mm_xR tb_P tb_TB tb_SB tb_cl tb_cn tb_kb tb_hs tb_X 210 q.1 q.2) ((tb_XT[210]?).getD []) := trivial
set_option maxRecDepth 20000 in
theorem tb_xt_211 : mm_allL (fun q => mm_xR tb_P tb_TB tb_SB tb_cl tb_cn tb_kb tb_hs tb_X 211 q.1 q.2) ((tb_XT[211]?).getD []) := trivial
set_option maxRecDepth 20000 in
theorem tb_xt_212 : mm_allL (fun q => mm_xR tb_P tb_TB tb_SB tb_cl tb_cn tb_kb tb_hs tb_X 212 q.1 q.2) ((tb_XT[212]?).getD []) := trivial
set_option maxRecDepth 20000 in
theorem tb_xt_213 : mm_allL (fun q => mm_xR tb_P tb_TB tb_SB tb_cl tb_cn tb_kb tb_hs tb_X 213 q.1 q.2) ((tb_XT[213]?).getD []) := trivial
set_option maxRecDepth 20000 in
theorem tb_xt_214 : mm_allL (fun q => mm_xR tb_P tb_TB tb_SB tb_cl tb_cn tb_kb tb_hs tb_X 214 q.1 q.2) ((tb_XT[214]?).getD []) := trivial
set_option maxRecDepth 20000 in
theorem tb_xt_215 : mm_allL (fun q => mm_xR tb_P tb_TB tb_SB tb_cl tb_cn tb_kb tb_hs tb_X 215 q.1 q.2) ((tb_XT[215]?).getD []) := trivial
set_option maxRecDepth 20000 in
theorem tb_xt_216 : mm_allL (fun q => mm_xR tb_P tb_TB tb_SB tb_cl tb_cn tb_kb tb_hs tb_X 216 q.1 q.2) ((tb_XT[216]?).getD []) := trivial
set_option maxRecDepth 20000 in
theorem tb_xt_217 : mm_allL (fun q => mm_xR tb_P tb_TB tb_SB tb_cl tb_cn tb_kb tb_hs tb_X 217 q.1 q.2) ((tb_XT[217]?).getD []) := trivial
set_option maxRecDepth 20000 in
theorem tb_xt_218 : mm_allL (fun q => mm_xR tb_P tb_TB tb_SB tb_cl tb_cn tb_kb tb_hs tb_X 218 q.1 q.2) ((tb_XT[218]?).getD []) := trivial
set_option maxRecDepth 20000 in
theorem tb_xt_219 : mm_allL (fun q => mm_xR tb_P tb_TB tb_SB tb_cl tb_cn tb_kb tb_hs tb_X 219 q.1 q.2) ((tb_XT[219]?).getD []) := trivial
set_option maxRecDepth 20000 in
theorem tb_xt_220 : mm_allL (fun q => mm_xR tb_P tb_TB tb_SB tb_cl tb_cn tb_kb tb_hs tb_X 220 q.1 q.2) ((tb_XT[220]?).getD []) := trivial
set_option maxRecDepth 20000 in
theorem tb_xt_221 : mm_allL (fun q => mm_xR tb_P tb_TB tb_SB tb_cl tb_cn tb_kb tb_hs tb_X 221 q.1 q.2) ((tb_XT[221]?).getD []) := trivial
set_option maxRecDepth 20000 in
theorem tb_xt_222 : mm_allL (fun q => mm_xR tb_P tb_TB tb_SB tb_cl tb_cn tb_kb tb_hs tb_X 222 q.1 q.2) ((tb_XT[222]?).getD []) := trivial
set_option maxRecDepth 20000 in
theorem tb_xt_223 : mm_allL (fun q => mm_xR tb_P tb_TB tb_SB tb_cl tb_cn tb_kb tb_hs tb_X 223 q.1 q.2) ((tb_XT[223]?).getD []) := trivial
set_option maxRecDepth 20000 in
theorem tb_xt_224 : mm_allL (fun q => mm_xR tb_P tb_TB tb_SB tb_cl tb_cn tb_kb tb_hs tb_X 224 q.1 q.2) ((tb_XT[224]?).getD []) := trivial
set_option maxRecDepth 20000 in
theorem tb_xt_225 : mm_allL (fun q => mm_xR tb_P tb_TB tb_SB tb_cl tb_cn tb_kb tb_hs tb_X 225 q.1 q.2) ((tb_XT[225]?).getD []) := trivial
set_option maxRecDepth 20000 in
theorem tb_xt_226 : mm_allL (fun q => mm_xR tb_P tb_TB tb_SB tb_cl tb_cn tb_kb tb_hs tb_X 226 q.1 q.2) ((tb_XT[226]?).getD []) := trivial
set_option maxRecDepth 20000 in
theorem tb_xt_227 : mm_allL (fun q => mm_xR tb_P tb_TB tb_SB tb_cl tb_cn tb_kb tb_hs tb_X 227 q.1 q.2) ((tb_XT[227]?).getD []) := trivial
set_option maxRecDepth 20000 in
theorem tb_xt_228 : mm_allL (fun q => mm_xR tb_P tb_TB tb_SB tb_cl tb_cn tb_kb tb_hs tb_X 228 q.1 q.2) ((tb_XT[228]?).getD []) := trivial
set_option maxRecDepth 20000 in
theorem tb_xt_229 : mm_allL (fun q => mm_xR tb_P tb_TB tb_SB tb_cl tb_cn tb_kb tb_hs tb_X 229 q.1 q.2) ((tb_XT[229]?).getD []) := trivial
set_option maxRecDepth 20000 in
theorem tb_xt_230 : mm_allL (fun q => mm_xR tb_P tb_TB tb_SB tb_cl tb_cn tb_kb tb_hs tb_X 230 q.1 q.2) ((tb_XT[230]?).getD []) := trivial
set_option maxRecDepth 20000 in
theorem tb_xt_231 : mm_allL (fun q => mm_xR tb_P tb_TB tb_SB tb_cl tb_cn tb_kb tb_hs tb_X 231 q.1 q.2) ((tb_XT[231]?).getD []) := trivial
set_option maxRecDepth 20000 in
theorem tb_xt_232 : mm_allL (fun q => mm_xR tb_P tb_TB tb_SB tb_cl tb_cn tb_kb tb_hs tb_X 232 q.1 q.2) ((tb_XT[232]?).getD []) := trivial
set_option maxRecDepth 20000 in
theorem tb_xt_233 : mm_allL (fun q => mm_xR tb_P tb_TB tb_SB tb_cl tb_cn tb_kb tb_hs tb_X 233 q.1 q.2) ((tb_XT[233]?).getD []) := trivial
set_option maxRecDepth 20000 in
theorem tb_xt_234 : mm_allL (fun q => mm_xR tb_P tb_TB tb_SB tb_cl tb_cn tb_kb tb_hs tb_X 234 q.1 q.2) ((tb_XT[234]?).getD []) := trivial
set_option maxRecDepth 20000 in
theorem tb_xt_235 : mm_allL (fun q => mm_xR tb_P tb_TB tb_SB tb_cl tb_cn tb_kb tb_hs tb_X 235 q.1 q.2) ((tb_XT[235]?).getD []) := trivial
set_option maxRecDepth 20000 in
theorem tb_xt_236 : mm_allL (fun q => mm_xR tb_P tb_TB tb_SB tb_cl tb_cn tb_kb tb_hs tb_X 236 q.1 q.2) ((tb_XT[236]?).getD []) := trivial
set_option maxRecDepth 20000 in
theorem tb_xt_237 : mm_allL (fun q => mm_xR tb_P tb_TB tb_SB tb_cl tb_cn tb_kb tb_hs tb_X 237 q.1 q.2) ((tb_XT[237]?).getD []) := trivial
set_option maxRecDepth 20000 in
theorem tb_xt_238 : mm_allL (fun q => mm_xR tb_P tb_TB tb_SB tb_cl tb_cn tb_kb tb_hs tb_X 238 q.1 q.2) ((tb_XT[238]?).getD []) := trivial
set_option maxRecDepth 20000 in
theorem tb_xt_239 : mm_allL (fun q => mm_xR tb_P tb_TB tb_SB tb_cl tb_cn tb_kb tb_hs tb_X 239 q.1 q.2) ((tb_XT[239]?).getD []) := trivial
set_option maxRecDepth 20000 in
theorem tb_xt_240 : mm_allL (fun q => mm_xR tb_P tb_TB tb_SB tb_cl tb_cn tb_kb tb_hs tb_X 240 q.1 q.2) ((tb_XT[240]?).getD []) := trivial
set_option maxRecDepth 20000 in
theorem tb_xt_241 : mm_allL (fun q => mm_xR tb_P tb_TB tb_SB tb_cl tb_cn tb_kb tb_hs tb_X 241 q.1 q.2) ((tb_XT[241]?).getD []) := trivial
set_option maxRecDepth 20000 in
theorem tb_xt_242 : mm_allL (fun q => mm_xR tb_P tb_TB tb_SB tb_cl tb_cn tb_kb tb_hs tb_X 242 q.1 q.2) ((tb_XT[242]?).getD []) := trivial
set_option maxRecDepth 20000 in
theorem tb_xt_243 : mm_allL (fun q => mm_xR tb_P tb_TB tb_SB tb_cl tb_cn tb_kb tb_hs tb_X 243 q.1 q.2) ((tb_XT[243]?).getD []) := trivial
set_option maxRecDepth 20000 in
theorem tb_xt_244 : mm_allL (fun q => mm_xR tb_P tb_TB tb_SB tb_cl tb_cn tb_kb tb_hs tb_X 244 q.1 q.2) ((tb_XT[244]?).getD []) := trivial
set_option maxRecDepth 20000 in
theorem tb_xt_245 : mm_allL (fun q => mm_xR tb_P tb_TB tb_SB tb_cl tb_cn tb_kb tb_hs tb_X 245 q.1 q.2) ((tb_XT[245]?).getD []) := trivial
set_option maxRecDepth 20000 in
theorem tb_xt_246 : mm_allL (fun q => mm_xR tb_P tb_TB tb_SB tb_cl tb_cn tb_kb tb_hs tb_X 246 q.1 q.2) ((tb_XT[246]?).getD []) := trivial
set_option maxRecDepth 20000 in
theorem tb_xt_247 : mm_allL (fun q => mm_xR tb_P tb_TB tb_SB tb_cl tb_cn tb_kb tb_hs tb_X 247 q.1 q.2) ((tb_XT[247]?).getD []) := trivial
set_option maxRecDepth 20000 in
theorem tb_xt_248 : mm_allL (fun q => mm_xR tb_P tb_TB tb_SB tb_cl tb_cn tb_kb tb_hs tb_X 248 q.1 q.2) ((tb_XT[248]?).getD []) := trivial
set_option maxRecDepth 20000 in
theorem tb_xt_249 : mm_allL (fun q => mm_xR tb_P tb_TB tb_SB tb_cl tb_cn tb_kb tb_hs tb_X 249 q.1 q.2) ((tb_XT[249]?).getD []) := trivial
set_option maxRecDepth 20000 in
theorem tb_xt_250 : mm_allL (fun q => mm_xR tb_P tb_TB tb_SB tb_cl tb_cn tb_kb tb_hs tb_X 250 q.1 q.2) ((tb_XT[250]?).getD []) := trivial
set_option maxRecDepth 20000 in
theorem tb_xt_251 : mm_allL (fun q => mm_xR tb_P tb_TB tb_SB tb_cl tb_cn tb_kb tb_hs tb_X 251 q.1 q.2) ((tb_XT[251]?).getD []) := ⟨⟨Or.inl rfl, by decide, "java/lang/IllegalStateException", tb_TX, 71, 73, 75, "a fault", tb_names2, rfl, by decide +kernel, by decide +kernel, by decide +kernel, by decide +kernel, by decide +kernel, (tb_i4 (List.mem_of_getElem? (i := 155) rfl) rfl), (tb_i3 (List.mem_of_getElem? (i := 147) rfl) rfl), (tb_i1 (List.mem_of_getElem? (i := 16) rfl) rfl), List.mem_of_getElem? (i := 14) rfl, tb_fit.1, tb_fit.2.2, rfl, mm_allL_mem tb_x2⟩, trivial⟩
set_option maxRecDepth 20000 in
theorem tb_xt_252 : mm_allL (fun q => mm_xR tb_P tb_TB tb_SB tb_cl tb_cn tb_kb tb_hs tb_X 252 q.1 q.2) ((tb_XT[252]?).getD []) := trivial
set_option maxRecDepth 20000 in
theorem tb_xt_253 : mm_allL (fun q => mm_xR tb_P tb_TB tb_SB tb_cl tb_cn tb_kb tb_hs tb_X 253 q.1 q.2) ((tb_XT[253]?).getD []) := trivial
set_option maxRecDepth 20000 in
theorem tb_xt_254 : mm_allL (fun q => mm_xR tb_P tb_TB tb_SB tb_cl tb_cn tb_kb tb_hs tb_X 254 q.1 q.2) ((tb_XT[254]?).getD []) := trivial
set_option maxRecDepth 20000 in
theorem tb_xt_255 : mm_allL (fun q => mm_xR tb_P tb_TB tb_SB tb_cl tb_cn tb_kb tb_hs tb_X 255 q.1 q.2) ((tb_XT[255]?).getD []) := trivial
set_option maxRecDepth 20000 in
theorem tb_xt_256 : mm_allL (fun q => mm_xR tb_P tb_TB tb_SB tb_cl tb_cn tb_kb tb_hs tb_X 256 q.1 q.2) ((tb_XT[256]?).getD []) := trivial
set_option maxRecDepth 20000 in
theorem tb_xt_257 : mm_allL (fun q => mm_xR tb_P tb_TB tb_SB tb_cl tb_cn tb_kb tb_hs tb_X 257 q.1 q.2) ((tb_XT[257]?).getD []) := trivial
set_option maxRecDepth 20000 in
theorem tb_xt_258 : mm_allL (fun q => mm_xR tb_P tb_TB tb_SB tb_cl tb_cn tb_kb tb_hs tb_X 258 q.1 q.2) ((tb_XT[258]?).getD []) := trivial
set_option maxRecDepth 20000 in
theorem tb_xt_259 : mm_allL (fun q => mm_xR tb_P tb_TB tb_SB tb_cl tb_cn tb_kb tb_hs tb_X 259 q.1 q.2) ((tb_XT[259]?).getD []) := trivial
set_option maxRecDepth 20000 in
theorem tb_xt_260 : mm_allL (fun q => mm_xR tb_P tb_TB tb_SB tb_cl tb_cn tb_kb tb_hs tb_X 260 q.1 q.2) ((tb_XT[260]?).getD []) := trivial
set_option maxRecDepth 20000 in
theorem tb_xt_261 : mm_allL (fun q => mm_xR tb_P tb_TB tb_SB tb_cl tb_cn tb_kb tb_hs tb_X 261 q.1 q.2) ((tb_XT[261]?).getD []) := trivial
set_option maxRecDepth 20000 in
theorem tb_xt_262 : mm_allL (fun q => mm_xR tb_P tb_TB tb_SB tb_cl tb_cn tb_kb tb_hs tb_X 262 q.1 q.2) ((tb_XT[262]?).getD []) := trivial
set_option maxRecDepth 20000 in
theorem tb_xt_263 : mm_allL (fun q => mm_xR tb_P tb_TB tb_SB tb_cl tb_cn tb_kb tb_hs tb_X 263 q.1 q.2) ((tb_XT[263]?).getD []) := trivial
set_option maxRecDepth 20000 in
theorem tb_xt_264 : mm_allL (fun q => mm_xR tb_P tb_TB tb_SB tb_cl tb_cn tb_kb tb_hs tb_X 264 q.1 q.2) ((tb_XT[264]?).getD []) := trivial
set_option maxRecDepth 20000 in
theorem tb_xt_265 : mm_allL (fun q => mm_xR tb_P tb_TB tb_SB tb_cl tb_cn tb_kb tb_hs tb_X 265 q.1 q.2) ((tb_XT[265]?).getD []) := trivial
set_option maxRecDepth 20000 in
theorem tb_xt_266 : mm_allL (fun q => mm_xR tb_P tb_TB tb_SB tb_cl tb_cn tb_kb tb_hs tb_X 266 q.1 q.2) ((tb_XT[266]?).getD []) := trivial
set_option maxRecDepth 20000 in
theorem tb_xt_267 : mm_allL (fun q => mm_xR tb_P tb_TB tb_SB tb_cl tb_cn tb_kb tb_hs tb_X 267 q.1 q.2) ((tb_XT[267]?).getD []) := trivial
set_option maxRecDepth 20000 in
theorem tb_xt_268 : mm_allL (fun q => mm_xR tb_P tb_TB tb_SB tb_cl tb_cn tb_kb tb_hs tb_X 268 q.1 q.2) ((tb_XT[268]?).getD []) := trivial
set_option maxRecDepth 20000 in
theorem tb_xt_269 : mm_allL (fun q => mm_xR tb_P tb_TB tb_SB tb_cl tb_cn tb_kb tb_hs tb_X 269 q.1 q.2) ((tb_XT[269]?).getD []) := trivial
set_option maxRecDepth 20000 in
theorem tb_xt_270 : mm_allL (fun q => mm_xR tb_P tb_TB tb_SB tb_cl tb_cn tb_kb tb_hs tb_X 270 q.1 q.2) ((tb_XT[270]?).getD []) := trivial
set_option maxRecDepth 20000 in
theorem tb_xt_271 : mm_allL (fun q => mm_xR tb_P tb_TB tb_SB tb_cl tb_cn tb_kb tb_hs tb_X 271 q.1 q.2) ((tb_XT[271]?).getD []) := trivial
set_option maxRecDepth 20000 in
theorem tb_xt_272 : mm_allL (fun q => mm_xR tb_P tb_TB tb_SB tb_cl tb_cn tb_kb tb_hs tb_X 272 q.1 q.2) ((tb_XT[272]?).getD []) := trivial
set_option maxRecDepth 20000 in
theorem tb_xt_273 : mm_allL (fun q => mm_xR tb_P tb_TB tb_SB tb_cl tb_cn tb_kb tb_hs tb_X 273 q.1 q.2) ((tb_XT[273]?).getD []) := trivial
set_option maxRecDepth 20000 in
theorem tb_xt_274 : mm_allL (fun q => mm_xR tb_P tb_TB tb_SB tb_cl tb_cn tb_kb tb_hs tb_X 274 q.1 q.2) ((tb_XT[274]?).getD []) := trivial
set_option maxRecDepth 20000 in
theorem tb_xt_275 : mm_allL (fun q => mm_xR tb_P tb_TB tb_SB tb_cl tb_cn tb_kb tb_hs tb_X 275 q.1 q.2) ((tb_XT[275]?).getD []) := trivial
set_option maxRecDepth 20000 in
theorem tb_xt_276 : mm_allL (fun q => mm_xR tb_P tb_TB tb_SB tb_cl tb_cn tb_kb tb_hs tb_X 276 q.1 q.2) ((tb_XT[276]?).getD []) := trivial
set_option maxRecDepth 20000 in
theorem tb_xt_277 : mm_allL (fun q => mm_xR tb_P tb_TB tb_SB tb_cl tb_cn tb_kb tb_hs tb_X 277 q.1 q.2) ((tb_XT[277]?).getD []) := trivial
set_option maxRecDepth 20000 in
theorem tb_xt_278 : mm_allL (fun q => mm_xR tb_P tb_TB tb_SB tb_cl tb_cn tb_kb tb_hs tb_X 278 q.1 q.2) ((tb_XT[278]?).getD []) := trivial
set_option maxRecDepth 20000 in
theorem tb_xt_279 : mm_allL (fun q => mm_xR tb_P tb_TB tb_SB tb_cl tb_cn tb_kb tb_hs tb_X 279 q.1 q.2) ((tb_XT[279]?).getD []) := trivial
set_option maxRecDepth 20000 in
theorem tb_xt_280 : mm_allL (fun q => mm_xR tb_P tb_TB tb_SB tb_cl tb_cn tb_kb tb_hs tb_X 280 q.1 q.2) ((tb_XT[280]?).getD []) := trivial
set_option maxRecDepth 20000 in
theorem tb_xt_281 : mm_allL (fun q => mm_xR tb_P tb_TB tb_SB tb_cl tb_cn tb_kb tb_hs tb_X 281 q.1 q.2) ((tb_XT[281]?).getD []) := trivial
set_option maxRecDepth 20000 in
theorem tb_xt_282 : mm_allL (fun q => mm_xR tb_P tb_TB tb_SB tb_cl tb_cn tb_kb tb_hs tb_X 282 q.1 q.2) ((tb_XT[282]?).getD []) := trivial
set_option maxRecDepth 20000 in
theorem tb_xt_283 : mm_allL (fun q => mm_xR tb_P tb_TB tb_SB tb_cl tb_cn tb_kb tb_hs tb_X 283 q.1 q.2) ((tb_XT[283]?).getD []) := trivial
set_option maxRecDepth 20000 in
theorem tb_xt_284 : mm_allL (fun q => mm_xR tb_P tb_TB tb_SB tb_cl tb_cn tb_kb tb_hs tb_X 284 q.1 q.2) ((tb_XT[284]?).getD []) := trivial
set_option maxRecDepth 20000 in
theorem tb_xt_285 : mm_allL (fun q => mm_xR tb_P tb_TB tb_SB tb_cl tb_cn tb_kb tb_hs tb_X 285 q.1 q.2) ((tb_XT[285]?).getD []) := trivial
set_option maxRecDepth 20000 in
theorem tb_xt_286 : mm_allL (fun q => mm_xR tb_P tb_TB tb_SB tb_cl tb_cn tb_kb tb_hs tb_X 286 q.1 q.2) ((tb_XT[286]?).getD []) := trivial
set_option maxRecDepth 20000 in
theorem tb_xt_287 : mm_allL (fun q => mm_xR tb_P tb_TB tb_SB tb_cl tb_cn tb_kb tb_hs tb_X 287 q.1 q.2) ((tb_XT[287]?).getD []) := trivial
set_option maxRecDepth 20000 in
theorem tb_xt_288 : mm_allL (fun q => mm_xR tb_P tb_TB tb_SB tb_cl tb_cn tb_kb tb_hs tb_X 288 q.1 q.2) ((tb_XT[288]?).getD []) := trivial
set_option maxRecDepth 20000 in
theorem tb_xt_289 : mm_allL (fun q => mm_xR tb_P tb_TB tb_SB tb_cl tb_cn tb_kb tb_hs tb_X 289 q.1 q.2) ((tb_XT[289]?).getD []) := trivial
set_option maxRecDepth 20000 in
theorem tb_xt_290 : mm_allL (fun q => mm_xR tb_P tb_TB tb_SB tb_cl tb_cn tb_kb tb_hs tb_X 290 q.1 q.2) ((tb_XT[290]?).getD []) := trivial
set_option maxRecDepth 20000 in
theorem tb_xt_291 : mm_allL (fun q => mm_xR tb_P tb_TB tb_SB tb_cl tb_cn tb_kb tb_hs tb_X 291 q.1 q.2) ((tb_XT[291]?).getD []) := trivial
set_option maxRecDepth 20000 in
theorem tb_xt_292 : mm_allL (fun q => mm_xR tb_P tb_TB tb_SB tb_cl tb_cn tb_kb tb_hs tb_X 292 q.1 q.2) ((tb_XT[292]?).getD []) := trivial
set_option maxRecDepth 20000 in
theorem tb_xt_293 : mm_allL (fun q => mm_xR tb_P tb_TB tb_SB tb_cl tb_cn tb_kb tb_hs tb_X 293 q.1 q.2) ((tb_XT[293]?).getD []) := trivial
set_option maxRecDepth 20000 in
theorem tb_xt_294 : mm_allL (fun q => mm_xR tb_P tb_TB tb_SB tb_cl tb_cn tb_kb tb_hs tb_X 294 q.1 q.2) ((tb_XT[294]?).getD []) := trivial
set_option maxRecDepth 20000 in
theorem tb_xt_295 : mm_allL (fun q => mm_xR tb_P tb_TB tb_SB tb_cl tb_cn tb_kb tb_hs tb_X 295 q.1 q.2) ((tb_XT[295]?).getD []) := trivial
set_option maxRecDepth 20000 in
theorem tb_xt_296 : mm_allL (fun q => mm_xR tb_P tb_TB tb_SB tb_cl tb_cn tb_kb tb_hs tb_X 296 q.1 q.2) ((tb_XT[296]?).getD []) := trivial
set_option maxRecDepth 20000 in
theorem tb_xt_297 : mm_allL (fun q => mm_xR tb_P tb_TB tb_SB tb_cl tb_cn tb_kb tb_hs tb_X 297 q.1 q.2) ((tb_XT[297]?).getD []) := trivial
set_option maxRecDepth 20000 in
theorem tb_xt_298 : mm_allL (fun q => mm_xR tb_P tb_TB tb_SB tb_cl tb_cn tb_kb tb_hs tb_X 298 q.1 q.2) ((tb_XT[298]?).getD []) := trivial
set_option maxRecDepth 20000 in
theorem tb_xt_299 : mm_allL (fun q => mm_xR tb_P tb_TB tb_SB tb_cl tb_cn tb_kb tb_hs tb_X 299 q.1 q.2) ((tb_XT[299]?).getD []) := trivial
set_option maxRecDepth 20000 in
theorem tb_xt_300 : mm_allL (fun q => mm_xR tb_P tb_TB tb_SB tb_cl tb_cn tb_kb tb_hs tb_X 300 q.1 q.2) ((tb_XT[300]?).getD []) := trivial
set_option maxRecDepth 20000 in
theorem tb_xt_301 : mm_allL (fun q => mm_xR tb_P tb_TB tb_SB tb_cl tb_cn tb_kb tb_hs tb_X 301 q.1 q.2) ((tb_XT[301]?).getD []) := trivial
set_option maxRecDepth 20000 in
theorem tb_xt_302 : mm_allL (fun q => mm_xR tb_P tb_TB tb_SB tb_cl tb_cn tb_kb tb_hs tb_X 302 q.1 q.2) ((tb_XT[302]?).getD []) := trivial
set_option maxRecDepth 20000 in
theorem tb_xt_303 : mm_allL (fun q => mm_xR tb_P tb_TB tb_SB tb_cl tb_cn tb_kb tb_hs tb_X 303 q.1 q.2) ((tb_XT[303]?).getD []) := trivial
set_option maxRecDepth 20000 in
theorem tb_xt_304 : mm_allL (fun q => mm_xR tb_P tb_TB tb_SB tb_cl tb_cn tb_kb tb_hs tb_X 304 q.1 q.2) ((tb_XT[304]?).getD []) := trivial
set_option maxRecDepth 20000 in
theorem tb_xt_305 : mm_allL (fun q => mm_xR tb_P tb_TB tb_SB tb_cl tb_cn tb_kb tb_hs tb_X 305 q.1 q.2) ((tb_XT[305]?).getD []) := trivial
set_option maxRecDepth 20000 in
theorem tb_xt_306 : mm_allL (fun q => mm_xR tb_P tb_TB tb_SB tb_cl tb_cn tb_kb tb_hs tb_X 306 q.1 q.2) ((tb_XT[306]?).getD []) := trivial
set_option maxRecDepth 20000 in
theorem tb_xt_307 : mm_allL (fun q => mm_xR tb_P tb_TB tb_SB tb_cl tb_cn tb_kb tb_hs tb_X 307 q.1 q.2) ((tb_XT[307]?).getD []) := trivial
set_option maxRecDepth 20000 in
theorem tb_xt_308 : mm_allL (fun q => mm_xR tb_P tb_TB tb_SB tb_cl tb_cn tb_kb tb_hs tb_X 308 q.1 q.2) ((tb_XT[308]?).getD []) := trivial
set_option maxRecDepth 20000 in
theorem tb_xt_309 : mm_allL (fun q => mm_xR tb_P tb_TB tb_SB tb_cl tb_cn tb_kb tb_hs tb_X 309 q.1 q.2) ((tb_XT[309]?).getD []) := trivial
set_option maxRecDepth 20000 in
theorem tb_xt_310 : mm_allL (fun q => mm_xR tb_P tb_TB tb_SB tb_cl tb_cn tb_kb tb_hs tb_X 310 q.1 q.2) ((tb_XT[310]?).getD []) := trivial
set_option maxRecDepth 20000 in
theorem tb_xt_311 : mm_allL (fun q => mm_xR tb_P tb_TB tb_SB tb_cl tb_cn tb_kb tb_hs tb_X 311 q.1 q.2) ((tb_XT[311]?).getD []) := trivial
set_option maxRecDepth 20000 in
theorem tb_xt_312 : mm_allL (fun q => mm_xR tb_P tb_TB tb_SB tb_cl tb_cn tb_kb tb_hs tb_X 312 q.1 q.2) ((tb_XT[312]?).getD []) := trivial
set_option maxRecDepth 20000 in
theorem tb_xt_313 : mm_allL (fun q => mm_xR tb_P tb_TB tb_SB tb_cl tb_cn tb_kb tb_hs tb_X 313 q.1 q.2) ((tb_XT[313]?).getD []) := trivial
set_option maxRecDepth 20000 in
theorem tb_xt_314 : mm_allL (fun q => mm_xR tb_P tb_TB tb_SB tb_cl tb_cn tb_kb tb_hs tb_X 314 q.1 q.2) ((tb_XT[314]?).getD []) := trivial
set_option maxRecDepth 20000 in
theorem tb_xt_315 : mm_allL (fun q => mm_xR tb_P tb_TB tb_SB tb_cl tb_cn tb_kb tb_hs tb_X 315 q.1 q.2) ((tb_XT[315]?).getD []) := trivial
set_option maxRecDepth 20000 in
theorem tb_xt_316 : mm_allL (fun q => mm_xR tb_P tb_TB tb_SB tb_cl tb_cn tb_kb tb_hs tb_X 316 q.1 q.2) ((tb_XT[316]?).getD []) := trivial
set_option maxRecDepth 20000 in
theorem tb_xt_317 : mm_allL (fun q => mm_xR tb_P tb_TB tb_SB tb_cl tb_cn tb_kb tb_hs tb_X 317 q.1 q.2) ((tb_XT[317]?).getD []) := trivial
set_option maxRecDepth 20000 in
theorem tb_xt_318 : mm_allL (fun q => mm_xR tb_P tb_TB tb_SB tb_cl tb_cn tb_kb tb_hs tb_X 318 q.1 q.2) ((tb_XT[318]?).getD []) := trivial
set_option maxRecDepth 20000 in
theorem tb_xt_319 : mm_allL (fun q => mm_xR tb_P tb_TB tb_SB tb_cl tb_cn tb_kb tb_hs tb_X 319 q.1 q.2) ((tb_XT[319]?).getD []) := trivial
set_option maxRecDepth 20000 in
theorem tb_xt_320 : mm_allL (fun q => mm_xR tb_P tb_TB tb_SB tb_cl tb_cn tb_kb tb_hs tb_X 320 q.1 q.2) ((tb_XT[320]?).getD []) := trivial
set_option maxRecDepth 20000 in
theorem tb_xt_321 : mm_allL (fun q => mm_xR tb_P tb_TB tb_SB tb_cl tb_cn tb_kb tb_hs tb_X 321 q.1 q.2) ((tb_XT[321]?).getD []) := trivial
set_option maxRecDepth 20000 in
theorem tb_xt_322 : mm_allL (fun q => mm_xR tb_P tb_TB tb_SB tb_cl tb_cn tb_kb tb_hs tb_X 322 q.1 q.2) ((tb_XT[322]?).getD []) := trivial
set_option maxRecDepth 20000 in
theorem tb_xt_323 : mm_allL (fun q => mm_xR tb_P tb_TB tb_SB tb_cl tb_cn tb_kb tb_hs tb_X 323 q.1 q.2) ((tb_XT[323]?).getD []) := trivial
set_option maxRecDepth 20000 in
theorem tb_xt_324 : mm_allL (fun q => mm_xR tb_P tb_TB tb_SB tb_cl tb_cn tb_kb tb_hs tb_X 324 q.1 q.2) ((tb_XT[324]?).getD []) := trivial
set_option maxRecDepth 20000 in
theorem tb_xt_325 : mm_allL (fun q => mm_xR tb_P tb_TB tb_SB tb_cl tb_cn tb_kb tb_hs tb_X 325 q.1 q.2) ((tb_XT[325]?).getD []) := trivial
set_option maxRecDepth 20000 in
theorem tb_xt_326 : mm_allL (fun q => mm_xR tb_P tb_TB tb_SB tb_cl tb_cn tb_kb tb_hs tb_X 326 q.1 q.2) ((tb_XT[326]?).getD []) := trivial
set_option maxRecDepth 20000 in
theorem tb_xt_327 : mm_allL (fun q => mm_xR tb_P tb_TB tb_SB tb_cl tb_cn tb_kb tb_hs tb_X 327 q.1 q.2) ((tb_XT[327]?).getD []) := trivial
set_option maxRecDepth 20000 in
theorem tb_xt_328 : mm_allL (fun q => mm_xR tb_P tb_TB tb_SB tb_cl tb_cn tb_kb tb_hs tb_X 328 q.1 q.2) ((tb_XT[328]?).getD []) := trivial
set_option maxRecDepth 20000 in
theorem tb_xt_329 : mm_allL (fun q => mm_xR tb_P tb_TB tb_SB tb_cl tb_cn tb_kb tb_hs tb_X 329 q.1 q.2) ((tb_XT[329]?).getD []) := trivial
set_option maxRecDepth 20000 in
theorem tb_xt_330 : mm_allL (fun q => mm_xR tb_P tb_TB tb_SB tb_cl tb_cn tb_kb tb_hs tb_X 330 q.1 q.2) ((tb_XT[330]?).getD []) := trivial
set_option maxRecDepth 20000 in
theorem tb_xt_331 : mm_allL (fun q => mm_xR tb_P tb_TB tb_SB tb_cl tb_cn tb_kb tb_hs tb_X 331 q.1 q.2) ((tb_XT[331]?).getD []) := trivial
set_option maxRecDepth 20000 in
theorem tb_xt_332 : mm_allL (fun q => mm_xR tb_P tb_TB tb_SB tb_cl tb_cn tb_kb tb_hs tb_X 332 q.1 q.2) ((tb_XT[332]?).getD []) := trivial
set_option maxRecDepth 20000 in
theorem tb_xt_333 : mm_allL (fun q => mm_xR tb_P tb_TB tb_SB tb_cl tb_cn tb_kb tb_hs tb_X 333 q.1 q.2) ((tb_XT[333]?).getD []) := trivial
set_option maxRecDepth 20000 in
theorem tb_xt_334 : mm_allL (fun q => mm_xR tb_P tb_TB tb_SB tb_cl tb_cn tb_kb tb_hs tb_X 334 q.1 q.2) ((tb_XT[334]?).getD []) := trivial
set_option maxRecDepth 20000 in
theorem tb_xt_335 : mm_allL (fun q => mm_xR tb_P tb_TB tb_SB tb_cl tb_cn tb_kb tb_hs tb_X 335 q.1 q.2) ((tb_XT[335]?).getD []) := trivial
set_option maxRecDepth 20000 in
theorem tb_xt_336 : mm_allL (fun q => mm_xR tb_P tb_TB tb_SB tb_cl tb_cn tb_kb tb_hs tb_X 336 q.1 q.2) ((tb_XT[336]?).getD []) := trivial
set_option maxRecDepth 20000 in
theorem tb_xt_337 : mm_allL (fun q => mm_xR tb_P tb_TB tb_SB tb_cl tb_cn tb_kb tb_hs tb_X 337 q.1 q.2) ((tb_XT[337]?).getD []) := trivial
set_option maxRecDepth 20000 in
theorem tb_xt_338 : mm_allL (fun q => mm_xR tb_P tb_TB tb_SB tb_cl tb_cn tb_kb tb_hs tb_X 338 q.1 q.2) ((tb_XT[338]?).getD []) := trivial
set_option maxRecDepth 20000 in
theorem tb_xt_339 : mm_allL (fun q => mm_xR tb_P tb_TB tb_SB tb_cl tb_cn tb_kb tb_hs tb_X 339 q.1 q.2) ((tb_XT[339]?).getD []) := trivial
set_option maxRecDepth 20000 in
theorem tb_xt_340 : mm_allL (fun q => mm_xR tb_P tb_TB tb_SB tb_cl tb_cn tb_kb tb_hs tb_X 340 q.1 q.2) ((tb_XT[340]?).getD []) := trivial
set_option maxRecDepth 20000 in
theorem tb_xt_341 : mm_allL (fun q => mm_xR tb_P tb_TB tb_SB tb_cl tb_cn tb_kb tb_hs tb_X 341 q.1 q.2) ((tb_XT[341]?).getD []) := trivial
set_option maxRecDepth 20000 in
theorem tb_xt_342 : mm_allL (fun q => mm_xR tb_P tb_TB tb_SB tb_cl tb_cn tb_kb tb_hs tb_X 342 q.1 q.2) ((tb_XT[342]?).getD []) := trivial
set_option maxRecDepth 20000 in
theorem tb_xt_343 : mm_allL (fun q => mm_xR tb_P tb_TB tb_SB tb_cl tb_cn tb_kb tb_hs tb_X 343 q.1 q.2) ((tb_XT[343]?).getD []) := trivial
set_option maxRecDepth 20000 in
theorem tb_xt_344 : mm_allL (fun q => mm_xR tb_P tb_TB tb_SB tb_cl tb_cn tb_kb tb_hs tb_X 344 q.1 q.2) ((tb_XT[344]?).getD []) := trivial
set_option maxRecDepth 20000 in
theorem tb_xt_345 : mm_allL (fun q => mm_xR tb_P tb_TB tb_SB tb_cl tb_cn tb_kb tb_hs tb_X 345 q.1 q.2) ((tb_XT[345]?).getD []) := trivial
set_option maxRecDepth 20000 in
theorem tb_xt_346 : mm_allL (fun q => mm_xR tb_P tb_TB tb_SB tb_cl tb_cn tb_kb tb_hs tb_X 346 q.1 q.2) ((tb_XT[346]?).getD []) := trivial
set_option maxRecDepth 20000 in
theorem tb_xt_347 : mm_allL (fun q => mm_xR tb_P tb_TB tb_SB tb_cl tb_cn tb_kb tb_hs tb_X 347 q.1 q.2) ((tb_XT[347]?).getD []) := trivial
set_option maxRecDepth 20000 in
theorem tb_xt_348 : mm_allL (fun q => mm_xR tb_P tb_TB tb_SB tb_cl tb_cn tb_kb tb_hs tb_X 348 q.1 q.2) ((tb_XT[348]?).getD []) := trivial
set_option maxRecDepth 20000 in
theorem tb_xt_349 : mm_allL (fun q => mm_xR tb_P tb_TB tb_SB tb_cl tb_cn tb_kb tb_hs tb_X 349 q.1 q.2) ((tb_XT[349]?).getD []) := trivial
set_option maxRecDepth 20000 in
theorem tb_xt_350 : mm_allL (fun q => mm_xR tb_P tb_TB tb_SB tb_cl tb_cn tb_kb tb_hs tb_X 350 q.1 q.2) ((tb_XT[350]?).getD []) := trivial
set_option maxRecDepth 20000 in
theorem tb_xt_351 : mm_allL (fun q => mm_xR tb_P tb_TB tb_SB tb_cl tb_cn tb_kb tb_hs tb_X 351 q.1 q.2) ((tb_XT[351]?).getD []) := trivial
set_option maxRecDepth 20000 in
theorem tb_xt_352 : mm_allL (fun q => mm_xR tb_P tb_TB tb_SB tb_cl tb_cn tb_kb tb_hs tb_X 352 q.1 q.2) ((tb_XT[352]?).getD []) := trivial
set_option maxRecDepth 20000 in
theorem tb_xt_353 : mm_allL (fun q => mm_xR tb_P tb_TB tb_SB tb_cl tb_cn tb_kb tb_hs tb_X 353 q.1 q.2) ((tb_XT[353]?).getD []) := trivial
set_option maxRecDepth 20000 in
theorem tb_xt_354 : mm_allL (fun q => mm_xR tb_P tb_TB tb_SB tb_cl tb_cn tb_kb tb_hs tb_X 354 q.1 q.2) ((tb_XT[354]?).getD []) := trivial
set_option maxRecDepth 20000 in
theorem tb_xt_355 : mm_allL (fun q => mm_xR tb_P tb_TB tb_SB tb_cl tb_cn tb_kb tb_hs tb_X 355 q.1 q.2) ((tb_XT[355]?).getD []) := trivial
set_option maxRecDepth 20000 in
theorem tb_xt_356 : mm_allL (fun q => mm_xR tb_P tb_TB tb_SB tb_cl tb_cn tb_kb tb_hs tb_X 356 q.1 q.2) ((tb_XT[356]?).getD []) := trivial
set_option maxRecDepth 20000 in
theorem tb_xt_357 : mm_allL (fun q => mm_xR tb_P tb_TB tb_SB tb_cl tb_cn tb_kb tb_hs tb_X 357 q.1 q.2) ((tb_XT[357]?).getD []) := trivial
set_option maxRecDepth 20000 in
theorem tb_xt_358 : mm_allL (fun q => mm_xR tb_P tb_TB tb_SB tb_cl tb_cn tb_kb tb_hs tb_X 358 q.1 q.2) ((tb_XT[358]?).getD []) := trivial
set_option maxRecDepth 20000 in
theorem tb_xt_359 : mm_allL (fun q => mm_xR tb_P tb_TB tb_SB tb_cl tb_cn tb_kb tb_hs tb_X 359 q.1 q.2) ((tb_XT[359]?).getD []) := trivial
set_option maxRecDepth 20000 in
theorem tb_xt_360 : mm_allL (fun q => mm_xR tb_P tb_TB tb_SB tb_cl tb_cn tb_kb tb_hs tb_X 360 q.1 q.2) ((tb_XT[360]?).getD []) := trivial
set_option maxRecDepth 20000 in
theorem tb_xt_361 : mm_allL (fun q => mm_xR tb_P tb_TB tb_SB tb_cl tb_cn tb_kb tb_hs tb_X 361 q.1 q.2) ((tb_XT[361]?).getD []) := trivial
set_option maxRecDepth 20000 in
theorem tb_xt_362 : mm_allL (fun q => mm_xR tb_P tb_TB tb_SB tb_cl tb_cn tb_kb tb_hs tb_X 362 q.1 q.2) ((tb_XT[362]?).getD []) := trivial
set_option maxRecDepth 20000 in
theorem tb_xt_363 : mm_allL (fun q => mm_xR tb_P tb_TB tb_SB tb_cl tb_cn tb_kb tb_hs tb_X 363 q.1 q.2) ((tb_XT[363]?).getD []) := trivial
set_option maxRecDepth 20000 in
theorem tb_xt_364 : mm_allL (fun q => mm_xR tb_P tb_TB tb_SB tb_cl tb_cn tb_kb tb_hs tb_X 364 q.1 q.2) ((tb_XT[364]?).getD []) := trivial
set_option maxRecDepth 20000 in
theorem tb_xt_365 : mm_allL (fun q => mm_xR tb_P tb_TB tb_SB tb_cl tb_cn tb_kb tb_hs tb_X 365 q.1 q.2) ((tb_XT[365]?).getD []) := trivial
set_option maxRecDepth 20000 in
theorem tb_xt_366 : mm_allL (fun q => mm_xR tb_P tb_TB tb_SB tb_cl tb_cn tb_kb tb_hs tb_X 366 q.1 q.2) ((tb_XT[366]?).getD []) := trivial
set_option maxRecDepth 20000 in
theorem tb_xt_367 : mm_allL (fun q => mm_xR tb_P tb_TB tb_SB tb_cl tb_cn tb_kb tb_hs tb_X 367 q.1 q.2) ((tb_XT[367]?).getD []) := trivial
set_option maxRecDepth 20000 in
theorem tb_xt_368 : mm_allL (fun q => mm_xR tb_P tb_TB tb_SB tb_cl tb_cn tb_kb tb_hs tb_X 368 q.1 q.2) ((tb_XT[368]?).getD []) := trivial
set_option maxRecDepth 20000 in
theorem tb_xt_369 : mm_allL (fun q => mm_xR tb_P tb_TB tb_SB tb_cl tb_cn tb_kb tb_hs tb_X 369 q.1 q.2) ((tb_XT[369]?).getD []) := trivial
set_option maxRecDepth 20000 in
theorem tb_xt_370 : mm_allL (fun q => mm_xR tb_P tb_TB tb_SB tb_cl tb_cn tb_kb tb_hs tb_X 370 q.1 q.2) ((tb_XT[370]?).getD []) := trivial
set_option maxRecDepth 20000 in
theorem tb_xt_371 : mm_allL (fun q => mm_xR tb_P tb_TB tb_SB tb_cl tb_cn tb_kb tb_hs tb_X 371 q.1 q.2) ((tb_XT[371]?).getD []) := trivial
set_option maxRecDepth 20000 in
theorem tb_xt_372 : mm_allL (fun q => mm_xR tb_P tb_TB tb_SB tb_cl tb_cn tb_kb tb_hs tb_X 372 q.1 q.2) ((tb_XT[372]?).getD []) := trivial
set_option maxRecDepth 20000 in
theorem tb_xt_373 : mm_allL (fun q => mm_xR tb_P tb_TB tb_SB tb_cl tb_cn tb_kb tb_hs tb_X 373 q.1 q.2) ((tb_XT[373]?).getD []) := trivial
set_option maxRecDepth 20000 in
theorem tb_xt_374 : mm_allL (fun q => mm_xR tb_P tb_TB tb_SB tb_cl tb_cn tb_kb tb_hs tb_X 374 q.1 q.2) ((tb_XT[374]?).getD []) := trivial
set_option maxRecDepth 20000 in
theorem tb_xt_375 : mm_allL (fun q => mm_xR tb_P tb_TB tb_SB tb_cl tb_cn tb_kb tb_hs tb_X 375 q.1 q.2) ((tb_XT[375]?).getD []) := trivial
set_option maxRecDepth 20000 in
theorem tb_xt_376 : mm_allL (fun q => mm_xR tb_P tb_TB tb_SB tb_cl tb_cn tb_kb tb_hs tb_X 376 q.1 q.2) ((tb_XT[376]?).getD []) := trivial
set_option maxRecDepth 20000 in
theorem tb_xt_377 : mm_allL (fun q => mm_xR tb_P tb_TB tb_SB tb_cl tb_cn tb_kb tb_hs tb_X 377 q.1 q.2) ((tb_XT[377]?).getD []) := trivial
set_option maxRecDepth 20000 in
theorem tb_xt_378 : mm_allL (fun q => mm_xR tb_P tb_TB tb_SB tb_cl tb_cn tb_kb tb_hs tb_X 378 q.1 q.2) ((tb_XT[378]?).getD []) := trivial
set_option maxRecDepth 20000 in
theorem tb_xt_379 : mm_allL (fun q => mm_xR tb_P tb_TB tb_SB tb_cl tb_cn tb_kb tb_hs tb_X 379 q.1 q.2) ((tb_XT[379]?).getD []) := trivial
set_option maxRecDepth 20000 in
theorem tb_xt_all : mm_all2P (fun k pc ci => mm_xR tb_P tb_TB tb_SB tb_cl tb_cn tb_kb tb_hs tb_X k pc ci) 0 tb_XT := ⟨tb_xt_0, tb_xt_1, tb_xt_2, tb_xt_3, tb_xt_4, tb_xt_5, tb_xt_6, tb_xt_7, tb_xt_8, tb_xt_9, tb_xt_10, tb_xt_11, tb_xt_12, tb_xt_13, tb_xt_14, tb_xt_15, tb_xt_16, tb_xt_17, tb_xt_18, tb_xt_19, tb_xt_20, tb_xt_21, tb_xt_22, tb_xt_23, tb_xt_24, tb_xt_25, tb_xt_26, tb_xt_27, tb_xt_28, tb_xt_29, tb_xt_30, tb_xt_31, tb_xt_32, tb_xt_33, tb_xt_34, tb_xt_35, tb_xt_36, tb_xt_37, tb_xt_38, tb_xt_39, tb_xt_40, tb_xt_41, tb_xt_42, tb_xt_43, tb_xt_44, tb_xt_45, tb_xt_46, tb_xt_47, tb_xt_48, tb_xt_49, tb_xt_50, tb_xt_51, tb_xt_52, tb_xt_53, tb_xt_54, tb_xt_55, tb_xt_56, tb_xt_57, tb_xt_58, tb_xt_59, tb_xt_60, tb_xt_61, tb_xt_62, tb_xt_63, tb_xt_64, tb_xt_65, tb_xt_66, tb_xt_67, tb_xt_68, tb_xt_69, tb_xt_70, tb_xt_71, tb_xt_72, tb_xt_73, tb_xt_74, tb_xt_75, tb_xt_76, tb_xt_77, tb_xt_78, tb_xt_79, tb_xt_80, tb_xt_81, tb_xt_82, tb_xt_83, tb_xt_84, tb_xt_85, tb_xt_86, tb_xt_87, tb_xt_88, tb_xt_89, tb_xt_90, tb_xt_91, tb_xt_92, tb_xt_93, tb_xt_94, tb_xt_95, tb_xt_96, tb_xt_97, tb_xt_98, tb_xt_99, tb_xt_100, tb_xt_101, tb_xt_102, tb_xt_103, tb_xt_104, tb_xt_105, tb_xt_106, tb_xt_107, tb_xt_108, tb_xt_109, tb_xt_110, tb_xt_111, tb_xt_112, tb_xt_113, tb_xt_114, tb_xt_115, tb_xt_116, tb_xt_117, tb_xt_118, tb_xt_119, tb_xt_120, tb_xt_121, tb_xt_122, tb_xt_123, tb_xt_124, tb_xt_125, tb_xt_126, tb_xt_127, tb_xt_128, tb_xt_129, tb_xt_130, tb_xt_131, tb_xt_132, tb_xt_133, tb_xt_134, tb_xt_135, tb_xt_136, tb_xt_137, tb_xt_138, tb_xt_139, tb_xt_140, tb_xt_141, tb_xt_142, tb_xt_143, tb_xt_144, tb_xt_145, tb_xt_146, tb_xt_147, tb_xt_148, tb_xt_149, tb_xt_150, tb_xt_151, tb_xt_152, tb_xt_153, tb_xt_154, tb_xt_155, tb_xt_156, tb_xt_157, tb_xt_158, tb_xt_159, tb_xt_160, tb_xt_161, tb_xt_162, tb_xt_163, tb_xt_164, tb_xt_165, tb_xt_166, tb_xt_167, tb_xt_168, tb_xt_169, tb_xt_170, tb_xt_171, tb_xt_172, tb_xt_173, tb_xt_174, tb_xt_175, tb_xt_176, tb_xt_177, tb_xt_178, tb_xt_179, tb_xt_180, tb_xt_181, tb_xt_182, tb_xt_183, tb_xt_184, tb_xt_185, tb_xt_186, tb_xt_187, tb_xt_188, tb_xt_189, tb_xt_190, tb_xt_191, tb_xt_192, tb_xt_193, tb_xt_194, tb_xt_195, tb_xt_196, tb_xt_197, tb_xt_198, tb_xt_199, tb_xt_200, tb_xt_201, tb_xt_202, tb_xt_203, tb_xt_204, tb_xt_205, tb_xt_206, tb_xt_207, tb_xt_208, tb_xt_209, tb_xt_210, tb_xt_211, tb_xt_212, tb_xt_213, tb_xt_214, tb_xt_215, tb_xt_216, tb_xt_217, tb_xt_218, tb_xt_219, tb_xt_220, tb_xt_221, tb_xt_222, tb_xt_223, tb_xt_224, tb_xt_225, tb_xt_226, tb_xt_227, tb_xt_228, tb_xt_229, tb_xt_230, tb_xt_231, tb_xt_232, tb_xt_233, tb_xt_234, tb_xt_235, tb_xt_236, tb_xt_237, tb_xt_238, tb_xt_239, tb_xt_240, tb_xt_241, tb_xt_242, tb_xt_243, tb_xt_244, tb_xt_245, tb_xt_246, tb_xt_247, tb_xt_248, tb_xt_249, tb_xt_250, tb_xt_251, tb_xt_252, tb_xt_253, tb_xt_254, tb_xt_255, tb_xt_256, tb_xt_257, tb_xt_258, tb_xt_259, tb_xt_260, tb_xt_261, tb_xt_262, tb_xt_263, tb_xt_264, tb_xt_265, tb_xt_266, tb_xt_267, tb_xt_268, tb_xt_269, tb_xt_270, tb_xt_271, tb_xt_272, tb_xt_273, tb_xt_274, tb_xt_275, tb_xt_276, tb_xt_277, tb_xt_278, tb_xt_279, tb_xt_280, tb_xt_281, tb_xt_282, tb_xt_283, tb_xt_284, tb_xt_285, tb_xt_286, tb_xt_287, tb_xt_288, tb_xt_289, tb_xt_290, tb_xt_291, tb_xt_292, tb_xt_293, tb_xt_294, tb_xt_295, tb_xt_296, tb_xt_297, tb_xt_298, tb_xt_299, tb_xt_300, tb_xt_301, tb_xt_302, tb_xt_303, tb_xt_304, tb_xt_305, tb_xt_306, tb_xt_307, tb_xt_308, tb_xt_309, tb_xt_310, tb_xt_311, tb_xt_312, tb_xt_313, tb_xt_314, tb_xt_315, tb_xt_316, tb_xt_317, tb_xt_318, tb_xt_319, tb_xt_320, tb_xt_321, tb_xt_322, tb_xt_323, tb_xt_324, tb_xt_325, tb_xt_326, tb_xt_327, tb_xt_328, tb_xt_329, tb_xt_330, tb_xt_331, tb_xt_332, tb_xt_333, tb_xt_334, tb_xt_335, tb_xt_336, tb_xt_337, tb_xt_338, tb_xt_339, tb_xt_340, tb_xt_341, tb_xt_342, tb_xt_343, tb_xt_344, tb_xt_345, tb_xt_346, tb_xt_347, tb_xt_348, tb_xt_349, tb_xt_350, tb_xt_351, tb_xt_352, tb_xt_353, tb_xt_354, tb_xt_355, tb_xt_356, tb_xt_357, tb_xt_358, tb_xt_359, tb_xt_360, tb_xt_361, tb_xt_362, tb_xt_363, tb_xt_364, tb_xt_365, tb_xt_366, tb_xt_367, tb_xt_368, tb_xt_369, tb_xt_370, tb_xt_371, tb_xt_372, tb_xt_373, tb_xt_374, tb_xt_375, tb_xt_376, tb_xt_377, tb_xt_378, tb_xt_379, trivial⟩
theorem tb_xc_0 : mm_allL (fun q => q.1 ≠ 0 ∧ tb_X q.2 ∧ ∃ X T, tb_cl[q.2]? = some (X, T, 0) ∧ Cond.classLink (tb_cn 0) q.1 X ∈ tb_TB) ((tb_XC[0]?).getD []) := trivial
theorem tb_xc_1 : mm_allL (fun q => q.1 ≠ 0 ∧ tb_X q.2 ∧ ∃ X T, tb_cl[q.2]? = some (X, T, 0) ∧ Cond.classLink (tb_cn 1) q.1 X ∈ tb_TB) ((tb_XC[1]?).getD []) := trivial
theorem tb_xc_2 : mm_allL (fun q => q.1 ≠ 0 ∧ tb_X q.2 ∧ ∃ X T, tb_cl[q.2]? = some (X, T, 0) ∧ Cond.classLink (tb_cn 2) q.1 X ∈ tb_TB) ((tb_XC[2]?).getD []) := ⟨⟨by decide, Or.inl rfl, _, _, rfl, (tb_i3 (List.mem_of_getElem? (i := 8) rfl) rfl)⟩, trivial⟩
theorem tb_xc_3 : mm_allL (fun q => q.1 ≠ 0 ∧ tb_X q.2 ∧ ∃ X T, tb_cl[q.2]? = some (X, T, 0) ∧ Cond.classLink (tb_cn 3) q.1 X ∈ tb_TB) ((tb_XC[3]?).getD []) := trivial
theorem tb_xc_4 : mm_allL (fun q => q.1 ≠ 0 ∧ tb_X q.2 ∧ ∃ X T, tb_cl[q.2]? = some (X, T, 0) ∧ Cond.classLink (tb_cn 4) q.1 X ∈ tb_TB) ((tb_XC[4]?).getD []) := trivial
theorem tb_xc_5 : mm_allL (fun q => q.1 ≠ 0 ∧ tb_X q.2 ∧ ∃ X T, tb_cl[q.2]? = some (X, T, 0) ∧ Cond.classLink (tb_cn 5) q.1 X ∈ tb_TB) ((tb_XC[5]?).getD []) := trivial
theorem tb_xc_6 : mm_allL (fun q => q.1 ≠ 0 ∧ tb_X q.2 ∧ ∃ X T, tb_cl[q.2]? = some (X, T, 0) ∧ Cond.classLink (tb_cn 6) q.1 X ∈ tb_TB) ((tb_XC[6]?).getD []) := ⟨⟨by decide, Or.inl rfl, _, _, rfl, (tb_i4 (List.mem_of_getElem? (i := 130) rfl) rfl)⟩, trivial⟩
theorem tb_xc_7 : mm_allL (fun q => q.1 ≠ 0 ∧ tb_X q.2 ∧ ∃ X T, tb_cl[q.2]? = some (X, T, 0) ∧ Cond.classLink (tb_cn 7) q.1 X ∈ tb_TB) ((tb_XC[7]?).getD []) := trivial
theorem tb_xc_8 : mm_allL (fun q => q.1 ≠ 0 ∧ tb_X q.2 ∧ ∃ X T, tb_cl[q.2]? = some (X, T, 0) ∧ Cond.classLink (tb_cn 8) q.1 X ∈ tb_TB) ((tb_XC[8]?).getD []) := trivial
theorem tb_xc_9 : mm_allL (fun q => q.1 ≠ 0 ∧ tb_X q.2 ∧ ∃ X T, tb_cl[q.2]? = some (X, T, 0) ∧ Cond.classLink (tb_cn 9) q.1 X ∈ tb_TB) ((tb_XC[9]?).getD []) := trivial
theorem tb_xc_10 : mm_allL (fun q => q.1 ≠ 0 ∧ tb_X q.2 ∧ ∃ X T, tb_cl[q.2]? = some (X, T, 0) ∧ Cond.classLink (tb_cn 10) q.1 X ∈ tb_TB) ((tb_XC[10]?).getD []) := trivial
theorem tb_xc_11 : mm_allL (fun q => q.1 ≠ 0 ∧ tb_X q.2 ∧ ∃ X T, tb_cl[q.2]? = some (X, T, 0) ∧ Cond.classLink (tb_cn 11) q.1 X ∈ tb_TB) ((tb_XC[11]?).getD []) := trivial
theorem tb_xc_12 : mm_allL (fun q => q.1 ≠ 0 ∧ tb_X q.2 ∧ ∃ X T, tb_cl[q.2]? = some (X, T, 0) ∧ Cond.classLink (tb_cn 12) q.1 X ∈ tb_TB) ((tb_XC[12]?).getD []) := trivial
theorem tb_xc_13 : mm_allL (fun q => q.1 ≠ 0 ∧ tb_X q.2 ∧ ∃ X T, tb_cl[q.2]? = some (X, T, 0) ∧ Cond.classLink (tb_cn 13) q.1 X ∈ tb_TB) ((tb_XC[13]?).getD []) := trivial
theorem tb_xc_14 : mm_allL (fun q => q.1 ≠ 0 ∧ tb_X q.2 ∧ ∃ X T, tb_cl[q.2]? = some (X, T, 0) ∧ Cond.classLink (tb_cn 14) q.1 X ∈ tb_TB) ((tb_XC[14]?).getD []) := trivial
theorem tb_xc_15 : mm_allL (fun q => q.1 ≠ 0 ∧ tb_X q.2 ∧ ∃ X T, tb_cl[q.2]? = some (X, T, 0) ∧ Cond.classLink (tb_cn 15) q.1 X ∈ tb_TB) ((tb_XC[15]?).getD []) := ⟨⟨by decide, Or.inl rfl, _, _, rfl, (tb_i6 (List.mem_of_getElem? (i := 39) rfl) rfl)⟩, ⟨by decide, Or.inr rfl, _, _, rfl, (tb_i6 (List.mem_of_getElem? (i := 57) rfl) rfl)⟩, trivial⟩
theorem tb_xc_16 : mm_allL (fun q => q.1 ≠ 0 ∧ tb_X q.2 ∧ ∃ X T, tb_cl[q.2]? = some (X, T, 0) ∧ Cond.classLink (tb_cn 16) q.1 X ∈ tb_TB) ((tb_XC[16]?).getD []) := trivial
theorem tb_xc_17 : mm_allL (fun q => q.1 ≠ 0 ∧ tb_X q.2 ∧ ∃ X T, tb_cl[q.2]? = some (X, T, 0) ∧ Cond.classLink (tb_cn 17) q.1 X ∈ tb_TB) ((tb_XC[17]?).getD []) := trivial
theorem tb_xc_18 : mm_allL (fun q => q.1 ≠ 0 ∧ tb_X q.2 ∧ ∃ X T, tb_cl[q.2]? = some (X, T, 0) ∧ Cond.classLink (tb_cn 18) q.1 X ∈ tb_TB) ((tb_XC[18]?).getD []) := trivial
theorem tb_xc_19 : mm_allL (fun q => q.1 ≠ 0 ∧ tb_X q.2 ∧ ∃ X T, tb_cl[q.2]? = some (X, T, 0) ∧ Cond.classLink (tb_cn 19) q.1 X ∈ tb_TB) ((tb_XC[19]?).getD []) := trivial
set_option maxRecDepth 20000 in
theorem tb_xc_all : mm_all2P (fun o ct cj => ct ≠ 0 ∧ tb_X cj ∧ ∃ X T, tb_cl[cj]? = some (X, T, 0) ∧ Cond.classLink (tb_cn o) ct X ∈ tb_TB) 0 tb_XC := ⟨tb_xc_0, tb_xc_1, tb_xc_2, tb_xc_3, tb_xc_4, tb_xc_5, tb_xc_6, tb_xc_7, tb_xc_8, tb_xc_9, tb_xc_10, tb_xc_11, tb_xc_12, tb_xc_13, tb_xc_14, tb_xc_15, tb_xc_16, tb_xc_17, tb_xc_18, tb_xc_19, trivial⟩
