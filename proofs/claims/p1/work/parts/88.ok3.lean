/-! THE TABLES TELL THE TRUTH (calls, throws). -/
set_option maxRecDepth 20000 in
theorem tb_eall : mm_allL (fun q : ByteArray × List (Nat × Instr) => ∀ r ∈ q.2, decode q.1 r.1 = .ok (r.2, mm_ln r.2)) tb_KX := ⟨tb_e0, tb_e1, tb_e2, tb_e3, tb_e4, tb_e5, tb_e6, tb_e7, tb_e8, tb_e9, tb_e10, tb_e11, tb_e12, tb_e13, tb_e14, tb_e15, tb_e16, tb_e17, tb_e18, tb_e19, tb_e20, tb_e21, tb_e22, tb_e23, tb_e24, tb_e25, tb_e26, tb_e27, tb_e28, tb_e29, tb_e30, tb_e31, tb_e32, tb_e33, tb_e34, tb_e35, tb_e36, tb_e37, tb_e38, tb_e39, tb_e40, tb_e41, tb_e42, tb_e43, tb_e44, tb_e45, tb_e46, tb_e47, tb_e48, tb_e49, tb_e50, tb_e51, tb_e52, tb_e53, tb_e54, tb_e55, tb_e56, tb_e57, tb_e58, tb_e59, tb_e60, tb_e61, tb_e62, tb_e63, tb_e64, tb_e65, tb_e66, tb_e67, tb_e68, tb_e69, tb_e70, tb_e71, tb_e72, tb_e73, tb_e74, tb_e75, tb_e76, tb_e77, tb_e78, tb_e79, tb_e80, tb_e81, tb_e82, tb_e83, tb_e84, tb_e85, tb_e86, tb_e87, tb_e88, tb_e89, tb_e90, tb_e91, tb_e92, tb_e93, tb_e94, tb_e95, tb_e96, tb_e97, tb_e98, tb_e99, tb_e100, tb_e101, tb_e102, tb_e103, tb_e104, tb_e105, tb_e106, tb_e107, tb_e108, tb_e109, tb_e110, tb_e111, tb_e112, tb_e113, tb_e114, tb_e115, tb_e116, tb_e117, tb_e118, tb_e119, tb_e120, tb_e121, tb_e122, tb_e123, tb_e124, tb_e125, tb_e126, tb_e127, tb_e128, tb_e129, tb_e130, tb_e131, tb_e132, tb_e133, tb_e134, tb_e135, trivial⟩
theorem tb_dec (k : Nat) (q : Nat × Instr) (h : q ∈ tb_kd k) : decode (tb_kb k) q.1 = .ok (q.2, mm_ln q.2) := by
  unfold tb_kd at h
  unfold tb_kb
  cases hk : tb_KX[k]? with
  | none => rw [hk] at h; exact (List.not_mem_nil h).elim
  | some r => rw [hk] at h; exact mm_allL_mem tb_eall r (List.mem_of_getElem? hk) q h
theorem tb_s0 : mm_allL (fun q => mm_swc (tb_kb 0) q.1 q.2 = true) ((tb_SW[0]?).getD []) := ⟨by decide +kernel, trivial⟩
theorem tb_s1 : mm_allL (fun q => mm_swc (tb_kb 1) q.1 q.2 = true) ((tb_SW[1]?).getD []) := trivial
theorem tb_s2 : mm_allL (fun q => mm_swc (tb_kb 2) q.1 q.2 = true) ((tb_SW[2]?).getD []) := trivial
theorem tb_s3 : mm_allL (fun q => mm_swc (tb_kb 3) q.1 q.2 = true) ((tb_SW[3]?).getD []) := trivial
theorem tb_s4 : mm_allL (fun q => mm_swc (tb_kb 4) q.1 q.2 = true) ((tb_SW[4]?).getD []) := trivial
theorem tb_s5 : mm_allL (fun q => mm_swc (tb_kb 5) q.1 q.2 = true) ((tb_SW[5]?).getD []) := trivial
theorem tb_s6 : mm_allL (fun q => mm_swc (tb_kb 6) q.1 q.2 = true) ((tb_SW[6]?).getD []) := trivial
theorem tb_s7 : mm_allL (fun q => mm_swc (tb_kb 7) q.1 q.2 = true) ((tb_SW[7]?).getD []) := trivial
theorem tb_s8 : mm_allL (fun q => mm_swc (tb_kb 8) q.1 q.2 = true) ((tb_SW[8]?).getD []) := trivial
theorem tb_s9 : mm_allL (fun q => mm_swc (tb_kb 9) q.1 q.2 = true) ((tb_SW[9]?).getD []) := trivial
theorem tb_s10 : mm_allL (fun q => mm_swc (tb_kb 10) q.1 q.2 = true) ((tb_SW[10]?).getD []) := trivial
theorem tb_s11 : mm_allL (fun q => mm_swc (tb_kb 11) q.1 q.2 = true) ((tb_SW[11]?).getD []) := trivial
theorem tb_s12 : mm_allL (fun q => mm_swc (tb_kb 12) q.1 q.2 = true) ((tb_SW[12]?).getD []) := trivial
theorem tb_s13 : mm_allL (fun q => mm_swc (tb_kb 13) q.1 q.2 = true) ((tb_SW[13]?).getD []) := trivial
theorem tb_s14 : mm_allL (fun q => mm_swc (tb_kb 14) q.1 q.2 = true) ((tb_SW[14]?).getD []) := trivial
theorem tb_s15 : mm_allL (fun q => mm_swc (tb_kb 15) q.1 q.2 = true) ((tb_SW[15]?).getD []) := trivial
theorem tb_s16 : mm_allL (fun q => mm_swc (tb_kb 16) q.1 q.2 = true) ((tb_SW[16]?).getD []) := trivial
theorem tb_s17 : mm_allL (fun q => mm_swc (tb_kb 17) q.1 q.2 = true) ((tb_SW[17]?).getD []) := trivial
theorem tb_s18 : mm_allL (fun q => mm_swc (tb_kb 18) q.1 q.2 = true) ((tb_SW[18]?).getD []) := trivial
theorem tb_s19 : mm_allL (fun q => mm_swc (tb_kb 19) q.1 q.2 = true) ((tb_SW[19]?).getD []) := trivial
theorem tb_s20 : mm_allL (fun q => mm_swc (tb_kb 20) q.1 q.2 = true) ((tb_SW[20]?).getD []) := trivial
theorem tb_s21 : mm_allL (fun q => mm_swc (tb_kb 21) q.1 q.2 = true) ((tb_SW[21]?).getD []) := trivial
theorem tb_s22 : mm_allL (fun q => mm_swc (tb_kb 22) q.1 q.2 = true) ((tb_SW[22]?).getD []) := trivial
theorem tb_s23 : mm_allL (fun q => mm_swc (tb_kb 23) q.1 q.2 = true) ((tb_SW[23]?).getD []) := trivial
theorem tb_s24 : mm_allL (fun q => mm_swc (tb_kb 24) q.1 q.2 = true) ((tb_SW[24]?).getD []) := trivial
theorem tb_s25 : mm_allL (fun q => mm_swc (tb_kb 25) q.1 q.2 = true) ((tb_SW[25]?).getD []) := trivial
theorem tb_s26 : mm_allL (fun q => mm_swc (tb_kb 26) q.1 q.2 = true) ((tb_SW[26]?).getD []) := trivial
theorem tb_s27 : mm_allL (fun q => mm_swc (tb_kb 27) q.1 q.2 = true) ((tb_SW[27]?).getD []) := trivial
theorem tb_s28 : mm_allL (fun q => mm_swc (tb_kb 28) q.1 q.2 = true) ((tb_SW[28]?).getD []) := trivial
theorem tb_s29 : mm_allL (fun q => mm_swc (tb_kb 29) q.1 q.2 = true) ((tb_SW[29]?).getD []) := trivial
theorem tb_s30 : mm_allL (fun q => mm_swc (tb_kb 30) q.1 q.2 = true) ((tb_SW[30]?).getD []) := trivial
theorem tb_s31 : mm_allL (fun q => mm_swc (tb_kb 31) q.1 q.2 = true) ((tb_SW[31]?).getD []) := trivial
theorem tb_s32 : mm_allL (fun q => mm_swc (tb_kb 32) q.1 q.2 = true) ((tb_SW[32]?).getD []) := trivial
theorem tb_s33 : mm_allL (fun q => mm_swc (tb_kb 33) q.1 q.2 = true) ((tb_SW[33]?).getD []) := trivial
theorem tb_s34 : mm_allL (fun q => mm_swc (tb_kb 34) q.1 q.2 = true) ((tb_SW[34]?).getD []) := trivial
theorem tb_s35 : mm_allL (fun q => mm_swc (tb_kb 35) q.1 q.2 = true) ((tb_SW[35]?).getD []) := ⟨by decide +kernel, trivial⟩
theorem tb_s36 : mm_allL (fun q => mm_swc (tb_kb 36) q.1 q.2 = true) ((tb_SW[36]?).getD []) := ⟨by decide +kernel, trivial⟩
theorem tb_s37 : mm_allL (fun q => mm_swc (tb_kb 37) q.1 q.2 = true) ((tb_SW[37]?).getD []) := trivial
theorem tb_s38 : mm_allL (fun q => mm_swc (tb_kb 38) q.1 q.2 = true) ((tb_SW[38]?).getD []) := trivial
theorem tb_s39 : mm_allL (fun q => mm_swc (tb_kb 39) q.1 q.2 = true) ((tb_SW[39]?).getD []) := trivial
theorem tb_s40 : mm_allL (fun q => mm_swc (tb_kb 40) q.1 q.2 = true) ((tb_SW[40]?).getD []) := trivial
theorem tb_s41 : mm_allL (fun q => mm_swc (tb_kb 41) q.1 q.2 = true) ((tb_SW[41]?).getD []) := trivial
theorem tb_s42 : mm_allL (fun q => mm_swc (tb_kb 42) q.1 q.2 = true) ((tb_SW[42]?).getD []) := trivial
theorem tb_s43 : mm_allL (fun q => mm_swc (tb_kb 43) q.1 q.2 = true) ((tb_SW[43]?).getD []) := trivial
theorem tb_s44 : mm_allL (fun q => mm_swc (tb_kb 44) q.1 q.2 = true) ((tb_SW[44]?).getD []) := trivial
theorem tb_s45 : mm_allL (fun q => mm_swc (tb_kb 45) q.1 q.2 = true) ((tb_SW[45]?).getD []) := trivial
theorem tb_s46 : mm_allL (fun q => mm_swc (tb_kb 46) q.1 q.2 = true) ((tb_SW[46]?).getD []) := trivial
theorem tb_s47 : mm_allL (fun q => mm_swc (tb_kb 47) q.1 q.2 = true) ((tb_SW[47]?).getD []) := trivial
theorem tb_s48 : mm_allL (fun q => mm_swc (tb_kb 48) q.1 q.2 = true) ((tb_SW[48]?).getD []) := ⟨by decide +kernel, trivial⟩
theorem tb_s49 : mm_allL (fun q => mm_swc (tb_kb 49) q.1 q.2 = true) ((tb_SW[49]?).getD []) := trivial
theorem tb_s50 : mm_allL (fun q => mm_swc (tb_kb 50) q.1 q.2 = true) ((tb_SW[50]?).getD []) := trivial
theorem tb_s51 : mm_allL (fun q => mm_swc (tb_kb 51) q.1 q.2 = true) ((tb_SW[51]?).getD []) := trivial
theorem tb_s52 : mm_allL (fun q => mm_swc (tb_kb 52) q.1 q.2 = true) ((tb_SW[52]?).getD []) := trivial
theorem tb_s53 : mm_allL (fun q => mm_swc (tb_kb 53) q.1 q.2 = true) ((tb_SW[53]?).getD []) := trivial
theorem tb_s54 : mm_allL (fun q => mm_swc (tb_kb 54) q.1 q.2 = true) ((tb_SW[54]?).getD []) := trivial
theorem tb_s55 : mm_allL (fun q => mm_swc (tb_kb 55) q.1 q.2 = true) ((tb_SW[55]?).getD []) := trivial
theorem tb_s56 : mm_allL (fun q => mm_swc (tb_kb 56) q.1 q.2 = true) ((tb_SW[56]?).getD []) := trivial
theorem tb_s57 : mm_allL (fun q => mm_swc (tb_kb 57) q.1 q.2 = true) ((tb_SW[57]?).getD []) := trivial
theorem tb_s58 : mm_allL (fun q => mm_swc (tb_kb 58) q.1 q.2 = true) ((tb_SW[58]?).getD []) := trivial
theorem tb_s59 : mm_allL (fun q => mm_swc (tb_kb 59) q.1 q.2 = true) ((tb_SW[59]?).getD []) := trivial
theorem tb_s60 : mm_allL (fun q => mm_swc (tb_kb 60) q.1 q.2 = true) ((tb_SW[60]?).getD []) := trivial
theorem tb_s61 : mm_allL (fun q => mm_swc (tb_kb 61) q.1 q.2 = true) ((tb_SW[61]?).getD []) := trivial
theorem tb_s62 : mm_allL (fun q => mm_swc (tb_kb 62) q.1 q.2 = true) ((tb_SW[62]?).getD []) := trivial
theorem tb_s63 : mm_allL (fun q => mm_swc (tb_kb 63) q.1 q.2 = true) ((tb_SW[63]?).getD []) := trivial
theorem tb_s64 : mm_allL (fun q => mm_swc (tb_kb 64) q.1 q.2 = true) ((tb_SW[64]?).getD []) := trivial
theorem tb_s65 : mm_allL (fun q => mm_swc (tb_kb 65) q.1 q.2 = true) ((tb_SW[65]?).getD []) := trivial
theorem tb_s66 : mm_allL (fun q => mm_swc (tb_kb 66) q.1 q.2 = true) ((tb_SW[66]?).getD []) := trivial
theorem tb_s67 : mm_allL (fun q => mm_swc (tb_kb 67) q.1 q.2 = true) ((tb_SW[67]?).getD []) := trivial
theorem tb_s68 : mm_allL (fun q => mm_swc (tb_kb 68) q.1 q.2 = true) ((tb_SW[68]?).getD []) := trivial
theorem tb_s69 : mm_allL (fun q => mm_swc (tb_kb 69) q.1 q.2 = true) ((tb_SW[69]?).getD []) := trivial
theorem tb_s70 : mm_allL (fun q => mm_swc (tb_kb 70) q.1 q.2 = true) ((tb_SW[70]?).getD []) := trivial
theorem tb_s71 : mm_allL (fun q => mm_swc (tb_kb 71) q.1 q.2 = true) ((tb_SW[71]?).getD []) := trivial
theorem tb_s72 : mm_allL (fun q => mm_swc (tb_kb 72) q.1 q.2 = true) ((tb_SW[72]?).getD []) := trivial
theorem tb_s73 : mm_allL (fun q => mm_swc (tb_kb 73) q.1 q.2 = true) ((tb_SW[73]?).getD []) := trivial
theorem tb_s74 : mm_allL (fun q => mm_swc (tb_kb 74) q.1 q.2 = true) ((tb_SW[74]?).getD []) := trivial
theorem tb_s75 : mm_allL (fun q => mm_swc (tb_kb 75) q.1 q.2 = true) ((tb_SW[75]?).getD []) := trivial
theorem tb_s76 : mm_allL (fun q => mm_swc (tb_kb 76) q.1 q.2 = true) ((tb_SW[76]?).getD []) := trivial
theorem tb_s77 : mm_allL (fun q => mm_swc (tb_kb 77) q.1 q.2 = true) ((tb_SW[77]?).getD []) := trivial
theorem tb_s78 : mm_allL (fun q => mm_swc (tb_kb 78) q.1 q.2 = true) ((tb_SW[78]?).getD []) := trivial
theorem tb_s79 : mm_allL (fun q => mm_swc (tb_kb 79) q.1 q.2 = true) ((tb_SW[79]?).getD []) := trivial
theorem tb_s80 : mm_allL (fun q => mm_swc (tb_kb 80) q.1 q.2 = true) ((tb_SW[80]?).getD []) := trivial
theorem tb_s81 : mm_allL (fun q => mm_swc (tb_kb 81) q.1 q.2 = true) ((tb_SW[81]?).getD []) := trivial
theorem tb_s82 : mm_allL (fun q => mm_swc (tb_kb 82) q.1 q.2 = true) ((tb_SW[82]?).getD []) := trivial
theorem tb_s83 : mm_allL (fun q => mm_swc (tb_kb 83) q.1 q.2 = true) ((tb_SW[83]?).getD []) := trivial
theorem tb_s84 : mm_allL (fun q => mm_swc (tb_kb 84) q.1 q.2 = true) ((tb_SW[84]?).getD []) := trivial
theorem tb_s85 : mm_allL (fun q => mm_swc (tb_kb 85) q.1 q.2 = true) ((tb_SW[85]?).getD []) := trivial
theorem tb_s86 : mm_allL (fun q => mm_swc (tb_kb 86) q.1 q.2 = true) ((tb_SW[86]?).getD []) := trivial
theorem tb_s87 : mm_allL (fun q => mm_swc (tb_kb 87) q.1 q.2 = true) ((tb_SW[87]?).getD []) := trivial
theorem tb_s88 : mm_allL (fun q => mm_swc (tb_kb 88) q.1 q.2 = true) ((tb_SW[88]?).getD []) := trivial
theorem tb_s89 : mm_allL (fun q => mm_swc (tb_kb 89) q.1 q.2 = true) ((tb_SW[89]?).getD []) := trivial
theorem tb_s90 : mm_allL (fun q => mm_swc (tb_kb 90) q.1 q.2 = true) ((tb_SW[90]?).getD []) := trivial
theorem tb_s91 : mm_allL (fun q => mm_swc (tb_kb 91) q.1 q.2 = true) ((tb_SW[91]?).getD []) := trivial
theorem tb_s92 : mm_allL (fun q => mm_swc (tb_kb 92) q.1 q.2 = true) ((tb_SW[92]?).getD []) := trivial
theorem tb_s93 : mm_allL (fun q => mm_swc (tb_kb 93) q.1 q.2 = true) ((tb_SW[93]?).getD []) := trivial
theorem tb_s94 : mm_allL (fun q => mm_swc (tb_kb 94) q.1 q.2 = true) ((tb_SW[94]?).getD []) := trivial
theorem tb_s95 : mm_allL (fun q => mm_swc (tb_kb 95) q.1 q.2 = true) ((tb_SW[95]?).getD []) := trivial
theorem tb_s96 : mm_allL (fun q => mm_swc (tb_kb 96) q.1 q.2 = true) ((tb_SW[96]?).getD []) := trivial
theorem tb_s97 : mm_allL (fun q => mm_swc (tb_kb 97) q.1 q.2 = true) ((tb_SW[97]?).getD []) := trivial
theorem tb_s98 : mm_allL (fun q => mm_swc (tb_kb 98) q.1 q.2 = true) ((tb_SW[98]?).getD []) := trivial
theorem tb_s99 : mm_allL (fun q => mm_swc (tb_kb 99) q.1 q.2 = true) ((tb_SW[99]?).getD []) := trivial
theorem tb_s100 : mm_allL (fun q => mm_swc (tb_kb 100) q.1 q.2 = true) ((tb_SW[100]?).getD []) := trivial
theorem tb_s101 : mm_allL (fun q => mm_swc (tb_kb 101) q.1 q.2 = true) ((tb_SW[101]?).getD []) := trivial
theorem tb_s102 : mm_allL (fun q => mm_swc (tb_kb 102) q.1 q.2 = true) ((tb_SW[102]?).getD []) := trivial
theorem tb_s103 : mm_allL (fun q => mm_swc (tb_kb 103) q.1 q.2 = true) ((tb_SW[103]?).getD []) := trivial
theorem tb_s104 : mm_allL (fun q => mm_swc (tb_kb 104) q.1 q.2 = true) ((tb_SW[104]?).getD []) := trivial
theorem tb_s105 : mm_allL (fun q => mm_swc (tb_kb 105) q.1 q.2 = true) ((tb_SW[105]?).getD []) := trivial
theorem tb_s106 : mm_allL (fun q => mm_swc (tb_kb 106) q.1 q.2 = true) ((tb_SW[106]?).getD []) := trivial
theorem tb_s107 : mm_allL (fun q => mm_swc (tb_kb 107) q.1 q.2 = true) ((tb_SW[107]?).getD []) := trivial
theorem tb_s108 : mm_allL (fun q => mm_swc (tb_kb 108) q.1 q.2 = true) ((tb_SW[108]?).getD []) := trivial
theorem tb_s109 : mm_allL (fun q => mm_swc (tb_kb 109) q.1 q.2 = true) ((tb_SW[109]?).getD []) := trivial
theorem tb_s110 : mm_allL (fun q => mm_swc (tb_kb 110) q.1 q.2 = true) ((tb_SW[110]?).getD []) := trivial
theorem tb_s111 : mm_allL (fun q => mm_swc (tb_kb 111) q.1 q.2 = true) ((tb_SW[111]?).getD []) := trivial
theorem tb_s112 : mm_allL (fun q => mm_swc (tb_kb 112) q.1 q.2 = true) ((tb_SW[112]?).getD []) := ⟨by decide +kernel, trivial⟩
theorem tb_s113 : mm_allL (fun q => mm_swc (tb_kb 113) q.1 q.2 = true) ((tb_SW[113]?).getD []) := trivial
theorem tb_s114 : mm_allL (fun q => mm_swc (tb_kb 114) q.1 q.2 = true) ((tb_SW[114]?).getD []) := trivial
theorem tb_s115 : mm_allL (fun q => mm_swc (tb_kb 115) q.1 q.2 = true) ((tb_SW[115]?).getD []) := trivial
theorem tb_s116 : mm_allL (fun q => mm_swc (tb_kb 116) q.1 q.2 = true) ((tb_SW[116]?).getD []) := trivial
theorem tb_s117 : mm_allL (fun q => mm_swc (tb_kb 117) q.1 q.2 = true) ((tb_SW[117]?).getD []) := trivial
theorem tb_s118 : mm_allL (fun q => mm_swc (tb_kb 118) q.1 q.2 = true) ((tb_SW[118]?).getD []) := trivial
theorem tb_s119 : mm_allL (fun q => mm_swc (tb_kb 119) q.1 q.2 = true) ((tb_SW[119]?).getD []) := trivial
theorem tb_s120 : mm_allL (fun q => mm_swc (tb_kb 120) q.1 q.2 = true) ((tb_SW[120]?).getD []) := trivial
theorem tb_s121 : mm_allL (fun q => mm_swc (tb_kb 121) q.1 q.2 = true) ((tb_SW[121]?).getD []) := trivial
theorem tb_s122 : mm_allL (fun q => mm_swc (tb_kb 122) q.1 q.2 = true) ((tb_SW[122]?).getD []) := trivial
theorem tb_s123 : mm_allL (fun q => mm_swc (tb_kb 123) q.1 q.2 = true) ((tb_SW[123]?).getD []) := trivial
theorem tb_s124 : mm_allL (fun q => mm_swc (tb_kb 124) q.1 q.2 = true) ((tb_SW[124]?).getD []) := trivial
theorem tb_s125 : mm_allL (fun q => mm_swc (tb_kb 125) q.1 q.2 = true) ((tb_SW[125]?).getD []) := trivial
theorem tb_s126 : mm_allL (fun q => mm_swc (tb_kb 126) q.1 q.2 = true) ((tb_SW[126]?).getD []) := trivial
theorem tb_s127 : mm_allL (fun q => mm_swc (tb_kb 127) q.1 q.2 = true) ((tb_SW[127]?).getD []) := trivial
theorem tb_s128 : mm_allL (fun q => mm_swc (tb_kb 128) q.1 q.2 = true) ((tb_SW[128]?).getD []) := trivial
theorem tb_s129 : mm_allL (fun q => mm_swc (tb_kb 129) q.1 q.2 = true) ((tb_SW[129]?).getD []) := trivial
theorem tb_s130 : mm_allL (fun q => mm_swc (tb_kb 130) q.1 q.2 = true) ((tb_SW[130]?).getD []) := trivial
theorem tb_s131 : mm_allL (fun q => mm_swc (tb_kb 131) q.1 q.2 = true) ((tb_SW[131]?).getD []) := trivial
theorem tb_s132 : mm_allL (fun q => mm_swc (tb_kb 132) q.1 q.2 = true) ((tb_SW[132]?).getD []) := trivial
theorem tb_s133 : mm_allL (fun q => mm_swc (tb_kb 133) q.1 q.2 = true) ((tb_SW[133]?).getD []) := trivial
theorem tb_s134 : mm_allL (fun q => mm_swc (tb_kb 134) q.1 q.2 = true) ((tb_SW[134]?).getD []) := trivial
theorem tb_s135 : mm_allL (fun q => mm_swc (tb_kb 135) q.1 q.2 = true) ((tb_SW[135]?).getD []) := trivial
set_option maxRecDepth 20000 in
theorem tb_sall : mm_all2P (fun k pc v => mm_swc (tb_kb k) pc v = true) 0 tb_SW := ⟨tb_s0, tb_s1, tb_s2, tb_s3, tb_s4, tb_s5, tb_s6, tb_s7, tb_s8, tb_s9, tb_s10, tb_s11, tb_s12, tb_s13, tb_s14, tb_s15, tb_s16, tb_s17, tb_s18, tb_s19, tb_s20, tb_s21, tb_s22, tb_s23, tb_s24, tb_s25, tb_s26, tb_s27, tb_s28, tb_s29, tb_s30, tb_s31, tb_s32, tb_s33, tb_s34, tb_s35, tb_s36, tb_s37, tb_s38, tb_s39, tb_s40, tb_s41, tb_s42, tb_s43, tb_s44, tb_s45, tb_s46, tb_s47, tb_s48, tb_s49, tb_s50, tb_s51, tb_s52, tb_s53, tb_s54, tb_s55, tb_s56, tb_s57, tb_s58, tb_s59, tb_s60, tb_s61, tb_s62, tb_s63, tb_s64, tb_s65, tb_s66, tb_s67, tb_s68, tb_s69, tb_s70, tb_s71, tb_s72, tb_s73, tb_s74, tb_s75, tb_s76, tb_s77, tb_s78, tb_s79, tb_s80, tb_s81, tb_s82, tb_s83, tb_s84, tb_s85, tb_s86, tb_s87, tb_s88, tb_s89, tb_s90, tb_s91, tb_s92, tb_s93, tb_s94, tb_s95, tb_s96, tb_s97, tb_s98, tb_s99, tb_s100, tb_s101, tb_s102, tb_s103, tb_s104, tb_s105, tb_s106, tb_s107, tb_s108, tb_s109, tb_s110, tb_s111, tb_s112, tb_s113, tb_s114, tb_s115, tb_s116, tb_s117, tb_s118, tb_s119, tb_s120, tb_s121, tb_s122, tb_s123, tb_s124, tb_s125, tb_s126, tb_s127, tb_s128, tb_s129, tb_s130, tb_s131, tb_s132, tb_s133, tb_s134, tb_s135, trivial⟩
theorem tb_nh0 : "IndexedCompiler" ≠ "java/lang/invoke/MethodHandle" ∧ "IndexedCompiler" ≠ "java/lang/invoke/VarHandle" := ⟨by decide +kernel, by decide +kernel⟩
theorem tb_pn0 : plainName "IndexedCompiler" = true := by decide +kernel
theorem tb_nh6 : "IndexedCompiler$Checker" ≠ "java/lang/invoke/MethodHandle" ∧ "IndexedCompiler$Checker" ≠ "java/lang/invoke/VarHandle" := ⟨by decide +kernel, by decide +kernel⟩
theorem tb_pn6 : plainName "IndexedCompiler$Checker" = true := by decide +kernel
theorem tb_nh7 : "IndexedCompiler$Coder" ≠ "java/lang/invoke/MethodHandle" ∧ "IndexedCompiler$Coder" ≠ "java/lang/invoke/VarHandle" := ⟨by decide +kernel, by decide +kernel⟩
theorem tb_pn7 : plainName "IndexedCompiler$Coder" = true := by decide +kernel
theorem tb_nh4 : "IndexedCompiler$Expression" ≠ "java/lang/invoke/MethodHandle" ∧ "IndexedCompiler$Expression" ≠ "java/lang/invoke/VarHandle" := ⟨by decide +kernel, by decide +kernel⟩
theorem tb_pn4 : plainName "IndexedCompiler$Expression" = true := by decide +kernel
theorem tb_nh5 : "IndexedCompiler$Ground" ≠ "java/lang/invoke/MethodHandle" ∧ "IndexedCompiler$Ground" ≠ "java/lang/invoke/VarHandle" := ⟨by decide +kernel, by decide +kernel⟩
theorem tb_pn5 : plainName "IndexedCompiler$Ground" = true := by decide +kernel
theorem tb_nh1 : "IndexedCompiler$Line" ≠ "java/lang/invoke/MethodHandle" ∧ "IndexedCompiler$Line" ≠ "java/lang/invoke/VarHandle" := ⟨by decide +kernel, by decide +kernel⟩
theorem tb_pn1 : plainName "IndexedCompiler$Line" = true := by decide +kernel
theorem tb_nh9 : "IndexedCompiler$Machine" ≠ "java/lang/invoke/MethodHandle" ∧ "IndexedCompiler$Machine" ≠ "java/lang/invoke/VarHandle" := ⟨by decide +kernel, by decide +kernel⟩
theorem tb_pn9 : plainName "IndexedCompiler$Machine" = true := by decide +kernel
theorem tb_nh2 : "IndexedCompiler$Reader" ≠ "java/lang/invoke/MethodHandle" ∧ "IndexedCompiler$Reader" ≠ "java/lang/invoke/VarHandle" := ⟨by decide +kernel, by decide +kernel⟩
theorem tb_pn2 : plainName "IndexedCompiler$Reader" = true := by decide +kernel
theorem tb_nh8 : "IndexedCompiler$Slots" ≠ "java/lang/invoke/MethodHandle" ∧ "IndexedCompiler$Slots" ≠ "java/lang/invoke/VarHandle" := ⟨by decide +kernel, by decide +kernel⟩
theorem tb_pn8 : plainName "IndexedCompiler$Slots" = true := by decide +kernel
theorem tb_nh3 : "IndexedCompiler$Solver" ≠ "java/lang/invoke/MethodHandle" ∧ "IndexedCompiler$Solver" ≠ "java/lang/invoke/VarHandle" := ⟨by decide +kernel, by decide +kernel⟩
theorem tb_pn3 : plainName "IndexedCompiler$Solver" = true := by decide +kernel
theorem tb_nh10 : "IndexedCompiler$Tree" ≠ "java/lang/invoke/MethodHandle" ∧ "IndexedCompiler$Tree" ≠ "java/lang/invoke/VarHandle" := ⟨by decide +kernel, by decide +kernel⟩
theorem tb_pn10 : plainName "IndexedCompiler$Tree" = true := by decide +kernel
theorem tb_nh15 : "IndexedCompilerLaw" ≠ "java/lang/invoke/MethodHandle" ∧ "IndexedCompilerLaw" ≠ "java/lang/invoke/VarHandle" := ⟨by decide +kernel, by decide +kernel⟩
theorem tb_pn15 : plainName "IndexedCompilerLaw" = true := by decide +kernel
theorem tb_nh12 : "IndexedCompilerModel" ≠ "java/lang/invoke/MethodHandle" ∧ "IndexedCompilerModel" ≠ "java/lang/invoke/VarHandle" := ⟨by decide +kernel, by decide +kernel⟩
theorem tb_pn12 : plainName "IndexedCompilerModel" = true := by decide +kernel
theorem tb_nh16 : "java/lang/Math" ≠ "java/lang/invoke/MethodHandle" ∧ "java/lang/Math" ≠ "java/lang/invoke/VarHandle" := ⟨by decide +kernel, by decide +kernel⟩
theorem tb_nh17 : "java/util/Arrays" ≠ "java/lang/invoke/MethodHandle" ∧ "java/util/Arrays" ≠ "java/lang/invoke/VarHandle" := ⟨by decide +kernel, by decide +kernel⟩
theorem tb_k1 : mm_cf tb_P tb_TB tb_cn tb_ky tb_kb tb_hs 1 := ⟨Or.inr (tb_i6 (List.mem_of_getElem? (i := 38) rfl) rfl), (tb_i1 (List.mem_of_getElem? (i := 0) rfl) rfl), tb_nh15, plainFor_of_name tb_pn15, rfl, fun h => Bool.noConfusion h⟩
theorem tb_k2 : mm_cf tb_P tb_TB tb_cn tb_ky tb_kb tb_hs 2 := ⟨Or.inr (tb_i6 (List.mem_of_getElem? (i := 56) rfl) rfl), (tb_i1 (List.mem_of_getElem? (i := 0) rfl) rfl), tb_nh15, plainFor_of_name tb_pn15, rfl, fun h => Bool.noConfusion h⟩
theorem tb_k3 : mm_cf tb_P tb_TB tb_cn tb_ky tb_kb tb_hs 3 := ⟨Or.inr (tb_i6 (List.mem_of_getElem? (i := 84) rfl) rfl), (tb_i1 (List.mem_of_getElem? (i := 0) rfl) rfl), tb_nh15, plainFor_of_name tb_pn15, rfl, fun h => Bool.noConfusion h⟩
theorem tb_k4 : mm_cf tb_P tb_TB tb_cn tb_ky tb_kb tb_hs 4 := ⟨Or.inr (tb_i6 (List.mem_of_getElem? (i := 100) rfl) rfl), (tb_i1 (List.mem_of_getElem? (i := 0) rfl) rfl), tb_nh15, plainFor_of_name tb_pn15, rfl, fun h => Bool.noConfusion h⟩
theorem tb_k5 : mm_cf tb_P tb_TB tb_cn tb_ky tb_kb tb_hs 5 := ⟨Or.inr (tb_i6 (List.mem_of_getElem? (i := 117) rfl) rfl), (tb_i1 (List.mem_of_getElem? (i := 0) rfl) rfl), tb_nh15, plainFor_of_name tb_pn15, rfl, fun h => Bool.noConfusion h⟩
theorem tb_k6 : mm_cf tb_P tb_TB tb_cn tb_ky tb_kb tb_hs 6 := ⟨Or.inr (tb_i6 (List.mem_of_getElem? (i := 138) rfl) rfl), (tb_i1 (List.mem_of_getElem? (i := 0) rfl) rfl), tb_nh15, plainFor_of_name tb_pn15, rfl, fun h => Bool.noConfusion h⟩
theorem tb_k7 : mm_cf tb_P tb_TB tb_cn tb_ky tb_kb tb_hs 7 := ⟨Or.inr (tb_i6 (List.mem_of_getElem? (i := 150) rfl) rfl), (tb_i1 (List.mem_of_getElem? (i := 0) rfl) rfl), tb_nh15, plainFor_of_name tb_pn15, rfl, fun h => Bool.noConfusion h⟩
theorem tb_k8 : mm_cf tb_P tb_TB tb_cn tb_ky tb_kb tb_hs 8 := ⟨Or.inr (tb_i6 (List.mem_of_getElem? (i := 171) rfl) rfl), (tb_i1 (List.mem_of_getElem? (i := 0) rfl) rfl), tb_nh15, plainFor_of_name tb_pn15, rfl, fun h => Bool.noConfusion h⟩
theorem tb_k9 : mm_cf tb_P tb_TB tb_cn tb_ky tb_kb tb_hs 9 := ⟨Or.inr (tb_i6 (List.mem_of_getElem? (i := 187) rfl) rfl), (tb_i1 (List.mem_of_getElem? (i := 0) rfl) rfl), tb_nh15, plainFor_of_name tb_pn15, rfl, fun h => Bool.noConfusion h⟩
theorem tb_k10 : mm_cf tb_P tb_TB tb_cn tb_ky tb_kb tb_hs 10 := ⟨Or.inr (tb_i6 (List.mem_of_getElem? (i := 199) rfl) rfl), (tb_i1 (List.mem_of_getElem? (i := 0) rfl) rfl), tb_nh15, plainFor_of_name tb_pn15, rfl, fun h => Bool.noConfusion h⟩
theorem tb_k11 : mm_cf tb_P tb_TB tb_cn tb_ky tb_kb tb_hs 11 := ⟨Or.inr (tb_i7 (List.mem_of_getElem? (i := 89) rfl) rfl), (tb_i1 (List.mem_of_getElem? (i := 0) rfl) rfl), tb_nh15, plainFor_of_name tb_pn15, rfl, fun h => Bool.noConfusion h⟩
theorem tb_k12 : mm_cf tb_P tb_TB tb_cn tb_ky tb_kb tb_hs 12 := ⟨Or.inr (tb_i7 (List.mem_of_getElem? (i := 101) rfl) rfl), (tb_i1 (List.mem_of_getElem? (i := 0) rfl) rfl), tb_nh15, plainFor_of_name tb_pn15, rfl, fun h => Bool.noConfusion h⟩
theorem tb_k13 : mm_cf tb_P tb_TB tb_cn tb_ky tb_kb tb_hs 13 := ⟨Or.inr (tb_i7 (List.mem_of_getElem? (i := 122) rfl) rfl), (tb_i1 (List.mem_of_getElem? (i := 0) rfl) rfl), tb_nh15, plainFor_of_name tb_pn15, rfl, fun h => Bool.noConfusion h⟩
theorem tb_k14 : mm_cf tb_P tb_TB tb_cn tb_ky tb_kb tb_hs 14 := ⟨Or.inl ⟨(tb_i7 (List.mem_of_getElem? (i := 135) rfl) rfl), rfl⟩, (tb_i1 (List.mem_of_getElem? (i := 12) rfl) rfl), tb_nh12, plainFor_of_name tb_pn12, rfl, fun _ => rfl⟩
theorem tb_k15 : mm_cf tb_P tb_TB tb_cn tb_ky tb_kb tb_hs 15 := ⟨Or.inl ⟨(tb_i9 (List.mem_of_getElem? (i := 96) rfl) rfl), rfl⟩, (tb_i1 (List.mem_of_getElem? (i := 12) rfl) rfl), tb_nh12, plainFor_of_name tb_pn12, rfl, fun h => Bool.noConfusion h⟩
theorem tb_k16 : mm_cf tb_P tb_TB tb_cn tb_ky tb_kb tb_hs 16 := ⟨Or.inl ⟨(tb_i9 (List.mem_of_getElem? (i := 108) rfl) rfl), rfl⟩, (tb_i1 (List.mem_of_getElem? (i := 12) rfl) rfl), tb_nh12, plainFor_of_name tb_pn12, rfl, fun h => Bool.noConfusion h⟩
theorem tb_k17 : mm_cf tb_P tb_TB tb_cn tb_ky tb_kb tb_hs 17 := ⟨Or.inl ⟨(tb_i11 (List.mem_of_getElem? (i := 53) rfl) rfl), rfl⟩, (tb_i1 (List.mem_of_getElem? (i := 12) rfl) rfl), tb_nh12, plainFor_of_name tb_pn12, rfl, fun h => Bool.noConfusion h⟩
theorem tb_k18 : mm_cf tb_P tb_TB tb_cn tb_ky tb_kb tb_hs 18 := ⟨Or.inl ⟨(tb_i9 (List.mem_of_getElem? (i := 104) rfl) rfl), rfl⟩, (tb_i1 (List.mem_of_getElem? (i := 12) rfl) rfl), tb_nh12, plainFor_of_name tb_pn12, rfl, fun h => Bool.noConfusion h⟩
theorem tb_k19 : mm_cf tb_P tb_TB tb_cn tb_ky tb_kb tb_hs 19 := ⟨Or.inl ⟨(tb_i9 (List.mem_of_getElem? (i := 100) rfl) rfl), rfl⟩, (tb_i1 (List.mem_of_getElem? (i := 12) rfl) rfl), tb_nh12, plainFor_of_name tb_pn12, rfl, fun h => Bool.noConfusion h⟩
theorem tb_k20 : mm_cf tb_P tb_TB tb_cn tb_ky tb_kb tb_hs 20 := ⟨Or.inl ⟨(tb_i9 (List.mem_of_getElem? (i := 112) rfl) rfl), rfl⟩, (tb_i1 (List.mem_of_getElem? (i := 12) rfl) rfl), tb_nh12, plainFor_of_name tb_pn12, rfl, fun h => Bool.noConfusion h⟩
theorem tb_k21 : mm_cf tb_P tb_TB tb_cn tb_ky tb_kb tb_hs 21 := ⟨Or.inl ⟨(tb_i9 (List.mem_of_getElem? (i := 124) rfl) rfl), rfl⟩, (tb_i1 (List.mem_of_getElem? (i := 12) rfl) rfl), tb_nh12, plainFor_of_name tb_pn12, rfl, fun h => Bool.noConfusion h⟩
theorem tb_k22 : mm_cf tb_P tb_TB tb_cn tb_ky tb_kb tb_hs 22 := ⟨Or.inl ⟨(tb_i9 (List.mem_of_getElem? (i := 149) rfl) rfl), rfl⟩, (tb_i1 (List.mem_of_getElem? (i := 12) rfl) rfl), tb_nh12, plainFor_of_name tb_pn12, rfl, fun h => Bool.noConfusion h⟩
theorem tb_k23 : mm_cf tb_P tb_TB tb_cn tb_ky tb_kb tb_hs 23 := ⟨Or.inl ⟨(tb_i9 (List.mem_of_getElem? (i := 166) rfl) rfl), rfl⟩, (tb_i1 (List.mem_of_getElem? (i := 12) rfl) rfl), tb_nh12, plainFor_of_name tb_pn12, rfl, fun h => Bool.noConfusion h⟩
theorem tb_k24 : mm_cf tb_P tb_TB tb_cn tb_ky tb_kb tb_hs 24 := ⟨Or.inl ⟨(tb_i9 (List.mem_of_getElem? (i := 145) rfl) rfl), rfl⟩, (tb_i1 (List.mem_of_getElem? (i := 12) rfl) rfl), tb_nh12, plainFor_of_name tb_pn12, rfl, fun h => Bool.noConfusion h⟩
theorem tb_k25 : mm_cf tb_P tb_TB tb_cn tb_ky tb_kb tb_hs 25 := ⟨Or.inl ⟨(tb_i9 (List.mem_of_getElem? (i := 157) rfl) rfl), rfl⟩, (tb_i1 (List.mem_of_getElem? (i := 12) rfl) rfl), tb_nh12, plainFor_of_name tb_pn12, rfl, fun h => Bool.noConfusion h⟩
theorem tb_k26 : mm_cf tb_P tb_TB tb_cn tb_ky tb_kb tb_hs 26 := ⟨Or.inl ⟨(tb_i9 (List.mem_of_getElem? (i := 202) rfl) rfl), rfl⟩, (tb_i1 (List.mem_of_getElem? (i := 12) rfl) rfl), tb_nh12, plainFor_of_name tb_pn12, rfl, fun h => Bool.noConfusion h⟩
theorem tb_k27 : mm_cf tb_P tb_TB tb_cn tb_ky tb_kb tb_hs 27 := ⟨Or.inl ⟨(tb_i9 (List.mem_of_getElem? (i := 141) rfl) rfl), rfl⟩, (tb_i1 (List.mem_of_getElem? (i := 12) rfl) rfl), tb_nh12, plainFor_of_name tb_pn12, rfl, fun h => Bool.noConfusion h⟩
theorem tb_k28 : mm_cf tb_P tb_TB tb_cn tb_ky tb_kb tb_hs 28 := ⟨Or.inl ⟨(tb_i9 (List.mem_of_getElem? (i := 153) rfl) rfl), rfl⟩, (tb_i1 (List.mem_of_getElem? (i := 12) rfl) rfl), tb_nh12, plainFor_of_name tb_pn12, rfl, fun h => Bool.noConfusion h⟩
theorem tb_k29 : mm_cf tb_P tb_TB tb_cn tb_ky tb_kb tb_hs 29 := ⟨Or.inl ⟨(tb_i9 (List.mem_of_getElem? (i := 120) rfl) rfl), rfl⟩, (tb_i1 (List.mem_of_getElem? (i := 12) rfl) rfl), tb_nh12, plainFor_of_name tb_pn12, rfl, fun h => Bool.noConfusion h⟩
theorem tb_k30 : mm_cf tb_P tb_TB tb_cn tb_ky tb_kb tb_hs 30 := ⟨Or.inl ⟨(tb_i9 (List.mem_of_getElem? (i := 116) rfl) rfl), rfl⟩, (tb_i1 (List.mem_of_getElem? (i := 12) rfl) rfl), tb_nh12, plainFor_of_name tb_pn12, rfl, fun h => Bool.noConfusion h⟩
theorem tb_k31 : mm_cf tb_P tb_TB tb_cn tb_ky tb_kb tb_hs 31 := ⟨Or.inl ⟨(tb_i10 (List.mem_of_getElem? (i := 30) rfl) rfl), rfl⟩, (tb_i1 (List.mem_of_getElem? (i := 12) rfl) rfl), tb_nh12, plainFor_of_name tb_pn12, rfl, fun h => Bool.noConfusion h⟩
theorem tb_k32 : mm_cf tb_P tb_TB tb_cn tb_ky tb_kb tb_hs 32 := ⟨Or.inl ⟨(tb_i10 (List.mem_of_getElem? (i := 26) rfl) rfl), rfl⟩, (tb_i1 (List.mem_of_getElem? (i := 12) rfl) rfl), tb_nh12, plainFor_of_name tb_pn12, rfl, fun h => Bool.noConfusion h⟩
theorem tb_k33 : mm_cf tb_P tb_TB tb_cn tb_ky tb_kb tb_hs 33 := ⟨Or.inl ⟨(tb_i10 (List.mem_of_getElem? (i := 34) rfl) rfl), rfl⟩, (tb_i1 (List.mem_of_getElem? (i := 12) rfl) rfl), tb_nh12, plainFor_of_name tb_pn12, rfl, fun h => Bool.noConfusion h⟩
theorem tb_k34 : mm_cf tb_P tb_TB tb_cn tb_ky tb_kb tb_hs 34 := ⟨Or.inl ⟨(tb_i10 (List.mem_of_getElem? (i := 38) rfl) rfl), rfl⟩, (tb_i1 (List.mem_of_getElem? (i := 12) rfl) rfl), tb_nh12, plainFor_of_name tb_pn12, rfl, fun h => Bool.noConfusion h⟩
theorem tb_k35 : mm_cf tb_P tb_TB tb_cn tb_ky tb_kb tb_hs 35 := ⟨Or.inl ⟨(tb_i11 (List.mem_of_getElem? (i := 49) rfl) rfl), rfl⟩, (tb_i1 (List.mem_of_getElem? (i := 12) rfl) rfl), tb_nh12, plainFor_of_name tb_pn12, rfl, fun h => Bool.noConfusion h⟩
theorem tb_k36 : mm_cf tb_P tb_TB tb_cn tb_ky tb_kb tb_hs 36 := ⟨Or.inl ⟨(tb_i11 (List.mem_of_getElem? (i := 57) rfl) rfl), rfl⟩, (tb_i1 (List.mem_of_getElem? (i := 12) rfl) rfl), tb_nh12, plainFor_of_name tb_pn12, rfl, fun h => Bool.noConfusion h⟩
theorem tb_k37 : mm_cf tb_P tb_TB tb_cn tb_ky tb_kb tb_hs 37 := ⟨Or.inl ⟨(tb_i11 (List.mem_of_getElem? (i := 61) rfl) rfl), rfl⟩, (tb_i1 (List.mem_of_getElem? (i := 12) rfl) rfl), tb_nh12, plainFor_of_name tb_pn12, rfl, fun h => Bool.noConfusion h⟩
theorem tb_k38 : mm_cf tb_P tb_TB tb_cn tb_ky tb_kb tb_hs 38 := ⟨Or.inl ⟨(tb_i11 (List.mem_of_getElem? (i := 65) rfl) rfl), rfl⟩, (tb_i1 (List.mem_of_getElem? (i := 12) rfl) rfl), tb_nh12, plainFor_of_name tb_pn12, rfl, fun h => Bool.noConfusion h⟩
theorem tb_k39 : mm_cf tb_P tb_TB tb_cn tb_ky tb_kb tb_hs 39 := ⟨Or.inl ⟨(tb_i11 (List.mem_of_getElem? (i := 79) rfl) rfl), rfl⟩, (tb_i1 (List.mem_of_getElem? (i := 12) rfl) rfl), tb_nh12, plainFor_of_name tb_pn12, rfl, fun h => Bool.noConfusion h⟩
theorem tb_k40 : mm_cf tb_P tb_TB tb_cn tb_ky tb_kb tb_hs 40 := ⟨Or.inl ⟨(tb_i11 (List.mem_of_getElem? (i := 76) rfl) rfl), rfl⟩, (tb_i1 (List.mem_of_getElem? (i := 12) rfl) rfl), tb_nh12, plainFor_of_name tb_pn12, rfl, fun h => Bool.noConfusion h⟩
theorem tb_k41 : mm_cf tb_P tb_TB tb_cn tb_ky tb_kb tb_hs 41 := ⟨Or.inl ⟨(tb_i11 (List.mem_of_getElem? (i := 73) rfl) rfl), rfl⟩, (tb_i1 (List.mem_of_getElem? (i := 12) rfl) rfl), tb_nh12, plainFor_of_name tb_pn12, rfl, fun h => Bool.noConfusion h⟩
theorem tb_k42 : mm_cf tb_P tb_TB tb_cn tb_ky tb_kb tb_hs 42 := ⟨Or.inl ⟨(tb_i11 (List.mem_of_getElem? (i := 83) rfl) rfl), rfl⟩, (tb_i1 (List.mem_of_getElem? (i := 12) rfl) rfl), tb_nh12, plainFor_of_name tb_pn12, rfl, fun h => Bool.noConfusion h⟩
theorem tb_k43 : mm_cf tb_P tb_TB tb_cn tb_ky tb_kb tb_hs 43 := ⟨Or.inl ⟨(tb_i11 (List.mem_of_getElem? (i := 92) rfl) rfl), rfl⟩, (tb_i1 (List.mem_of_getElem? (i := 12) rfl) rfl), tb_nh12, plainFor_of_name tb_pn12, rfl, fun h => Bool.noConfusion h⟩
theorem tb_k44 : mm_cf tb_P tb_TB tb_cn tb_ky tb_kb tb_hs 44 := ⟨Or.inl ⟨(tb_i11 (List.mem_of_getElem? (i := 88) rfl) rfl), rfl⟩, (tb_i1 (List.mem_of_getElem? (i := 12) rfl) rfl), tb_nh12, plainFor_of_name tb_pn12, rfl, fun h => Bool.noConfusion h⟩
theorem tb_k45 : mm_cf tb_P tb_TB tb_cn tb_ky tb_kb tb_hs 45 := ⟨Or.inl ⟨(tb_i11 (List.mem_of_getElem? (i := 96) rfl) rfl), rfl⟩, (tb_i1 (List.mem_of_getElem? (i := 12) rfl) rfl), tb_nh12, plainFor_of_name tb_pn12, rfl, fun h => Bool.noConfusion h⟩
theorem tb_k46 : mm_cf tb_P tb_TB tb_cn tb_ky tb_kb tb_hs 46 := ⟨Or.inl ⟨(tb_i11 (List.mem_of_getElem? (i := 100) rfl) rfl), rfl⟩, (tb_i1 (List.mem_of_getElem? (i := 12) rfl) rfl), tb_nh12, plainFor_of_name tb_pn12, rfl, fun h => Bool.noConfusion h⟩
theorem tb_k47 : mm_cf tb_P tb_TB tb_cn tb_ky tb_kb tb_hs 47 := ⟨Or.inl ⟨(tb_i11 (List.mem_of_getElem? (i := 105) rfl) rfl), rfl⟩, (tb_i1 (List.mem_of_getElem? (i := 12) rfl) rfl), tb_nh12, plainFor_of_name tb_pn12, rfl, fun h => Bool.noConfusion h⟩
theorem tb_k48 : mm_cf tb_P tb_TB tb_cn tb_ky tb_kb tb_hs 48 := ⟨Or.inl ⟨(tb_i11 (List.mem_of_getElem? (i := 159) rfl) rfl), rfl⟩, (tb_i1 (List.mem_of_getElem? (i := 12) rfl) rfl), tb_nh12, plainFor_of_name tb_pn12, rfl, fun h => Bool.noConfusion h⟩
theorem tb_k49 : mm_cf tb_P tb_TB tb_cn tb_ky tb_kb tb_hs 49 := ⟨Or.inl ⟨(tb_i11 (List.mem_of_getElem? (i := 164) rfl) rfl), rfl⟩, (tb_i1 (List.mem_of_getElem? (i := 12) rfl) rfl), tb_nh12, plainFor_of_name tb_pn12, rfl, fun h => Bool.noConfusion h⟩
theorem tb_k50 : mm_cf tb_P tb_TB tb_cn tb_ky tb_kb tb_hs 50 := ⟨Or.inl ⟨(tb_i11 (List.mem_of_getElem? (i := 172) rfl) rfl), rfl⟩, (tb_i1 (List.mem_of_getElem? (i := 12) rfl) rfl), tb_nh12, plainFor_of_name tb_pn12, rfl, fun h => Bool.noConfusion h⟩
theorem tb_k51 : mm_cf tb_P tb_TB tb_cn tb_ky tb_kb tb_hs 51 := ⟨Or.inl ⟨(tb_i11 (List.mem_of_getElem? (i := 177) rfl) rfl), rfl⟩, (tb_i1 (List.mem_of_getElem? (i := 12) rfl) rfl), tb_nh12, plainFor_of_name tb_pn12, rfl, fun h => Bool.noConfusion h⟩
theorem tb_k52 : mm_cf tb_P tb_TB tb_cn tb_ky tb_kb tb_hs 52 := ⟨Or.inl ⟨(tb_i11 (List.mem_of_getElem? (i := 169) rfl) rfl), rfl⟩, (tb_i1 (List.mem_of_getElem? (i := 12) rfl) rfl), tb_nh12, plainFor_of_name tb_pn12, rfl, fun h => Bool.noConfusion h⟩
theorem tb_k53 : mm_cf tb_P tb_TB tb_cn tb_ky tb_kb tb_hs 53 := ⟨Or.inl ⟨(tb_i11 (List.mem_of_getElem? (i := 181) rfl) rfl), rfl⟩, (tb_i1 (List.mem_of_getElem? (i := 12) rfl) rfl), tb_nh12, plainFor_of_name tb_pn12, rfl, fun h => Bool.noConfusion h⟩
theorem tb_k54 : mm_cf tb_P tb_TB tb_cn tb_ky tb_kb tb_hs 54 := ⟨Or.inl ⟨(tb_i11 (List.mem_of_getElem? (i := 185) rfl) rfl), rfl⟩, (tb_i1 (List.mem_of_getElem? (i := 12) rfl) rfl), tb_nh12, plainFor_of_name tb_pn12, rfl, fun h => Bool.noConfusion h⟩
theorem tb_k55 : mm_cf tb_P tb_TB tb_cn tb_ky tb_kb tb_hs 55 := ⟨Or.inl ⟨(tb_i10 (List.mem_of_getElem? (i := 98) rfl) rfl), rfl⟩, (tb_i1 (List.mem_of_getElem? (i := 12) rfl) rfl), tb_nh12, plainFor_of_name tb_pn12, rfl, fun h => Bool.noConfusion h⟩
theorem tb_k56 : mm_cf tb_P tb_TB tb_cn tb_ky tb_kb tb_hs 56 := ⟨Or.inl ⟨(tb_i10 (List.mem_of_getElem? (i := 95) rfl) rfl), rfl⟩, (tb_i1 (List.mem_of_getElem? (i := 12) rfl) rfl), tb_nh12, plainFor_of_name tb_pn12, rfl, fun h => Bool.noConfusion h⟩
theorem tb_k57 : mm_cf tb_P tb_TB tb_cn tb_ky tb_kb tb_hs 57 := ⟨Or.inl ⟨(tb_i10 (List.mem_of_getElem? (i := 110) rfl) rfl), rfl⟩, (tb_i1 (List.mem_of_getElem? (i := 12) rfl) rfl), tb_nh12, plainFor_of_name tb_pn12, rfl, fun h => Bool.noConfusion h⟩
theorem tb_k58 : mm_cf tb_P tb_TB tb_cn tb_ky tb_kb tb_hs 58 := ⟨Or.inl ⟨(tb_i10 (List.mem_of_getElem? (i := 106) rfl) rfl), rfl⟩, (tb_i1 (List.mem_of_getElem? (i := 12) rfl) rfl), tb_nh12, plainFor_of_name tb_pn12, rfl, fun h => Bool.noConfusion h⟩
theorem tb_k59 : mm_cf tb_P tb_TB tb_cn tb_ky tb_kb tb_hs 59 := ⟨Or.inl ⟨(tb_i10 (List.mem_of_getElem? (i := 91) rfl) rfl), rfl⟩, (tb_i1 (List.mem_of_getElem? (i := 12) rfl) rfl), tb_nh12, plainFor_of_name tb_pn12, rfl, fun h => Bool.noConfusion h⟩
theorem tb_k60 : mm_cf tb_P tb_TB tb_cn tb_ky tb_kb tb_hs 60 := ⟨Or.inl ⟨(tb_i1 (List.mem_of_getElem? (i := 31) rfl) rfl), rfl⟩, (tb_i1 (List.mem_of_getElem? (i := 1) rfl) rfl), tb_nh0, plainFor_of_name tb_pn0, rfl, fun _ => rfl⟩
theorem tb_k61 : mm_cf tb_P tb_TB tb_cn tb_ky tb_kb tb_hs 61 := ⟨Or.inl ⟨(tb_i6 (List.mem_of_getElem? (i := 43) rfl) rfl), rfl⟩, (tb_i1 (List.mem_of_getElem? (i := 1) rfl) rfl), tb_nh0, plainFor_of_name tb_pn0, rfl, fun h => Bool.noConfusion h⟩
theorem tb_k62 : mm_cf tb_P tb_TB tb_cn tb_ky tb_kb tb_hs 62 := ⟨Or.inl ⟨(tb_i2 (List.mem_of_getElem? (i := 166) rfl) rfl), rfl⟩, (tb_i1 (List.mem_of_getElem? (i := 1) rfl) rfl), tb_nh0, plainFor_of_name tb_pn0, rfl, fun h => Bool.noConfusion h⟩
theorem tb_k63 : mm_cf tb_P tb_TB tb_cn tb_ky tb_kb tb_hs 63 := ⟨Or.inl ⟨(tb_i2 (List.mem_of_getElem? (i := 170) rfl) rfl), rfl⟩, (tb_i1 (List.mem_of_getElem? (i := 1) rfl) rfl), tb_nh0, plainFor_of_name tb_pn0, rfl, fun h => Bool.noConfusion h⟩
theorem tb_k64 : mm_cf tb_P tb_TB tb_cn tb_ky tb_kb tb_hs 64 := ⟨Or.inl ⟨(tb_i4 (List.mem_of_getElem? (i := 121) rfl) rfl), rfl⟩, (tb_i1 (List.mem_of_getElem? (i := 1) rfl) rfl), tb_nh0, plainFor_of_name tb_pn0, rfl, fun h => Bool.noConfusion h⟩
theorem tb_k65 : mm_cf tb_P tb_TB tb_cn tb_ky tb_kb tb_hs 65 := ⟨Or.inl ⟨(tb_i4 (List.mem_of_getElem? (i := 125) rfl) rfl), rfl⟩, (tb_i1 (List.mem_of_getElem? (i := 1) rfl) rfl), tb_nh0, plainFor_of_name tb_pn0, rfl, fun h => Bool.noConfusion h⟩
theorem tb_k66 : mm_cf tb_P tb_TB tb_cn tb_ky tb_kb tb_hs 66 := ⟨Or.inl ⟨(tb_i6 (List.mem_of_getElem? (i := 11) rfl) rfl), rfl⟩, (tb_i1 (List.mem_of_getElem? (i := 1) rfl) rfl), tb_nh0, plainFor_of_name tb_pn0, rfl, fun h => Bool.noConfusion h⟩
theorem tb_k67 : mm_cf tb_P tb_TB tb_cn tb_ky tb_kb tb_hs 67 := ⟨Or.inl ⟨(tb_i6 (List.mem_of_getElem? (i := 61) rfl) rfl), rfl⟩, (tb_i1 (List.mem_of_getElem? (i := 1) rfl) rfl), tb_nh0, plainFor_of_name tb_pn0, rfl, fun h => Bool.noConfusion h⟩
theorem tb_k68 : mm_cf tb_P tb_TB tb_cn tb_ky tb_kb tb_hs 68 := ⟨Or.inl ⟨(tb_i6 (List.mem_of_getElem? (i := 88) rfl) rfl), rfl⟩, (tb_i1 (List.mem_of_getElem? (i := 1) rfl) rfl), tb_nh0, plainFor_of_name tb_pn0, rfl, fun h => Bool.noConfusion h⟩
theorem tb_k69 : mm_cf tb_P tb_TB tb_cn tb_ky tb_kb tb_hs 69 := ⟨Or.inl ⟨(tb_i6 (List.mem_of_getElem? (i := 104) rfl) rfl), rfl⟩, (tb_i1 (List.mem_of_getElem? (i := 1) rfl) rfl), tb_nh0, plainFor_of_name tb_pn0, rfl, fun h => Bool.noConfusion h⟩
theorem tb_k70 : mm_cf tb_P tb_TB tb_cn tb_ky tb_kb tb_hs 70 := ⟨Or.inl ⟨(tb_i6 (List.mem_of_getElem? (i := 121) rfl) rfl), rfl⟩, (tb_i1 (List.mem_of_getElem? (i := 1) rfl) rfl), tb_nh0, plainFor_of_name tb_pn0, rfl, fun h => Bool.noConfusion h⟩
theorem tb_k71 : mm_cf tb_P tb_TB tb_cn tb_ky tb_kb tb_hs 71 := ⟨Or.inl ⟨(tb_i6 (List.mem_of_getElem? (i := 142) rfl) rfl), rfl⟩, (tb_i1 (List.mem_of_getElem? (i := 1) rfl) rfl), tb_nh0, plainFor_of_name tb_pn0, rfl, fun h => Bool.noConfusion h⟩
theorem tb_k72 : mm_cf tb_P tb_TB tb_cn tb_ky tb_kb tb_hs 72 := ⟨Or.inl ⟨(tb_i6 (List.mem_of_getElem? (i := 154) rfl) rfl), rfl⟩, (tb_i1 (List.mem_of_getElem? (i := 1) rfl) rfl), tb_nh0, plainFor_of_name tb_pn0, rfl, fun h => Bool.noConfusion h⟩
theorem tb_k73 : mm_cf tb_P tb_TB tb_cn tb_ky tb_kb tb_hs 73 := ⟨Or.inl ⟨(tb_i6 (List.mem_of_getElem? (i := 175) rfl) rfl), rfl⟩, (tb_i1 (List.mem_of_getElem? (i := 1) rfl) rfl), tb_nh0, plainFor_of_name tb_pn0, rfl, fun h => Bool.noConfusion h⟩
theorem tb_k74 : mm_cf tb_P tb_TB tb_cn tb_ky tb_kb tb_hs 74 := ⟨Or.inl ⟨(tb_i6 (List.mem_of_getElem? (i := 191) rfl) rfl), rfl⟩, (tb_i1 (List.mem_of_getElem? (i := 1) rfl) rfl), tb_nh0, plainFor_of_name tb_pn0, rfl, fun h => Bool.noConfusion h⟩
theorem tb_k75 : mm_cf tb_P tb_TB tb_cn tb_ky tb_kb tb_hs 75 := ⟨Or.inl ⟨(tb_i6 (List.mem_of_getElem? (i := 203) rfl) rfl), rfl⟩, (tb_i1 (List.mem_of_getElem? (i := 1) rfl) rfl), tb_nh0, plainFor_of_name tb_pn0, rfl, fun h => Bool.noConfusion h⟩
theorem tb_k76 : mm_cf tb_P tb_TB tb_cn tb_ky tb_kb tb_hs 76 := ⟨Or.inl ⟨(tb_i7 (List.mem_of_getElem? (i := 93) rfl) rfl), rfl⟩, (tb_i1 (List.mem_of_getElem? (i := 1) rfl) rfl), tb_nh0, plainFor_of_name tb_pn0, rfl, fun h => Bool.noConfusion h⟩
theorem tb_k77 : mm_cf tb_P tb_TB tb_cn tb_ky tb_kb tb_hs 77 := ⟨Or.inl ⟨(tb_i6 (List.mem_of_getElem? (i := 15) rfl) rfl), rfl⟩, (tb_i1 (List.mem_of_getElem? (i := 1) rfl) rfl), tb_nh0, plainFor_of_name tb_pn0, rfl, fun h => Bool.noConfusion h⟩
theorem tb_k78 : mm_cf tb_P tb_TB tb_cn tb_ky tb_kb tb_hs 78 := ⟨Or.inl ⟨(tb_i7 (List.mem_of_getElem? (i := 105) rfl) rfl), rfl⟩, (tb_i1 (List.mem_of_getElem? (i := 1) rfl) rfl), tb_nh0, plainFor_of_name tb_pn0, rfl, fun h => Bool.noConfusion h⟩
theorem tb_k79 : mm_cf tb_P tb_TB tb_cn tb_ky tb_kb tb_hs 79 := ⟨Or.inl ⟨(tb_i7 (List.mem_of_getElem? (i := 126) rfl) rfl), rfl⟩, (tb_i1 (List.mem_of_getElem? (i := 1) rfl) rfl), tb_nh0, plainFor_of_name tb_pn0, rfl, fun h => Bool.noConfusion h⟩
theorem tb_k80 : mm_cf tb_P tb_TB tb_cn tb_ky tb_kb tb_hs 80 := ⟨Or.inl ⟨(tb_i6 (List.mem_of_getElem? (i := 35) rfl) rfl), rfl⟩, (tb_i1 (List.mem_of_getElem? (i := 1) rfl) rfl), tb_nh0, plainFor_of_name tb_pn0, rfl, fun h => Bool.noConfusion h⟩
theorem tb_k81 : mm_cf tb_P tb_TB tb_cn tb_ky tb_kb tb_hs 81 := ⟨Or.inl ⟨(tb_i6 (List.mem_of_getElem? (i := 124) rfl) rfl), rfl⟩, (tb_i1 (List.mem_of_getElem? (i := 1) rfl) rfl), tb_nh0, plainFor_of_name tb_pn0, rfl, fun h => Bool.noConfusion h⟩
theorem tb_k82 : mm_cf tb_P tb_TB tb_cn tb_ky tb_kb tb_hs 82 := ⟨Or.inl ⟨(tb_i6 (List.mem_of_getElem? (i := 127) rfl) rfl), rfl⟩, (tb_i1 (List.mem_of_getElem? (i := 1) rfl) rfl), tb_nh0, plainFor_of_name tb_pn0, rfl, fun h => Bool.noConfusion h⟩
theorem tb_k83 : mm_cf tb_P tb_TB tb_cn tb_ky tb_kb tb_hs 83 := ⟨Or.inl ⟨(tb_i7 (List.mem_of_getElem? (i := 108) rfl) rfl), rfl⟩, (tb_i1 (List.mem_of_getElem? (i := 1) rfl) rfl), tb_nh0, plainFor_of_name tb_pn0, rfl, fun h => Bool.noConfusion h⟩
theorem tb_k84 : mm_cf tb_P tb_TB tb_cn tb_ky tb_kb tb_hs 84 := ⟨Or.inl ⟨(tb_i7 (List.mem_of_getElem? (i := 111) rfl) rfl), rfl⟩, (tb_i1 (List.mem_of_getElem? (i := 1) rfl) rfl), tb_nh0, plainFor_of_name tb_pn0, rfl, fun h => Bool.noConfusion h⟩
theorem tb_k85 : mm_cf tb_P tb_TB tb_cn tb_ky tb_kb tb_hs 85 := ⟨Or.inl ⟨(tb_i6 (List.mem_of_getElem? (i := 46) rfl) rfl), rfl⟩, (tb_i1 (List.mem_of_getElem? (i := 1) rfl) rfl), tb_nh0, plainFor_of_name tb_pn0, rfl, fun h => Bool.noConfusion h⟩
theorem tb_k86 : mm_cf tb_P tb_TB tb_cn tb_ky tb_kb tb_hs 86 := ⟨Or.inl ⟨(tb_i6 (List.mem_of_getElem? (i := 109) rfl) rfl), rfl⟩, (tb_i1 (List.mem_of_getElem? (i := 1) rfl) rfl), tb_nh0, plainFor_of_name tb_pn0, rfl, fun h => Bool.noConfusion h⟩
theorem tb_k87 : mm_cf tb_P tb_TB tb_cn tb_ky tb_kb tb_hs 87 := ⟨Or.inl ⟨(tb_i2 (List.mem_of_getElem? (i := 174) rfl) rfl), rfl⟩, (tb_i1 (List.mem_of_getElem? (i := 1) rfl) rfl), tb_nh0, plainFor_of_name tb_pn0, rfl, fun h => Bool.noConfusion h⟩
theorem tb_k88 : mm_cf tb_P tb_TB tb_cn tb_ky tb_kb tb_hs 88 := ⟨Or.inl ⟨(tb_i1 (List.mem_of_getElem? (i := 39) rfl) rfl), rfl⟩, (tb_i1 (List.mem_of_getElem? (i := 2) rfl) rfl), tb_nh1, plainFor_of_name tb_pn1, rfl, fun _ => rfl⟩
theorem tb_k89 : mm_cf tb_P tb_TB tb_cn tb_ky tb_kb tb_hs 89 := ⟨Or.inl ⟨(tb_i6 (List.mem_of_getElem? (i := 53) rfl) rfl), rfl⟩, (tb_i1 (List.mem_of_getElem? (i := 2) rfl) rfl), tb_nh1, plainFor_of_name tb_pn1, rfl, fun h => Bool.noConfusion h⟩
theorem tb_k90 : mm_cf tb_P tb_TB tb_cn tb_ky tb_kb tb_hs 90 := ⟨Or.inl ⟨(tb_i3 (List.mem_of_getElem? (i := 16) rfl) rfl), rfl⟩, (tb_i1 (List.mem_of_getElem? (i := 2) rfl) rfl), tb_nh1, plainFor_of_name tb_pn1, rfl, fun h => Bool.noConfusion h⟩
theorem tb_k91 : mm_cf tb_P tb_TB tb_cn tb_ky tb_kb tb_hs 91 := ⟨Or.inl ⟨(tb_i3 (List.mem_of_getElem? (i := 134) rfl) rfl), rfl⟩, (tb_i1 (List.mem_of_getElem? (i := 2) rfl) rfl), tb_nh1, plainFor_of_name tb_pn1, rfl, fun h => Bool.noConfusion h⟩
theorem tb_k92 : mm_cf tb_P tb_TB tb_cn tb_ky tb_kb tb_hs 92 := ⟨Or.inl ⟨(tb_i3 (List.mem_of_getElem? (i := 142) rfl) rfl), rfl⟩, (tb_i1 (List.mem_of_getElem? (i := 2) rfl) rfl), tb_nh1, plainFor_of_name tb_pn1, rfl, fun h => Bool.noConfusion h⟩
theorem tb_k93 : mm_cf tb_P tb_TB tb_cn tb_ky tb_kb tb_hs 93 := ⟨Or.inl ⟨(tb_i3 (List.mem_of_getElem? (i := 36) rfl) rfl), rfl⟩, (tb_i1 (List.mem_of_getElem? (i := 2) rfl) rfl), tb_nh1, plainFor_of_name tb_pn1, rfl, fun h => Bool.noConfusion h⟩
theorem tb_k94 : mm_cf tb_P tb_TB tb_cn tb_ky tb_kb tb_hs 94 := ⟨Or.inl ⟨(tb_i1 (List.mem_of_getElem? (i := 82) rfl) rfl), rfl⟩, (tb_i1 (List.mem_of_getElem? (i := 3) rfl) rfl), tb_nh2, plainFor_of_name tb_pn2, rfl, fun _ => rfl⟩
theorem tb_k95 : mm_cf tb_P tb_TB tb_cn tb_ky tb_kb tb_hs 95 := ⟨Or.inr (tb_i3 (List.mem_of_getElem? (i := 7) rfl) rfl), (tb_i1 (List.mem_of_getElem? (i := 3) rfl) rfl), tb_nh2, plainFor_of_name tb_pn2, rfl, fun h => Bool.noConfusion h⟩
theorem tb_k96 : mm_cf tb_P tb_TB tb_cn tb_ky tb_kb tb_hs 96 := ⟨Or.inl ⟨(tb_i3 (List.mem_of_getElem? (i := 138) rfl) rfl), rfl⟩, (tb_i1 (List.mem_of_getElem? (i := 3) rfl) rfl), tb_nh2, plainFor_of_name tb_pn2, rfl, fun h => Bool.noConfusion h⟩
theorem tb_k97 : mm_cf tb_P tb_TB tb_cn tb_ky tb_kb tb_hs 97 := ⟨Or.inl ⟨(tb_i3 (List.mem_of_getElem? (i := 146) rfl) rfl), rfl⟩, (tb_i1 (List.mem_of_getElem? (i := 3) rfl) rfl), tb_nh2, plainFor_of_name tb_pn2, rfl, fun h => Bool.noConfusion h⟩
theorem tb_k98 : mm_cf tb_P tb_TB tb_cn tb_ky tb_kb tb_hs 98 := ⟨Or.inl ⟨(tb_i1 (List.mem_of_getElem? (i := 113) rfl) rfl), rfl⟩, (tb_i1 (List.mem_of_getElem? (i := 6) rfl) rfl), tb_nh3, plainFor_of_name tb_pn3, rfl, fun _ => rfl⟩
theorem tb_k99 : mm_cf tb_P tb_TB tb_cn tb_ky tb_kb tb_hs 99 := ⟨Or.inl ⟨(tb_i5 (List.mem_of_getElem? (i := 96) rfl) rfl), rfl⟩, (tb_i1 (List.mem_of_getElem? (i := 6) rfl) rfl), tb_nh3, plainFor_of_name tb_pn3, rfl, fun h => Bool.noConfusion h⟩
theorem tb_k100 : mm_cf tb_P tb_TB tb_cn tb_ky tb_kb tb_hs 100 := ⟨Or.inl ⟨(tb_i5 (List.mem_of_getElem? (i := 118) rfl) rfl), rfl⟩, (tb_i1 (List.mem_of_getElem? (i := 6) rfl) rfl), tb_nh3, plainFor_of_name tb_pn3, rfl, fun h => Bool.noConfusion h⟩
theorem tb_k101 : mm_cf tb_P tb_TB tb_cn tb_ky tb_kb tb_hs 101 := ⟨Or.inl ⟨(tb_i5 (List.mem_of_getElem? (i := 103) rfl) rfl), rfl⟩, (tb_i1 (List.mem_of_getElem? (i := 6) rfl) rfl), tb_nh3, plainFor_of_name tb_pn3, rfl, fun h => Bool.noConfusion h⟩
theorem tb_k102 : mm_cf tb_P tb_TB tb_cn tb_ky tb_kb tb_hs 102 := ⟨Or.inl ⟨(tb_i1 (List.mem_of_getElem? (i := 146) rfl) rfl), rfl⟩, (tb_i1 (List.mem_of_getElem? (i := 8) rfl) rfl), tb_nh4, plainFor_of_name tb_pn4, rfl, fun _ => rfl⟩
theorem tb_k103 : mm_cf tb_P tb_TB tb_cn tb_ky tb_kb tb_hs 103 := ⟨Or.inl ⟨(tb_i4 (List.mem_of_getElem? (i := 208) rfl) rfl), rfl⟩, (tb_i1 (List.mem_of_getElem? (i := 8) rfl) rfl), tb_nh4, plainFor_of_name tb_pn4, rfl, fun h => Bool.noConfusion h⟩
theorem tb_k104 : mm_cf tb_P tb_TB tb_cn tb_ky tb_kb tb_hs 104 := ⟨Or.inl ⟨(tb_i7 (List.mem_of_getElem? (i := 118) rfl) rfl), rfl⟩, (tb_i1 (List.mem_of_getElem? (i := 8) rfl) rfl), tb_nh4, plainFor_of_name tb_pn4, rfl, fun h => Bool.noConfusion h⟩
theorem tb_k105 : mm_cf tb_P tb_TB tb_cn tb_ky tb_kb tb_hs 105 := ⟨Or.inl ⟨(tb_i1 (List.mem_of_getElem? (i := 107) rfl) rfl), rfl⟩, (tb_i1 (List.mem_of_getElem? (i := 5) rfl) rfl), tb_nh5, plainFor_of_name tb_pn5, rfl, fun _ => rfl⟩
theorem tb_k106 : mm_cf tb_P tb_TB tb_cn tb_ky tb_kb tb_hs 106 := ⟨Or.inl ⟨(tb_i4 (List.mem_of_getElem? (i := 136) rfl) rfl), rfl⟩, (tb_i1 (List.mem_of_getElem? (i := 5) rfl) rfl), tb_nh5, plainFor_of_name tb_pn5, rfl, fun h => Bool.noConfusion h⟩
theorem tb_k107 : mm_cf tb_P tb_TB tb_cn tb_ky tb_kb tb_hs 107 := ⟨Or.inl ⟨(tb_i5 (List.mem_of_getElem? (i := 37) rfl) rfl), rfl⟩, (tb_i1 (List.mem_of_getElem? (i := 5) rfl) rfl), tb_nh5, plainFor_of_name tb_pn5, rfl, fun h => Bool.noConfusion h⟩
theorem tb_k108 : mm_cf tb_P tb_TB tb_cn tb_ky tb_kb tb_hs 108 := ⟨Or.inl ⟨(tb_i7 (List.mem_of_getElem? (i := 130) rfl) rfl), rfl⟩, (tb_i1 (List.mem_of_getElem? (i := 5) rfl) rfl), tb_nh5, plainFor_of_name tb_pn5, rfl, fun h => Bool.noConfusion h⟩
theorem tb_k109 : mm_cf tb_P tb_TB tb_cn tb_ky tb_kb tb_hs 109 := ⟨Or.inl ⟨(tb_i1 (List.mem_of_getElem? (i := 101) rfl) rfl), rfl⟩, (tb_i1 (List.mem_of_getElem? (i := 4) rfl) rfl), tb_nh6, plainFor_of_name tb_pn6, rfl, fun _ => rfl⟩
theorem tb_k110 : mm_cf tb_P tb_TB tb_cn tb_ky tb_kb tb_hs 110 := ⟨Or.inr (tb_i4 (List.mem_of_getElem? (i := 129) rfl) rfl), (tb_i1 (List.mem_of_getElem? (i := 4) rfl) rfl), tb_nh6, plainFor_of_name tb_pn6, rfl, fun h => Bool.noConfusion h⟩
theorem tb_k111 : mm_cf tb_P tb_TB tb_cn tb_ky tb_kb tb_hs 111 := ⟨Or.inl ⟨(tb_i5 (List.mem_of_getElem? (i := 217) rfl) rfl), rfl⟩, (tb_i1 (List.mem_of_getElem? (i := 4) rfl) rfl), tb_nh6, plainFor_of_name tb_pn6, rfl, fun h => Bool.noConfusion h⟩
theorem tb_k112 : mm_cf tb_P tb_TB tb_cn tb_ky tb_kb tb_hs 112 := ⟨Or.inl ⟨(tb_i6 (List.mem_of_getElem? (i := 81) rfl) rfl), rfl⟩, (tb_i1 (List.mem_of_getElem? (i := 4) rfl) rfl), tb_nh6, plainFor_of_name tb_pn6, rfl, fun h => Bool.noConfusion h⟩
theorem tb_k113 : mm_cf tb_P tb_TB tb_cn tb_ky tb_kb tb_hs 113 := ⟨Or.inl ⟨(tb_i2 (List.mem_of_getElem? (i := 25) rfl) rfl), rfl⟩, (tb_i1 (List.mem_of_getElem? (i := 9) rfl) rfl), tb_nh7, plainFor_of_name tb_pn7, rfl, fun _ => rfl⟩
theorem tb_k114 : mm_cf tb_P tb_TB tb_cn tb_ky tb_kb tb_hs 114 := ⟨Or.inl ⟨(tb_i5 (List.mem_of_getElem? (i := 221) rfl) rfl), rfl⟩, (tb_i1 (List.mem_of_getElem? (i := 9) rfl) rfl), tb_nh7, plainFor_of_name tb_pn7, rfl, fun h => Bool.noConfusion h⟩
theorem tb_k115 : mm_cf tb_P tb_TB tb_cn tb_ky tb_kb tb_hs 115 := ⟨Or.inl ⟨(tb_i2 (List.mem_of_getElem? (i := 58) rfl) rfl), rfl⟩, (tb_i1 (List.mem_of_getElem? (i := 10) rfl) rfl), tb_nh8, plainFor_of_name tb_pn8, rfl, fun _ => rfl⟩
theorem tb_k116 : mm_cf tb_P tb_TB tb_cn tb_ky tb_kb tb_hs 116 := ⟨Or.inl ⟨(tb_i6 (List.mem_of_getElem? (i := 134) rfl) rfl), rfl⟩, (tb_i1 (List.mem_of_getElem? (i := 10) rfl) rfl), tb_nh8, plainFor_of_name tb_pn8, rfl, fun h => Bool.noConfusion h⟩
theorem tb_k117 : mm_cf tb_P tb_TB tb_cn tb_ky tb_kb tb_hs 117 := ⟨Or.inl ⟨(tb_i6 (List.mem_of_getElem? (i := 147) rfl) rfl), rfl⟩, (tb_i1 (List.mem_of_getElem? (i := 10) rfl) rfl), tb_nh8, plainFor_of_name tb_pn8, rfl, fun h => Bool.noConfusion h⟩
theorem tb_k118 : mm_cf tb_P tb_TB tb_cn tb_ky tb_kb tb_hs 118 := ⟨Or.inl ⟨(tb_i6 (List.mem_of_getElem? (i := 162) rfl) rfl), rfl⟩, (tb_i1 (List.mem_of_getElem? (i := 10) rfl) rfl), tb_nh8, plainFor_of_name tb_pn8, rfl, fun h => Bool.noConfusion h⟩
theorem tb_k119 : mm_cf tb_P tb_TB tb_cn tb_ky tb_kb tb_hs 119 := ⟨Or.inl ⟨(tb_i6 (List.mem_of_getElem? (i := 158) rfl) rfl), rfl⟩, (tb_i1 (List.mem_of_getElem? (i := 10) rfl) rfl), tb_nh8, plainFor_of_name tb_pn8, rfl, fun h => Bool.noConfusion h⟩
theorem tb_k120 : mm_cf tb_P tb_TB tb_cn tb_ky tb_kb tb_hs 120 := ⟨Or.inl ⟨(tb_i6 (List.mem_of_getElem? (i := 180) rfl) rfl), rfl⟩, (tb_i1 (List.mem_of_getElem? (i := 10) rfl) rfl), tb_nh8, plainFor_of_name tb_pn8, rfl, fun h => Bool.noConfusion h⟩
theorem tb_k121 : mm_cf tb_P tb_TB tb_cn tb_ky tb_kb tb_hs 121 := ⟨Or.inl ⟨(tb_i6 (List.mem_of_getElem? (i := 184) rfl) rfl), rfl⟩, (tb_i1 (List.mem_of_getElem? (i := 10) rfl) rfl), tb_nh8, plainFor_of_name tb_pn8, rfl, fun h => Bool.noConfusion h⟩
theorem tb_k122 : mm_cf tb_P tb_TB tb_cn tb_ky tb_kb tb_hs 122 := ⟨Or.inl ⟨(tb_i6 (List.mem_of_getElem? (i := 167) rfl) rfl), rfl⟩, (tb_i1 (List.mem_of_getElem? (i := 10) rfl) rfl), tb_nh8, plainFor_of_name tb_pn8, rfl, fun h => Bool.noConfusion h⟩
theorem tb_k123 : mm_cf tb_P tb_TB tb_cn tb_ky tb_kb tb_hs 123 := ⟨Or.inl ⟨(tb_i6 (List.mem_of_getElem? (i := 196) rfl) rfl), rfl⟩, (tb_i1 (List.mem_of_getElem? (i := 10) rfl) rfl), tb_nh8, plainFor_of_name tb_pn8, rfl, fun h => Bool.noConfusion h⟩
theorem tb_k124 : mm_cf tb_P tb_TB tb_cn tb_ky tb_kb tb_hs 124 := ⟨Or.inl ⟨(tb_i2 (List.mem_of_getElem? (i := 77) rfl) rfl), rfl⟩, (tb_i1 (List.mem_of_getElem? (i := 11) rfl) rfl), tb_nh9, plainFor_of_name tb_pn9, rfl, fun _ => rfl⟩
theorem tb_k125 : mm_cf tb_P tb_TB tb_cn tb_ky tb_kb tb_hs 125 := ⟨Or.inl ⟨(tb_i7 (List.mem_of_getElem? (i := 98) rfl) rfl), rfl⟩, (tb_i1 (List.mem_of_getElem? (i := 11) rfl) rfl), tb_nh9, plainFor_of_name tb_pn9, rfl, fun h => Bool.noConfusion h⟩
theorem tb_k126 : mm_cf tb_P tb_TB tb_cn tb_ky tb_kb tb_hs 126 := ⟨Or.inl ⟨(tb_i6 (List.mem_of_getElem? (i := 31) rfl) rfl), rfl⟩, (tb_i1 (List.mem_of_getElem? (i := 11) rfl) rfl), tb_nh9, plainFor_of_name tb_pn9, rfl, fun h => Bool.noConfusion h⟩
theorem tb_k127 : mm_cf tb_P tb_TB tb_cn tb_ky tb_kb tb_hs 127 := ⟨Or.inl ⟨(tb_i6 (List.mem_of_getElem? (i := 19) rfl) rfl), rfl⟩, (tb_i1 (List.mem_of_getElem? (i := 11) rfl) rfl), tb_nh9, plainFor_of_name tb_pn9, rfl, fun h => Bool.noConfusion h⟩
theorem tb_k128 : mm_cf tb_P tb_TB tb_cn tb_ky tb_kb tb_hs 128 := ⟨Or.inl ⟨(tb_i2 (List.mem_of_getElem? (i := 182) rfl) rfl), rfl⟩, (tb_i1 (List.mem_of_getElem? (i := 17) rfl) rfl), tb_nh10, plainFor_of_name tb_pn10, rfl, fun _ => rfl⟩
theorem tb_k129 : mm_cf tb_P tb_TB tb_cn tb_ky tb_kb tb_hs 129 := ⟨Or.inl ⟨(tb_i3 (List.mem_of_getElem? (i := 12) rfl) rfl), rfl⟩, (tb_i1 (List.mem_of_getElem? (i := 17) rfl) rfl), tb_nh10, plainFor_of_name tb_pn10, rfl, fun h => Bool.noConfusion h⟩
theorem tb_k130 : mm_cf tb_P tb_TB tb_cn tb_ky tb_kb tb_hs 130 := ⟨Or.inl ⟨(tb_i1 (List.mem_of_getElem? (i := 140) rfl) rfl), rfl⟩, (tb_i1 (List.mem_of_getElem? (i := 7) rfl) rfl), tb_nh16, by decide +kernel, rfl, fun h => Bool.noConfusion h⟩
theorem tb_k131 : mm_cf tb_P tb_TB tb_cn tb_ky tb_kb tb_hs 131 := ⟨Or.inl ⟨(tb_i2 (List.mem_of_getElem? (i := 177) rfl) rfl), rfl⟩, (tb_i1 (List.mem_of_getElem? (i := 7) rfl) rfl), tb_nh16, by decide +kernel, rfl, fun h => Bool.noConfusion h⟩
theorem tb_k132 : mm_cf tb_P tb_TB tb_cn tb_ky tb_kb tb_hs 132 := ⟨Or.inl ⟨(tb_i5 (List.mem_of_getElem? (i := 106) rfl) rfl), rfl⟩, (tb_i1 (List.mem_of_getElem? (i := 7) rfl) rfl), tb_nh16, by decide +kernel, rfl, fun h => Bool.noConfusion h⟩
theorem tb_k133 : mm_cf tb_P tb_TB tb_cn tb_ky tb_kb tb_hs 133 := ⟨Or.inl ⟨(tb_i5 (List.mem_of_getElem? (i := 109) rfl) rfl), rfl⟩, (tb_i1 (List.mem_of_getElem? (i := 7) rfl) rfl), tb_nh16, by decide +kernel, rfl, fun h => Bool.noConfusion h⟩
theorem tb_k134 : mm_cf tb_P tb_TB tb_cn tb_ky tb_kb tb_hs 134 := ⟨Or.inl ⟨(tb_i5 (List.mem_of_getElem? (i := 114) rfl) rfl), rfl⟩, (tb_i1 (List.mem_of_getElem? (i := 7) rfl) rfl), tb_nh16, by decide +kernel, rfl, fun h => Bool.noConfusion h⟩
theorem tb_k135 : mm_cf tb_P tb_TB tb_cn tb_ky tb_kb tb_hs 135 := ⟨Or.inl ⟨(tb_i4 (List.mem_of_getElem? (i := 211) rfl) rfl), rfl⟩, (tb_i1 (List.mem_of_getElem? (i := 24) rfl) rfl), tb_nh17, by decide +kernel, rfl, fun h => Bool.noConfusion h⟩
theorem tb_y0 : (parseMethodDescriptor "()I").map (fun d => d.parameters.length + 1) = some 1 := by decide +kernel
theorem tb_y1 : (parseMethodDescriptor "()V").map (fun d => d.parameters.length + 1) = some 1 := by decide +kernel
theorem tb_y2 : (parseMethodDescriptor "()Z").map (fun d => d.parameters.length + 1) = some 1 := by decide +kernel
theorem tb_y3 : (parseMethodDescriptor "(I)I").map (fun d => d.parameters.length) = some 1 := by decide +kernel
theorem tb_y4 : (parseMethodDescriptor "(I)I").map (fun d => d.parameters.length + 1) = some 2 := by decide +kernel
theorem tb_y5 : (parseMethodDescriptor "(I)LIndexedCompiler$Tree;").map (fun d => d.parameters.length + 1) = some 2 := by decide +kernel
theorem tb_y6 : (parseMethodDescriptor "(I)V").map (fun d => d.parameters.length + 1) = some 2 := by decide +kernel
theorem tb_y7 : (parseMethodDescriptor "(I)Z").map (fun d => d.parameters.length) = some 1 := by decide +kernel
theorem tb_y8 : (parseMethodDescriptor "(I)Z").map (fun d => d.parameters.length + 1) = some 2 := by decide +kernel
theorem tb_y9 : (parseMethodDescriptor "(II)I").map (fun d => d.parameters.length) = some 2 := by decide +kernel
theorem tb_y10 : (parseMethodDescriptor "(II)I").map (fun d => d.parameters.length + 1) = some 3 := by decide +kernel
theorem tb_y11 : (parseMethodDescriptor "(II)V").map (fun d => d.parameters.length + 1) = some 3 := by decide +kernel
theorem tb_y12 : (parseMethodDescriptor "(II)Z").map (fun d => d.parameters.length) = some 2 := by decide +kernel
theorem tb_y13 : (parseMethodDescriptor "(II)Z").map (fun d => d.parameters.length + 1) = some 3 := by decide +kernel
theorem tb_y14 : (parseMethodDescriptor "(III)I").map (fun d => d.parameters.length + 1) = some 4 := by decide +kernel
theorem tb_y15 : (parseMethodDescriptor "(III)V").map (fun d => d.parameters.length + 1) = some 4 := by decide +kernel
theorem tb_y16 : (parseMethodDescriptor "(IIII)I").map (fun d => d.parameters.length + 1) = some 5 := by decide +kernel
theorem tb_y17 : (parseMethodDescriptor "(IIII)V").map (fun d => d.parameters.length + 1) = some 5 := by decide +kernel
theorem tb_y18 : (parseMethodDescriptor "(IIII)Z").map (fun d => d.parameters.length) = some 4 := by decide +kernel
theorem tb_y19 : (parseMethodDescriptor "(IIII)Z").map (fun d => d.parameters.length + 1) = some 5 := by decide +kernel
theorem tb_y20 : (parseMethodDescriptor "(IIIII)I").map (fun d => d.parameters.length + 1) = some 6 := by decide +kernel
theorem tb_y21 : (parseMethodDescriptor "(IZ)I").map (fun d => d.parameters.length + 1) = some 3 := by decide +kernel
theorem tb_y22 : (parseMethodDescriptor "(J)J").map (fun d => d.parameters.length) = some 1 := by decide +kernel
theorem tb_y23 : (parseMethodDescriptor "(J)V").map (fun d => d.parameters.length + 1) = some 2 := by decide +kernel
theorem tb_y24 : (parseMethodDescriptor "(JJ)J").map (fun d => d.parameters.length) = some 2 := by decide +kernel
theorem tb_y25 : (parseMethodDescriptor "(JJJ)Z").map (fun d => d.parameters.length) = some 3 := by decide +kernel
theorem tb_y26 : (parseMethodDescriptor "(LIndexedCompiler$Expression;)Z").map (fun d => d.parameters.length + 1) = some 2 := by decide +kernel
theorem tb_y27 : (parseMethodDescriptor "(LIndexedCompiler$Expression;I)V").map (fun d => d.parameters.length + 1) = some 3 := by decide +kernel
theorem tb_y28 : (parseMethodDescriptor "(LIndexedCompiler$Line;LIndexedCompiler$Tree;)Z").map (fun d => d.parameters.length + 1) = some 3 := by decide +kernel
theorem tb_y29 : (parseMethodDescriptor "(LIndexedCompiler;II)I").map (fun d => d.parameters.length) = some 3 := by decide +kernel
theorem tb_y30 : (parseMethodDescriptor "(LIndexedCompiler;III)I").map (fun d => d.parameters.length) = some 4 := by decide +kernel
theorem tb_y31 : (parseMethodDescriptor "(LIndexedCompiler;IIIII[J)I").map (fun d => d.parameters.length) = some 7 := by decide +kernel
theorem tb_y32 : (parseMethodDescriptor "(LIndexedCompiler;IIII[J)I").map (fun d => d.parameters.length) = some 6 := by decide +kernel
theorem tb_y33 : (parseMethodDescriptor "(LIndexedCompiler;III[J)I").map (fun d => d.parameters.length) = some 5 := by decide +kernel
theorem tb_y34 : (parseMethodDescriptor "(LIndexedCompiler;II[J)I").map (fun d => d.parameters.length) = some 4 := by decide +kernel
theorem tb_y35 : (parseMethodDescriptor "(LIndexedCompiler;I[J)I").map (fun d => d.parameters.length) = some 3 := by decide +kernel
theorem tb_y36 : (parseMethodDescriptor "([JI)Z").map (fun d => d.parameters.length + 1) = some 3 := by decide +kernel
theorem tb_y37 : (parseMethodDescriptor "([JIIIII)V").map (fun d => d.parameters.length) = some 6 := by decide +kernel
theorem tb_y38 : (parseMethodDescriptor "([JIILIndexedCompiler$Expression;)Z").map (fun d => d.parameters.length + 1) = some 5 := by decide +kernel
theorem tb_y39 : (parseMethodDescriptor "([JJ)V").map (fun d => d.parameters.length) = some 2 := by decide +kernel
theorem tb_y40 : (parseMethodDescriptor "([LIndexedCompiler$Tree;I)I").map (fun d => d.parameters.length + 1) = some 3 := by decide +kernel
theorem tb_y41 : (parseMethodDescriptor "([LIndexedCompiler$Tree;I)V").map (fun d => d.parameters.length + 1) = some 3 := by decide +kernel
set_option maxRecDepth 20000 in
theorem tb_ml_0 : mm_allL (fun q => (fun (o i : Nat) (v : Nat × Nat × Nat) => mm_mR tb_P tb_TB tb_cl tb_cn tb_ky tb_kb tb_hs o i v) 0 q.1 q.2) ((tb_ML[0]?).getD []) := ⟨mm_mr3 ⟨(tb_i1 (List.mem_of_getElem? (i := 32) rfl) rfl), (tb_i1 (List.mem_of_getElem? (i := 33) rfl) rfl), (tb_i1 (List.mem_of_getElem? (i := 34) rfl) rfl)⟩,
  mm_mr2 tb_k88 (tb_i1 (List.mem_of_getElem? (i := 37) rfl) rfl) (tb_i1 (List.mem_of_getElem? (i := 38) rfl) rfl) rfl rfl (tb_i1 (List.mem_of_getElem? (i := 39) rfl) rfl) tb_y1,
  mm_mr2 tb_k94 (tb_i1 (List.mem_of_getElem? (i := 80) rfl) rfl) (tb_i1 (List.mem_of_getElem? (i := 81) rfl) rfl) rfl rfl (tb_i1 (List.mem_of_getElem? (i := 82) rfl) rfl) tb_y1,
  mm_mr2 tb_k109 (tb_i1 (List.mem_of_getElem? (i := 99) rfl) rfl) (tb_i1 (List.mem_of_getElem? (i := 100) rfl) rfl) rfl rfl (tb_i1 (List.mem_of_getElem? (i := 101) rfl) rfl) tb_y1,
  mm_mr2 tb_k113 (tb_i2 (List.mem_of_getElem? (i := 23) rfl) rfl) (tb_i2 (List.mem_of_getElem? (i := 24) rfl) rfl) rfl rfl (tb_i2 (List.mem_of_getElem? (i := 25) rfl) rfl) tb_y1,
  mm_mr2 tb_k115 (tb_i2 (List.mem_of_getElem? (i := 56) rfl) rfl) (tb_i2 (List.mem_of_getElem? (i := 57) rfl) rfl) rfl rfl (tb_i2 (List.mem_of_getElem? (i := 58) rfl) rfl) tb_y1,
  mm_mr2 tb_k124 (tb_i2 (List.mem_of_getElem? (i := 75) rfl) rfl) (tb_i2 (List.mem_of_getElem? (i := 76) rfl) rfl) rfl rfl (tb_i2 (List.mem_of_getElem? (i := 77) rfl) rfl) tb_y1,
  mm_mr2 tb_k105 (tb_i2 (List.mem_of_getElem? (i := 123) rfl) rfl) (tb_i1 (List.mem_of_getElem? (i := 106) rfl) rfl) rfl rfl (tb_i1 (List.mem_of_getElem? (i := 107) rfl) rfl) tb_y11,
  mm_mr2 tb_k102 (tb_i2 (List.mem_of_getElem? (i := 125) rfl) rfl) (tb_i1 (List.mem_of_getElem? (i := 145) rfl) rfl) rfl rfl (tb_i1 (List.mem_of_getElem? (i := 146) rfl) rfl) tb_y1,
  mm_mr0 tb_k85 (tb_i6 (List.mem_of_getElem? (i := 44) rfl) rfl) (tb_i6 (List.mem_of_getElem? (i := 45) rfl) rfl) tb_y3,
  mm_mr1 tb_k89 (tb_i6 (List.mem_of_getElem? (i := 50) rfl) rfl) (tb_i6 (List.mem_of_getElem? (i := 51) rfl) rfl) (tb_i6 (List.mem_of_getElem? (i := 52) rfl) rfl) tb_y6 ⟨_, _, rfl⟩,
  mm_mr1 tb_k87 (tb_i2 (List.mem_of_getElem? (i := 171) rfl) rfl) (tb_i2 (List.mem_of_getElem? (i := 173) rfl) rfl) (tb_p1 (List.mem_of_getElem? (i := 0) rfl) rfl) tb_y5 ⟨_, _, rfl⟩,
  mm_mr1 tb_k95 (tb_i3 (List.mem_of_getElem? (i := 4) rfl) rfl) (tb_i3 (List.mem_of_getElem? (i := 5) rfl) rfl) (tb_i3 (List.mem_of_getElem? (i := 6) rfl) rfl) tb_y28 ⟨_, _, rfl⟩,
  mm_mr1 tb_k110 (tb_i4 (List.mem_of_getElem? (i := 126) rfl) rfl) (tb_i4 (List.mem_of_getElem? (i := 127) rfl) rfl) (tb_i4 (List.mem_of_getElem? (i := 128) rfl) rfl) tb_y40 ⟨_, _, rfl⟩,
  mm_mr1 tb_k111 (tb_i5 (List.mem_of_getElem? (i := 214) rfl) rfl) (tb_i5 (List.mem_of_getElem? (i := 215) rfl) rfl) (tb_i5 (List.mem_of_getElem? (i := 216) rfl) rfl) tb_y0 ⟨_, _, rfl⟩,
  mm_mr1 tb_k114 (tb_i5 (List.mem_of_getElem? (i := 218) rfl) rfl) (tb_i5 (List.mem_of_getElem? (i := 219) rfl) rfl) (tb_i5 (List.mem_of_getElem? (i := 220) rfl) rfl) tb_y41 ⟨_, _, rfl⟩,
  mm_mr1 tb_k112 (tb_i6 (List.mem_of_getElem? (i := 78) rfl) rfl) (tb_i6 (List.mem_of_getElem? (i := 79) rfl) rfl) (tb_i6 (List.mem_of_getElem? (i := 80) rfl) rfl) tb_y4 ⟨_, _, rfl⟩,
  mm_mr1 tb_k86 (tb_i6 (List.mem_of_getElem? (i := 106) rfl) rfl) (tb_i6 (List.mem_of_getElem? (i := 108) rfl) rfl) (tb_p6 (List.mem_of_getElem? (i := 3) rfl) rfl) tb_y8 ⟨_, _, rfl⟩,
  mm_mr0 tb_k81 (tb_i6 (List.mem_of_getElem? (i := 122) rfl) rfl) (tb_i6 (List.mem_of_getElem? (i := 123) rfl) rfl) tb_y7,
  mm_mr0 tb_k82 (tb_i6 (List.mem_of_getElem? (i := 125) rfl) rfl) (tb_i6 (List.mem_of_getElem? (i := 126) rfl) rfl) tb_y7,
  mm_mr1 tb_k116 (tb_i6 (List.mem_of_getElem? (i := 131) rfl) rfl) (tb_i6 (List.mem_of_getElem? (i := 132) rfl) rfl) (tb_i6 (List.mem_of_getElem? (i := 133) rfl) rfl) tb_y11 ⟨_, _, rfl⟩,
  mm_mr1 tb_k117 (tb_i6 (List.mem_of_getElem? (i := 144) rfl) rfl) (tb_i6 (List.mem_of_getElem? (i := 145) rfl) rfl) (tb_i6 (List.mem_of_getElem? (i := 146) rfl) rfl) tb_y11 ⟨_, _, rfl⟩,
  mm_mr1 tb_k119 (tb_i6 (List.mem_of_getElem? (i := 155) rfl) rfl) (tb_i6 (List.mem_of_getElem? (i := 156) rfl) rfl) (tb_i6 (List.mem_of_getElem? (i := 157) rfl) rfl) tb_y13 ⟨_, _, rfl⟩,
  mm_mr1 tb_k122 (tb_i6 (List.mem_of_getElem? (i := 164) rfl) rfl) (tb_i6 (List.mem_of_getElem? (i := 165) rfl) rfl) (tb_i6 (List.mem_of_getElem? (i := 166) rfl) rfl) tb_y15 ⟨_, _, rfl⟩,
  mm_mr1 tb_k120 (tb_i6 (List.mem_of_getElem? (i := 177) rfl) rfl) (tb_i6 (List.mem_of_getElem? (i := 178) rfl) rfl) (tb_i6 (List.mem_of_getElem? (i := 179) rfl) rfl) tb_y4 ⟨_, _, rfl⟩,
  mm_mr1 tb_k121 (tb_i6 (List.mem_of_getElem? (i := 181) rfl) rfl) (tb_i6 (List.mem_of_getElem? (i := 182) rfl) rfl) (tb_i6 (List.mem_of_getElem? (i := 183) rfl) rfl) tb_y10 ⟨_, _, rfl⟩,
  mm_mr1 tb_k123 (tb_i6 (List.mem_of_getElem? (i := 193) rfl) rfl) (tb_i6 (List.mem_of_getElem? (i := 194) rfl) rfl) (tb_i6 (List.mem_of_getElem? (i := 195) rfl) rfl) tb_y10 ⟨_, _, rfl⟩,
  mm_mr1 tb_k125 (tb_i7 (List.mem_of_getElem? (i := 95) rfl) rfl) (tb_i7 (List.mem_of_getElem? (i := 96) rfl) rfl) (tb_i7 (List.mem_of_getElem? (i := 97) rfl) rfl) tb_y4 ⟨_, _, rfl⟩,
  mm_mr1 tb_k127 (tb_i6 (List.mem_of_getElem? (i := 16) rfl) rfl) (tb_i6 (List.mem_of_getElem? (i := 17) rfl) rfl) (tb_i6 (List.mem_of_getElem? (i := 18) rfl) rfl) tb_y4 ⟨_, _, rfl⟩,
  mm_mr1 tb_k126 (tb_i6 (List.mem_of_getElem? (i := 28) rfl) rfl) (tb_i6 (List.mem_of_getElem? (i := 29) rfl) rfl) (tb_i6 (List.mem_of_getElem? (i := 30) rfl) rfl) tb_y4 ⟨_, _, rfl⟩,
  mm_mr0 tb_k83 (tb_i7 (List.mem_of_getElem? (i := 106) rfl) rfl) (tb_i7 (List.mem_of_getElem? (i := 107) rfl) rfl) tb_y18,
  mm_mr1 tb_k104 (tb_i7 (List.mem_of_getElem? (i := 115) rfl) rfl) (tb_i7 (List.mem_of_getElem? (i := 116) rfl) rfl) (tb_i7 (List.mem_of_getElem? (i := 117) rfl) rfl) tb_y17 ⟨_, _, rfl⟩,
  mm_mr1 tb_k107 (tb_i7 (List.mem_of_getElem? (i := 119) rfl) rfl) (tb_i5 (List.mem_of_getElem? (i := 35) rfl) rfl) (tb_i5 (List.mem_of_getElem? (i := 36) rfl) rfl) tb_y27 ⟨_, _, rfl⟩,
  mm_mr1 tb_k108 (tb_i7 (List.mem_of_getElem? (i := 127) rfl) rfl) (tb_i7 (List.mem_of_getElem? (i := 128) rfl) rfl) (tb_i7 (List.mem_of_getElem? (i := 129) rfl) rfl) tb_y26 ⟨_, _, rfl⟩,
  mm_mr0 tb_k84 (tb_i7 (List.mem_of_getElem? (i := 109) rfl) rfl) (tb_i7 (List.mem_of_getElem? (i := 110) rfl) rfl) tb_y12,
  mm_mr0 tb_k131 (tb_i2 (List.mem_of_getElem? (i := 175) rfl) rfl) (tb_i2 (List.mem_of_getElem? (i := 176) rfl) rfl) tb_y9,
  mm_mr0 tb_k130 (tb_i2 (List.mem_of_getElem? (i := 178) rfl) rfl) (tb_i1 (List.mem_of_getElem? (i := 139) rfl) rfl) tb_y9,
  mm_mr2 tb_k128 (tb_i2 (List.mem_of_getElem? (i := 180) rfl) rfl) (tb_i2 (List.mem_of_getElem? (i := 181) rfl) rfl) rfl rfl (tb_i2 (List.mem_of_getElem? (i := 182) rfl) rfl) tb_y1,
  trivial⟩
set_option maxRecDepth 20000 in
theorem tb_ml_1 : mm_allL (fun q => (fun (o i : Nat) (v : Nat × Nat × Nat) => mm_mR tb_P tb_TB tb_cl tb_cn tb_ky tb_kb tb_hs o i v) 1 q.1 q.2) ((tb_ML[1]?).getD []) := ⟨mm_mr3 ⟨(tb_i1 (List.mem_of_getElem? (i := 40) rfl) rfl), (tb_i1 (List.mem_of_getElem? (i := 33) rfl) rfl), (tb_i1 (List.mem_of_getElem? (i := 34) rfl) rfl)⟩,
  mm_mr1 tb_k93 (tb_i3 (List.mem_of_getElem? (i := 33) rfl) rfl) (tb_i3 (List.mem_of_getElem? (i := 35) rfl) rfl) (tb_p1 (List.mem_of_getElem? (i := 3) rfl) rfl) tb_y15 ⟨_, _, rfl⟩,
  mm_mr1 tb_k91 (tb_i3 (List.mem_of_getElem? (i := 131) rfl) rfl) (tb_i3 (List.mem_of_getElem? (i := 132) rfl) rfl) (tb_i3 (List.mem_of_getElem? (i := 133) rfl) rfl) tb_y1 ⟨_, _, rfl⟩,
  trivial⟩
set_option maxRecDepth 20000 in
theorem tb_ml_2 : mm_allL (fun q => (fun (o i : Nat) (v : Nat × Nat × Nat) => mm_mR tb_P tb_TB tb_cl tb_cn tb_ky tb_kb tb_hs o i v) 2 q.1 q.2) ((tb_ML[2]?).getD []) := ⟨mm_mr3 ⟨(tb_i1 (List.mem_of_getElem? (i := 83) rfl) rfl), (tb_i1 (List.mem_of_getElem? (i := 33) rfl) rfl), (tb_i1 (List.mem_of_getElem? (i := 34) rfl) rfl)⟩,
  mm_mr1 tb_k129 (tb_i3 (List.mem_of_getElem? (i := 9) rfl) rfl) (tb_i3 (List.mem_of_getElem? (i := 10) rfl) rfl) (tb_i3 (List.mem_of_getElem? (i := 11) rfl) rfl) tb_y1 ⟨_, _, rfl⟩,
  mm_mr1 tb_k90 (tb_i3 (List.mem_of_getElem? (i := 13) rfl) rfl) (tb_i3 (List.mem_of_getElem? (i := 14) rfl) rfl) (tb_i3 (List.mem_of_getElem? (i := 15) rfl) rfl) tb_y1 ⟨_, _, rfl⟩,
  mm_mr1 tb_k96 (tb_i3 (List.mem_of_getElem? (i := 135) rfl) rfl) (tb_i3 (List.mem_of_getElem? (i := 137) rfl) rfl) (tb_p1 (List.mem_of_getElem? (i := 6) rfl) rfl) tb_y6 ⟨_, _, rfl⟩,
  mm_mr1 tb_k97 (tb_i3 (List.mem_of_getElem? (i := 143) rfl) rfl) (tb_i3 (List.mem_of_getElem? (i := 145) rfl) rfl) (tb_p1 (List.mem_of_getElem? (i := 7) rfl) rfl) tb_y1 ⟨_, _, rfl⟩,
  mm_mr1 tb_k91 (tb_i3 (List.mem_of_getElem? (i := 213) rfl) rfl) (tb_i3 (List.mem_of_getElem? (i := 132) rfl) rfl) (tb_i3 (List.mem_of_getElem? (i := 133) rfl) rfl) tb_y1 ⟨_, _, rfl⟩,
  mm_mr1 tb_k92 (tb_i3 (List.mem_of_getElem? (i := 139) rfl) rfl) (tb_i3 (List.mem_of_getElem? (i := 140) rfl) rfl) (tb_i3 (List.mem_of_getElem? (i := 141) rfl) rfl) tb_y8 ⟨_, _, rfl⟩,
  trivial⟩
set_option maxRecDepth 20000 in
theorem tb_ml_3 : mm_allL (fun q => (fun (o i : Nat) (v : Nat × Nat × Nat) => mm_mR tb_P tb_TB tb_cl tb_cn tb_ky tb_kb tb_hs o i v) 3 q.1 q.2) ((tb_ML[3]?).getD []) := ⟨mm_mr3 ⟨(tb_i1 (List.mem_of_getElem? (i := 114) rfl) rfl), (tb_i1 (List.mem_of_getElem? (i := 33) rfl) rfl), (tb_i1 (List.mem_of_getElem? (i := 34) rfl) rfl)⟩,
  mm_mr0 tb_k131 (tb_i5 (List.mem_of_getElem? (i := 97) rfl) rfl) (tb_i2 (List.mem_of_getElem? (i := 176) rfl) rfl) tb_y9,
  mm_mr0 tb_k130 (tb_i5 (List.mem_of_getElem? (i := 98) rfl) rfl) (tb_i1 (List.mem_of_getElem? (i := 139) rfl) rfl) tb_y9,
  mm_mr4 ⟨(tb_i5 (List.mem_of_getElem? (i := 99) rfl) rfl), (tb_i5 (List.mem_of_getElem? (i := 14) rfl) rfl), (tb_i5 (List.mem_of_getElem? (i := 13) rfl) rfl), (tb_i1 (List.mem_of_getElem? (i := 25) rfl) rfl)⟩,
  mm_mr1 tb_k101 (tb_i5 (List.mem_of_getElem? (i := 100) rfl) rfl) (tb_i5 (List.mem_of_getElem? (i := 102) rfl) rfl) (tb_p4 (List.mem_of_getElem? (i := 7) rfl) rfl) tb_y1 ⟨_, _, rfl⟩,
  mm_mr1 tb_k100 (tb_i5 (List.mem_of_getElem? (i := 115) rfl) rfl) (tb_i5 (List.mem_of_getElem? (i := 117) rfl) rfl) (tb_p4 (List.mem_of_getElem? (i := 8) rfl) rfl) tb_y6 ⟨_, _, rfl⟩,
  mm_mr0 tb_k132 (tb_i5 (List.mem_of_getElem? (i := 104) rfl) rfl) (tb_i5 (List.mem_of_getElem? (i := 105) rfl) rfl) tb_y22,
  mm_mr0 tb_k133 (tb_i5 (List.mem_of_getElem? (i := 107) rfl) rfl) (tb_i5 (List.mem_of_getElem? (i := 108) rfl) rfl) tb_y24,
  mm_mr0 tb_k134 (tb_i5 (List.mem_of_getElem? (i := 112) rfl) rfl) (tb_i5 (List.mem_of_getElem? (i := 113) rfl) rfl) tb_y24,
  trivial⟩
set_option maxRecDepth 20000 in
theorem tb_ml_4 : mm_allL (fun q => (fun (o i : Nat) (v : Nat × Nat × Nat) => mm_mR tb_P tb_TB tb_cl tb_cn tb_ky tb_kb tb_hs o i v) 4 q.1 q.2) ((tb_ML[4]?).getD []) := ⟨mm_mr3 ⟨(tb_i1 (List.mem_of_getElem? (i := 147) rfl) rfl), (tb_i1 (List.mem_of_getElem? (i := 33) rfl) rfl), (tb_i1 (List.mem_of_getElem? (i := 34) rfl) rfl)⟩,
  mm_mr0 tb_k135 (tb_i4 (List.mem_of_getElem? (i := 209) rfl) rfl) (tb_i4 (List.mem_of_getElem? (i := 210) rfl) rfl) tb_y39,
  mm_mr1 tb_k103 (tb_i4 (List.mem_of_getElem? (i := 205) rfl) rfl) (tb_i4 (List.mem_of_getElem? (i := 206) rfl) rfl) (tb_i4 (List.mem_of_getElem? (i := 207) rfl) rfl) tb_y23 ⟨_, _, rfl⟩,
  trivial⟩
set_option maxRecDepth 20000 in
theorem tb_ml_5 : mm_allL (fun q => (fun (o i : Nat) (v : Nat × Nat × Nat) => mm_mR tb_P tb_TB tb_cl tb_cn tb_ky tb_kb tb_hs o i v) 5 q.1 q.2) ((tb_ML[5]?).getD []) := ⟨mm_mr3 ⟨(tb_i1 (List.mem_of_getElem? (i := 108) rfl) rfl), (tb_i1 (List.mem_of_getElem? (i := 33) rfl) rfl), (tb_i1 (List.mem_of_getElem? (i := 34) rfl) rfl)⟩,
  mm_mr2 tb_k98 (tb_i1 (List.mem_of_getElem? (i := 111) rfl) rfl) (tb_i1 (List.mem_of_getElem? (i := 112) rfl) rfl) rfl rfl (tb_i1 (List.mem_of_getElem? (i := 113) rfl) rfl) tb_y1,
  mm_mr0 tb_k130 (tb_i1 (List.mem_of_getElem? (i := 138) rfl) rfl) (tb_i1 (List.mem_of_getElem? (i := 139) rfl) rfl) tb_y9,
  mm_mr2 tb_k102 (tb_i1 (List.mem_of_getElem? (i := 144) rfl) rfl) (tb_i1 (List.mem_of_getElem? (i := 145) rfl) rfl) rfl rfl (tb_i1 (List.mem_of_getElem? (i := 146) rfl) rfl) tb_y1,
  mm_mr4 ⟨(tb_i5 (List.mem_of_getElem? (i := 38) rfl) rfl), (tb_i5 (List.mem_of_getElem? (i := 14) rfl) rfl), (tb_i5 (List.mem_of_getElem? (i := 13) rfl) rfl), (tb_i1 (List.mem_of_getElem? (i := 25) rfl) rfl)⟩,
  mm_mr1 tb_k99 (tb_i5 (List.mem_of_getElem? (i := 93) rfl) rfl) (tb_i5 (List.mem_of_getElem? (i := 94) rfl) rfl) (tb_i5 (List.mem_of_getElem? (i := 95) rfl) rfl) tb_y38 ⟨_, _, rfl⟩,
  trivial⟩
set_option maxRecDepth 20000 in
theorem tb_ml_6 : mm_allL (fun q => (fun (o i : Nat) (v : Nat × Nat × Nat) => mm_mR tb_P tb_TB tb_cl tb_cn tb_ky tb_kb tb_hs o i v) 6 q.1 q.2) ((tb_ML[6]?).getD []) := ⟨mm_mr3 ⟨(tb_i1 (List.mem_of_getElem? (i := 102) rfl) rfl), (tb_i1 (List.mem_of_getElem? (i := 33) rfl) rfl), (tb_i1 (List.mem_of_getElem? (i := 34) rfl) rfl)⟩,
  mm_mr2 tb_k105 (tb_i1 (List.mem_of_getElem? (i := 105) rfl) rfl) (tb_i1 (List.mem_of_getElem? (i := 106) rfl) rfl) rfl rfl (tb_i1 (List.mem_of_getElem? (i := 107) rfl) rfl) tb_y11,
  mm_mr0 tb_k130 (tb_i4 (List.mem_of_getElem? (i := 131) rfl) rfl) (tb_i1 (List.mem_of_getElem? (i := 139) rfl) rfl) tb_y9,
  mm_mr0 tb_k131 (tb_i4 (List.mem_of_getElem? (i := 132) rfl) rfl) (tb_i2 (List.mem_of_getElem? (i := 176) rfl) rfl) tb_y9,
  mm_mr1 tb_k106 (tb_i4 (List.mem_of_getElem? (i := 133) rfl) rfl) (tb_i4 (List.mem_of_getElem? (i := 134) rfl) rfl) (tb_i4 (List.mem_of_getElem? (i := 135) rfl) rfl) tb_y1 ⟨_, _, rfl⟩,
  trivial⟩
set_option maxRecDepth 20000 in
theorem tb_ml_7 : mm_allL (fun q => (fun (o i : Nat) (v : Nat × Nat × Nat) => mm_mR tb_P tb_TB tb_cl tb_cn tb_ky tb_kb tb_hs o i v) 7 q.1 q.2) ((tb_ML[7]?).getD []) := ⟨mm_mr3 ⟨(tb_i2 (List.mem_of_getElem? (i := 26) rfl) rfl), (tb_i1 (List.mem_of_getElem? (i := 33) rfl) rfl), (tb_i1 (List.mem_of_getElem? (i := 34) rfl) rfl)⟩,
  trivial⟩
set_option maxRecDepth 20000 in
theorem tb_ml_8 : mm_allL (fun q => (fun (o i : Nat) (v : Nat × Nat × Nat) => mm_mR tb_P tb_TB tb_cl tb_cn tb_ky tb_kb tb_hs o i v) 8 q.1 q.2) ((tb_ML[8]?).getD []) := ⟨mm_mr3 ⟨(tb_i2 (List.mem_of_getElem? (i := 59) rfl) rfl), (tb_i1 (List.mem_of_getElem? (i := 33) rfl) rfl), (tb_i1 (List.mem_of_getElem? (i := 34) rfl) rfl)⟩,
  mm_mr5 tb_k81 ⟨_, (tb_i6 (List.mem_of_getElem? (i := 135) rfl) rfl)⟩ (tb_i6 (List.mem_of_getElem? (i := 123) rfl) rfl) tb_y7,
  mm_mr1 tb_k118 (tb_i6 (List.mem_of_getElem? (i := 159) rfl) rfl) (tb_i6 (List.mem_of_getElem? (i := 160) rfl) rfl) (tb_i6 (List.mem_of_getElem? (i := 161) rfl) rfl) tb_y8 ⟨_, _, rfl⟩,
  mm_mr1 tb_k119 (tb_i6 (List.mem_of_getElem? (i := 168) rfl) rfl) (tb_i6 (List.mem_of_getElem? (i := 156) rfl) rfl) (tb_i6 (List.mem_of_getElem? (i := 157) rfl) rfl) tb_y13 ⟨_, _, rfl⟩,
  trivial⟩
set_option maxRecDepth 20000 in
theorem tb_ml_9 : mm_allL (fun q => (fun (o i : Nat) (v : Nat × Nat × Nat) => mm_mR tb_P tb_TB tb_cl tb_cn tb_ky tb_kb tb_hs o i v) 9 q.1 q.2) ((tb_ML[9]?).getD []) := ⟨mm_mr3 ⟨(tb_i2 (List.mem_of_getElem? (i := 78) rfl) rfl), (tb_i1 (List.mem_of_getElem? (i := 33) rfl) rfl), (tb_i1 (List.mem_of_getElem? (i := 34) rfl) rfl)⟩,
  trivial⟩
set_option maxRecDepth 20000 in
theorem tb_ml_10 : mm_allL (fun q => (fun (o i : Nat) (v : Nat × Nat × Nat) => mm_mR tb_P tb_TB tb_cl tb_cn tb_ky tb_kb tb_hs o i v) 10 q.1 q.2) ((tb_ML[10]?).getD []) := ⟨mm_mr3 ⟨(tb_i2 (List.mem_of_getElem? (i := 183) rfl) rfl), (tb_i1 (List.mem_of_getElem? (i := 33) rfl) rfl), (tb_i1 (List.mem_of_getElem? (i := 34) rfl) rfl)⟩,
  trivial⟩
set_option maxRecDepth 20000 in
theorem tb_ml_11 : mm_allL (fun q => (fun (o i : Nat) (v : Nat × Nat × Nat) => mm_mR tb_P tb_TB tb_cl tb_cn tb_ky tb_kb tb_hs o i v) 11 q.1 q.2) ((tb_ML[11]?).getD []) := trivial
set_option maxRecDepth 20000 in
theorem tb_ml_12 : mm_allL (fun q => (fun (o i : Nat) (v : Nat × Nat × Nat) => mm_mR tb_P tb_TB tb_cl tb_cn tb_ky tb_kb tb_hs o i v) 12 q.1 q.2) ((tb_ML[12]?).getD []) := ⟨mm_mr3 ⟨(tb_i7 (List.mem_of_getElem? (i := 136) rfl) rfl), (tb_i1 (List.mem_of_getElem? (i := 33) rfl) rfl), (tb_i1 (List.mem_of_getElem? (i := 34) rfl) rfl)⟩,
  mm_mr1 tb_k18 (tb_i9 (List.mem_of_getElem? (i := 101) rfl) rfl) (tb_i9 (List.mem_of_getElem? (i := 103) rfl) rfl) (tb_p7 (List.mem_of_getElem? (i := 11) rfl) rfl) tb_y11 ⟨_, _, rfl⟩,
  mm_mr1 tb_k16 (tb_i9 (List.mem_of_getElem? (i := 105) rfl) rfl) (tb_i9 (List.mem_of_getElem? (i := 107) rfl) rfl) (tb_p7 (List.mem_of_getElem? (i := 12) rfl) rfl) tb_y8 ⟨_, _, rfl⟩,
  mm_mr1 tb_k23 (tb_i9 (List.mem_of_getElem? (i := 163) rfl) rfl) (tb_i9 (List.mem_of_getElem? (i := 165) rfl) rfl) (tb_p8 (List.mem_of_getElem? (i := 5) rfl) rfl) tb_y8 ⟨_, _, rfl⟩,
  mm_mr1 tb_k22 (tb_i9 (List.mem_of_getElem? (i := 146) rfl) rfl) (tb_i9 (List.mem_of_getElem? (i := 148) rfl) rfl) (tb_p8 (List.mem_of_getElem? (i := 2) rfl) rfl) tb_y1 ⟨_, _, rfl⟩,
  mm_mr1 tb_k24 (tb_i9 (List.mem_of_getElem? (i := 142) rfl) rfl) (tb_i9 (List.mem_of_getElem? (i := 144) rfl) rfl) (tb_p8 (List.mem_of_getElem? (i := 1) rfl) rfl) tb_y8 ⟨_, _, rfl⟩,
  mm_mr1 tb_k25 (tb_i9 (List.mem_of_getElem? (i := 154) rfl) rfl) (tb_i9 (List.mem_of_getElem? (i := 156) rfl) rfl) (tb_p8 (List.mem_of_getElem? (i := 4) rfl) rfl) tb_y2 ⟨_, _, rfl⟩,
  mm_mr1 tb_k28 (tb_i9 (List.mem_of_getElem? (i := 150) rfl) rfl) (tb_i9 (List.mem_of_getElem? (i := 152) rfl) rfl) (tb_p8 (List.mem_of_getElem? (i := 3) rfl) rfl) tb_y0 ⟨_, _, rfl⟩,
  mm_mr1 tb_k26 (tb_i9 (List.mem_of_getElem? (i := 199) rfl) rfl) (tb_i9 (List.mem_of_getElem? (i := 201) rfl) rfl) (tb_p8 (List.mem_of_getElem? (i := 14) rfl) rfl) tb_y6 ⟨_, _, rfl⟩,
  mm_mr1 tb_k21 (tb_i9 (List.mem_of_getElem? (i := 121) rfl) rfl) (tb_i9 (List.mem_of_getElem? (i := 123) rfl) rfl) (tb_p7 (List.mem_of_getElem? (i := 14) rfl) rfl) tb_y1 ⟨_, _, rfl⟩,
  mm_mr1 tb_k27 (tb_i9 (List.mem_of_getElem? (i := 138) rfl) rfl) (tb_i9 (List.mem_of_getElem? (i := 140) rfl) rfl) (tb_p8 (List.mem_of_getElem? (i := 0) rfl) rfl) tb_y6 ⟨_, _, rfl⟩,
  mm_mr1 tb_k29 (tb_i9 (List.mem_of_getElem? (i := 117) rfl) rfl) (tb_i9 (List.mem_of_getElem? (i := 119) rfl) rfl) (tb_p7 (List.mem_of_getElem? (i := 13) rfl) rfl) tb_y8 ⟨_, _, rfl⟩,
  mm_mr1 tb_k32 (tb_i10 (List.mem_of_getElem? (i := 23) rfl) rfl) (tb_i10 (List.mem_of_getElem? (i := 25) rfl) rfl) (tb_p9 (List.mem_of_getElem? (i := 14) rfl) rfl) tb_y1 ⟨_, _, rfl⟩,
  mm_mr1 tb_k59 (tb_i10 (List.mem_of_getElem? (i := 88) rfl) rfl) (tb_i10 (List.mem_of_getElem? (i := 90) rfl) rfl) (tb_p10 (List.mem_of_getElem? (i := 10) rfl) rfl) tb_y36 ⟨_, _, rfl⟩,
  mm_mr0 tb_k55 (tb_i10 (List.mem_of_getElem? (i := 96) rfl) rfl) (tb_i10 (List.mem_of_getElem? (i := 97) rfl) rfl) tb_y24,
  mm_mr0 tb_k133 (tb_i10 (List.mem_of_getElem? (i := 99) rfl) rfl) (tb_i5 (List.mem_of_getElem? (i := 108) rfl) rfl) tb_y24,
  mm_mr0 tb_k134 (tb_i10 (List.mem_of_getElem? (i := 102) rfl) rfl) (tb_i5 (List.mem_of_getElem? (i := 113) rfl) rfl) tb_y24,
  mm_mr1 tb_k56 (tb_i10 (List.mem_of_getElem? (i := 92) rfl) rfl) (tb_i10 (List.mem_of_getElem? (i := 94) rfl) rfl) (tb_p10 (List.mem_of_getElem? (i := 11) rfl) rfl) tb_y2 ⟨_, _, rfl⟩,
  mm_mr1 tb_k58 (tb_i10 (List.mem_of_getElem? (i := 103) rfl) rfl) (tb_i10 (List.mem_of_getElem? (i := 105) rfl) rfl) (tb_p10 (List.mem_of_getElem? (i := 12) rfl) rfl) tb_y1 ⟨_, _, rfl⟩,
  mm_mr1 tb_k57 (tb_i10 (List.mem_of_getElem? (i := 107) rfl) rfl) (tb_i10 (List.mem_of_getElem? (i := 109) rfl) rfl) (tb_p10 (List.mem_of_getElem? (i := 13) rfl) rfl) tb_y8 ⟨_, _, rfl⟩,
  mm_mr0 tb_k17 (tb_i11 (List.mem_of_getElem? (i := 51) rfl) rfl) (tb_i11 (List.mem_of_getElem? (i := 52) rfl) rfl) tb_y25,
  mm_mr1 tb_k38 (tb_i11 (List.mem_of_getElem? (i := 62) rfl) rfl) (tb_i11 (List.mem_of_getElem? (i := 64) rfl) rfl) (tb_p13 (List.mem_of_getElem? (i := 8) rfl) rfl) tb_y8 ⟨_, _, rfl⟩,
  mm_mr0 tb_k40 (tb_i11 (List.mem_of_getElem? (i := 74) rfl) rfl) (tb_i11 (List.mem_of_getElem? (i := 75) rfl) rfl) tb_y7,
  mm_mr0 tb_k39 (tb_i11 (List.mem_of_getElem? (i := 77) rfl) rfl) (tb_i11 (List.mem_of_getElem? (i := 78) rfl) rfl) tb_y7,
  mm_mr1 tb_k43 (tb_i11 (List.mem_of_getElem? (i := 89) rfl) rfl) (tb_i11 (List.mem_of_getElem? (i := 91) rfl) rfl) (tb_p13 (List.mem_of_getElem? (i := 10) rfl) rfl) tb_y13 ⟨_, _, rfl⟩,
  mm_mr0 tb_k131 (tb_i11 (List.mem_of_getElem? (i := 165) rfl) rfl) (tb_i2 (List.mem_of_getElem? (i := 176) rfl) rfl) tb_y9,
  mm_mr0 tb_k50 (tb_i11 (List.mem_of_getElem? (i := 170) rfl) rfl) (tb_i11 (List.mem_of_getElem? (i := 171) rfl) rfl) tb_y18,
  mm_mr0 tb_k51 (tb_i11 (List.mem_of_getElem? (i := 175) rfl) rfl) (tb_i11 (List.mem_of_getElem? (i := 176) rfl) rfl) tb_y37,
  trivial⟩
set_option maxRecDepth 20000 in
theorem tb_ml_13 : mm_allL (fun q => (fun (o i : Nat) (v : Nat × Nat × Nat) => mm_mR tb_P tb_TB tb_cl tb_cn tb_ky tb_kb tb_hs o i v) 13 q.1 q.2) ((tb_ML[13]?).getD []) := trivial
set_option maxRecDepth 20000 in
theorem tb_ml_14 : mm_allL (fun q => (fun (o i : Nat) (v : Nat × Nat × Nat) => mm_mR tb_P tb_TB tb_cl tb_cn tb_ky tb_kb tb_hs o i v) 14 q.1 q.2) ((tb_ML[14]?).getD []) := trivial
set_option maxRecDepth 20000 in
theorem tb_ml_15 : mm_allL (fun q => (fun (o i : Nat) (v : Nat × Nat × Nat) => mm_mR tb_P tb_TB tb_cl tb_cn tb_ky tb_kb tb_hs o i v) 15 q.1 q.2) ((tb_ML[15]?).getD []) := ⟨mm_mr1 tb_k61 (tb_i6 (List.mem_of_getElem? (i := 40) rfl) rfl) (tb_i6 (List.mem_of_getElem? (i := 41) rfl) rfl) (tb_i6 (List.mem_of_getElem? (i := 42) rfl) rfl) tb_y20 ⟨_, _, rfl⟩,
  mm_mr1 tb_k67 (tb_i6 (List.mem_of_getElem? (i := 58) rfl) rfl) (tb_i6 (List.mem_of_getElem? (i := 59) rfl) rfl) (tb_i6 (List.mem_of_getElem? (i := 60) rfl) rfl) tb_y4 ⟨_, _, rfl⟩,
  mm_mr1 tb_k68 (tb_i6 (List.mem_of_getElem? (i := 85) rfl) rfl) (tb_i6 (List.mem_of_getElem? (i := 86) rfl) rfl) (tb_i6 (List.mem_of_getElem? (i := 87) rfl) rfl) tb_y10 ⟨_, _, rfl⟩,
  mm_mr1 tb_k69 (tb_i6 (List.mem_of_getElem? (i := 101) rfl) rfl) (tb_i6 (List.mem_of_getElem? (i := 102) rfl) rfl) (tb_i6 (List.mem_of_getElem? (i := 103) rfl) rfl) tb_y14 ⟨_, _, rfl⟩,
  mm_mr1 tb_k70 (tb_i6 (List.mem_of_getElem? (i := 118) rfl) rfl) (tb_i6 (List.mem_of_getElem? (i := 119) rfl) rfl) (tb_i6 (List.mem_of_getElem? (i := 120) rfl) rfl) tb_y11 ⟨_, _, rfl⟩,
  mm_mr1 tb_k71 (tb_i6 (List.mem_of_getElem? (i := 139) rfl) rfl) (tb_i6 (List.mem_of_getElem? (i := 140) rfl) rfl) (tb_i6 (List.mem_of_getElem? (i := 141) rfl) rfl) tb_y11 ⟨_, _, rfl⟩,
  mm_mr1 tb_k72 (tb_i6 (List.mem_of_getElem? (i := 151) rfl) rfl) (tb_i6 (List.mem_of_getElem? (i := 152) rfl) rfl) (tb_i6 (List.mem_of_getElem? (i := 153) rfl) rfl) tb_y15 ⟨_, _, rfl⟩,
  mm_mr1 tb_k73 (tb_i6 (List.mem_of_getElem? (i := 172) rfl) rfl) (tb_i6 (List.mem_of_getElem? (i := 173) rfl) rfl) (tb_i6 (List.mem_of_getElem? (i := 174) rfl) rfl) tb_y10 ⟨_, _, rfl⟩,
  mm_mr1 tb_k74 (tb_i6 (List.mem_of_getElem? (i := 188) rfl) rfl) (tb_i6 (List.mem_of_getElem? (i := 189) rfl) rfl) (tb_i6 (List.mem_of_getElem? (i := 190) rfl) rfl) tb_y10 ⟨_, _, rfl⟩,
  mm_mr1 tb_k75 (tb_i6 (List.mem_of_getElem? (i := 200) rfl) rfl) (tb_i6 (List.mem_of_getElem? (i := 201) rfl) rfl) (tb_i6 (List.mem_of_getElem? (i := 202) rfl) rfl) tb_y14 ⟨_, _, rfl⟩,
  mm_mr1 tb_k76 (tb_i7 (List.mem_of_getElem? (i := 90) rfl) rfl) (tb_i7 (List.mem_of_getElem? (i := 91) rfl) rfl) (tb_i7 (List.mem_of_getElem? (i := 92) rfl) rfl) tb_y4 ⟨_, _, rfl⟩,
  mm_mr1 tb_k78 (tb_i7 (List.mem_of_getElem? (i := 102) rfl) rfl) (tb_i7 (List.mem_of_getElem? (i := 103) rfl) rfl) (tb_i7 (List.mem_of_getElem? (i := 104) rfl) rfl) tb_y16 ⟨_, _, rfl⟩,
  mm_mr1 tb_k79 (tb_i7 (List.mem_of_getElem? (i := 123) rfl) rfl) (tb_i7 (List.mem_of_getElem? (i := 124) rfl) rfl) (tb_i7 (List.mem_of_getElem? (i := 125) rfl) rfl) tb_y19 ⟨_, _, rfl⟩,
  mm_mr2 tb_k60 (tb_i1 (List.mem_of_getElem? (i := 29) rfl) rfl) (tb_i1 (List.mem_of_getElem? (i := 30) rfl) rfl) rfl rfl (tb_i1 (List.mem_of_getElem? (i := 31) rfl) rfl) tb_y1,
  mm_mr2 tb_k14 (tb_i7 (List.mem_of_getElem? (i := 133) rfl) rfl) (tb_i7 (List.mem_of_getElem? (i := 134) rfl) rfl) rfl rfl (tb_i7 (List.mem_of_getElem? (i := 135) rfl) rfl) tb_y1,
  mm_mr0 tb_k1 (tb_i6 (List.mem_of_getElem? (i := 36) rfl) rfl) (tb_i6 (List.mem_of_getElem? (i := 37) rfl) rfl) tb_y31,
  mm_mr1 tb_k19 (tb_i9 (List.mem_of_getElem? (i := 97) rfl) rfl) (tb_i9 (List.mem_of_getElem? (i := 98) rfl) rfl) (tb_i9 (List.mem_of_getElem? (i := 99) rfl) rfl) tb_y20 ⟨_, _, rfl⟩,
  mm_mr1 tb_k15 (tb_i9 (List.mem_of_getElem? (i := 93) rfl) rfl) (tb_i9 (List.mem_of_getElem? (i := 94) rfl) rfl) (tb_i9 (List.mem_of_getElem? (i := 95) rfl) rfl) tb_y0 ⟨_, _, rfl⟩,
  mm_mr1 tb_k62 (tb_i2 (List.mem_of_getElem? (i := 163) rfl) rfl) (tb_i2 (List.mem_of_getElem? (i := 164) rfl) rfl) (tb_i2 (List.mem_of_getElem? (i := 165) rfl) rfl) tb_y0 ⟨_, _, rfl⟩,
  mm_mr1 tb_k20 (tb_i9 (List.mem_of_getElem? (i := 109) rfl) rfl) (tb_i9 (List.mem_of_getElem? (i := 110) rfl) rfl) (tb_i9 (List.mem_of_getElem? (i := 111) rfl) rfl) tb_y0 ⟨_, _, rfl⟩,
  mm_mr1 tb_k63 (tb_i2 (List.mem_of_getElem? (i := 167) rfl) rfl) (tb_i2 (List.mem_of_getElem? (i := 168) rfl) rfl) (tb_i2 (List.mem_of_getElem? (i := 169) rfl) rfl) tb_y0 ⟨_, _, rfl⟩,
  mm_mr1 tb_k30 (tb_i9 (List.mem_of_getElem? (i := 113) rfl) rfl) (tb_i9 (List.mem_of_getElem? (i := 114) rfl) rfl) (tb_i9 (List.mem_of_getElem? (i := 115) rfl) rfl) tb_y0 ⟨_, _, rfl⟩,
  mm_mr1 tb_k64 (tb_i4 (List.mem_of_getElem? (i := 118) rfl) rfl) (tb_i4 (List.mem_of_getElem? (i := 119) rfl) rfl) (tb_i4 (List.mem_of_getElem? (i := 120) rfl) rfl) tb_y0 ⟨_, _, rfl⟩,
  mm_mr1 tb_k31 (tb_i10 (List.mem_of_getElem? (i := 27) rfl) rfl) (tb_i10 (List.mem_of_getElem? (i := 28) rfl) rfl) (tb_i10 (List.mem_of_getElem? (i := 29) rfl) rfl) tb_y0 ⟨_, _, rfl⟩,
  mm_mr1 tb_k65 (tb_i4 (List.mem_of_getElem? (i := 122) rfl) rfl) (tb_i4 (List.mem_of_getElem? (i := 123) rfl) rfl) (tb_i4 (List.mem_of_getElem? (i := 124) rfl) rfl) tb_y0 ⟨_, _, rfl⟩,
  mm_mr1 tb_k34 (tb_i10 (List.mem_of_getElem? (i := 35) rfl) rfl) (tb_i10 (List.mem_of_getElem? (i := 36) rfl) rfl) (tb_i10 (List.mem_of_getElem? (i := 37) rfl) rfl) tb_y0 ⟨_, _, rfl⟩,
  mm_mr1 tb_k66 (tb_i6 (List.mem_of_getElem? (i := 8) rfl) rfl) (tb_i6 (List.mem_of_getElem? (i := 9) rfl) rfl) (tb_i6 (List.mem_of_getElem? (i := 10) rfl) rfl) tb_y0 ⟨_, _, rfl⟩,
  mm_mr1 tb_k33 (tb_i10 (List.mem_of_getElem? (i := 31) rfl) rfl) (tb_i10 (List.mem_of_getElem? (i := 32) rfl) rfl) (tb_i10 (List.mem_of_getElem? (i := 33) rfl) rfl) tb_y0 ⟨_, _, rfl⟩,
  mm_mr0 tb_k2 (tb_i6 (List.mem_of_getElem? (i := 54) rfl) rfl) (tb_i6 (List.mem_of_getElem? (i := 55) rfl) rfl) tb_y35,
  mm_mr1 tb_k35 (tb_i11 (List.mem_of_getElem? (i := 46) rfl) rfl) (tb_i11 (List.mem_of_getElem? (i := 47) rfl) rfl) (tb_i11 (List.mem_of_getElem? (i := 48) rfl) rfl) tb_y4 ⟨_, _, rfl⟩,
  mm_mr0 tb_k3 (tb_i6 (List.mem_of_getElem? (i := 82) rfl) rfl) (tb_i6 (List.mem_of_getElem? (i := 83) rfl) rfl) tb_y34,
  mm_mr1 tb_k36 (tb_i11 (List.mem_of_getElem? (i := 54) rfl) rfl) (tb_i11 (List.mem_of_getElem? (i := 55) rfl) rfl) (tb_i11 (List.mem_of_getElem? (i := 56) rfl) rfl) tb_y10 ⟨_, _, rfl⟩,
  mm_mr0 tb_k4 (tb_i6 (List.mem_of_getElem? (i := 98) rfl) rfl) (tb_i6 (List.mem_of_getElem? (i := 99) rfl) rfl) tb_y33,
  mm_mr1 tb_k37 (tb_i11 (List.mem_of_getElem? (i := 58) rfl) rfl) (tb_i11 (List.mem_of_getElem? (i := 59) rfl) rfl) (tb_i11 (List.mem_of_getElem? (i := 60) rfl) rfl) tb_y14 ⟨_, _, rfl⟩,
  mm_mr0 tb_k5 (tb_i6 (List.mem_of_getElem? (i := 115) rfl) rfl) (tb_i6 (List.mem_of_getElem? (i := 116) rfl) rfl) tb_y29,
  mm_mr1 tb_k41 (tb_i11 (List.mem_of_getElem? (i := 70) rfl) rfl) (tb_i11 (List.mem_of_getElem? (i := 71) rfl) rfl) (tb_i11 (List.mem_of_getElem? (i := 72) rfl) rfl) tb_y11 ⟨_, _, rfl⟩,
  mm_mr0 tb_k6 (tb_i6 (List.mem_of_getElem? (i := 136) rfl) rfl) (tb_i6 (List.mem_of_getElem? (i := 137) rfl) rfl) tb_y29,
  mm_mr1 tb_k42 (tb_i11 (List.mem_of_getElem? (i := 80) rfl) rfl) (tb_i11 (List.mem_of_getElem? (i := 81) rfl) rfl) (tb_i11 (List.mem_of_getElem? (i := 82) rfl) rfl) tb_y11 ⟨_, _, rfl⟩,
  mm_mr0 tb_k7 (tb_i6 (List.mem_of_getElem? (i := 148) rfl) rfl) (tb_i6 (List.mem_of_getElem? (i := 149) rfl) rfl) tb_y30,
  mm_mr1 tb_k44 (tb_i11 (List.mem_of_getElem? (i := 85) rfl) rfl) (tb_i11 (List.mem_of_getElem? (i := 86) rfl) rfl) (tb_i11 (List.mem_of_getElem? (i := 87) rfl) rfl) tb_y15 ⟨_, _, rfl⟩,
  mm_mr0 tb_k8 (tb_i6 (List.mem_of_getElem? (i := 169) rfl) rfl) (tb_i6 (List.mem_of_getElem? (i := 170) rfl) rfl) tb_y34,
  mm_mr1 tb_k45 (tb_i11 (List.mem_of_getElem? (i := 93) rfl) rfl) (tb_i11 (List.mem_of_getElem? (i := 94) rfl) rfl) (tb_i11 (List.mem_of_getElem? (i := 95) rfl) rfl) tb_y10 ⟨_, _, rfl⟩,
  mm_mr0 tb_k9 (tb_i6 (List.mem_of_getElem? (i := 185) rfl) rfl) (tb_i6 (List.mem_of_getElem? (i := 186) rfl) rfl) tb_y34,
  mm_mr1 tb_k46 (tb_i11 (List.mem_of_getElem? (i := 97) rfl) rfl) (tb_i11 (List.mem_of_getElem? (i := 98) rfl) rfl) (tb_i11 (List.mem_of_getElem? (i := 99) rfl) rfl) tb_y10 ⟨_, _, rfl⟩,
  mm_mr0 tb_k10 (tb_i6 (List.mem_of_getElem? (i := 197) rfl) rfl) (tb_i6 (List.mem_of_getElem? (i := 198) rfl) rfl) tb_y33,
  mm_mr1 tb_k47 (tb_i11 (List.mem_of_getElem? (i := 102) rfl) rfl) (tb_i11 (List.mem_of_getElem? (i := 103) rfl) rfl) (tb_i11 (List.mem_of_getElem? (i := 104) rfl) rfl) tb_y14 ⟨_, _, rfl⟩,
  mm_mr0 tb_k11 (tb_i7 (List.mem_of_getElem? (i := 87) rfl) rfl) (tb_i7 (List.mem_of_getElem? (i := 88) rfl) rfl) tb_y35,
  mm_mr1 tb_k48 (tb_i11 (List.mem_of_getElem? (i := 156) rfl) rfl) (tb_i11 (List.mem_of_getElem? (i := 157) rfl) rfl) (tb_i11 (List.mem_of_getElem? (i := 158) rfl) rfl) tb_y4 ⟨_, _, rfl⟩,
  mm_mr1 tb_k77 (tb_i6 (List.mem_of_getElem? (i := 12) rfl) rfl) (tb_i6 (List.mem_of_getElem? (i := 13) rfl) rfl) (tb_i6 (List.mem_of_getElem? (i := 14) rfl) rfl) tb_y21 ⟨_, _, rfl⟩,
  mm_mr1 tb_k49 (tb_i11 (List.mem_of_getElem? (i := 161) rfl) rfl) (tb_i11 (List.mem_of_getElem? (i := 162) rfl) rfl) (tb_i11 (List.mem_of_getElem? (i := 163) rfl) rfl) tb_y21 ⟨_, _, rfl⟩,
  mm_mr0 tb_k12 (tb_i7 (List.mem_of_getElem? (i := 99) rfl) rfl) (tb_i7 (List.mem_of_getElem? (i := 100) rfl) rfl) tb_y32,
  mm_mr1 tb_k52 (tb_i11 (List.mem_of_getElem? (i := 166) rfl) rfl) (tb_i11 (List.mem_of_getElem? (i := 167) rfl) rfl) (tb_i11 (List.mem_of_getElem? (i := 168) rfl) rfl) tb_y16 ⟨_, _, rfl⟩,
  mm_mr0 tb_k13 (tb_i7 (List.mem_of_getElem? (i := 120) rfl) rfl) (tb_i7 (List.mem_of_getElem? (i := 121) rfl) rfl) tb_y32,
  mm_mr1 tb_k53 (tb_i11 (List.mem_of_getElem? (i := 178) rfl) rfl) (tb_i11 (List.mem_of_getElem? (i := 179) rfl) rfl) (tb_i11 (List.mem_of_getElem? (i := 180) rfl) rfl) tb_y19 ⟨_, _, rfl⟩,
  mm_mr1 tb_k80 (tb_i6 (List.mem_of_getElem? (i := 32) rfl) rfl) (tb_i6 (List.mem_of_getElem? (i := 33) rfl) rfl) (tb_i6 (List.mem_of_getElem? (i := 34) rfl) rfl) tb_y0 ⟨_, _, rfl⟩,
  mm_mr1 tb_k54 (tb_i11 (List.mem_of_getElem? (i := 182) rfl) rfl) (tb_i11 (List.mem_of_getElem? (i := 183) rfl) rfl) (tb_i11 (List.mem_of_getElem? (i := 184) rfl) rfl) tb_y0 ⟨_, _, rfl⟩,
  trivial⟩
set_option maxRecDepth 20000 in
theorem tb_ml_16 : mm_allL (fun q => (fun (o i : Nat) (v : Nat × Nat × Nat) => mm_mR tb_P tb_TB tb_cl tb_cn tb_ky tb_kb tb_hs o i v) 16 q.1 q.2) ((tb_ML[16]?).getD []) := trivial
set_option maxRecDepth 20000 in
theorem tb_ml_17 : mm_allL (fun q => (fun (o i : Nat) (v : Nat × Nat × Nat) => mm_mR tb_P tb_TB tb_cl tb_cn tb_ky tb_kb tb_hs o i v) 17 q.1 q.2) ((tb_ML[17]?).getD []) := trivial
set_option maxRecDepth 20000 in
theorem tb_ml_all : mm_all2P (fun (o i : Nat) (v : Nat × Nat × Nat) => mm_mR tb_P tb_TB tb_cl tb_cn tb_ky tb_kb tb_hs o i v) 0 tb_ML := ⟨tb_ml_0, tb_ml_1, tb_ml_2, tb_ml_3, tb_ml_4, tb_ml_5, tb_ml_6, tb_ml_7, tb_ml_8, tb_ml_9, tb_ml_10, tb_ml_11, tb_ml_12, tb_ml_13, tb_ml_14, tb_ml_15, tb_ml_16, tb_ml_17, trivial⟩
def tb_names2 : List String := ["java/lang/RuntimeException", "java/lang/Exception"]
set_option maxRecDepth 20000 in
theorem tb_x0 : mm_allL (fun w => w ∈ tb_TB ∨ w = .isRef (.static Bundle.tN "UNASSIGNED_STACK" Bundle.steD) ∨ w = .isRef (.static Bundle.tN "SUPPRESSED_SENTINEL" Bundle.listD)) (Bundle.ownAtoms "IndexedCompiler" 95 "java/lang/IllegalStateException" tb_names2) := ⟨Or.inl (tb_i1 (List.mem_of_getElem? (i := 13) rfl) rfl),
  Or.inl (tb_i3 (List.mem_of_getElem? (i := 168) rfl) rfl),
  Or.inl (tb_i3 (List.mem_of_getElem? (i := 177) rfl) rfl),
  Or.inl (tb_i3 (List.mem_of_getElem? (i := 180) rfl) rfl),
  Or.inl (tb_i3 (List.mem_of_getElem? (i := 183) rfl) rfl),
  Or.inl (tb_i3 (List.mem_of_getElem? (i := 185) rfl) rfl),
  Or.inl (tb_i3 (List.mem_of_getElem? (i := 169) rfl) rfl),
  Or.inl (tb_i3 (List.mem_of_getElem? (i := 170) rfl) rfl),
  Or.inl (tb_i1 (List.mem_of_getElem? (i := 33) rfl) rfl),
  Or.inl (tb_i1 (List.mem_of_getElem? (i := 34) rfl) rfl),
  Or.inl (tb_i3 (List.mem_of_getElem? (i := 171) rfl) rfl),
  Or.inl (tb_i3 (List.mem_of_getElem? (i := 176) rfl) rfl),
  Or.inl (tb_i3 (List.mem_of_getElem? (i := 181) rfl) rfl),
  Or.inl (tb_i3 (List.mem_of_getElem? (i := 201) rfl) rfl),
  Or.inl (tb_i3 (List.mem_of_getElem? (i := 158) rfl) rfl),
  Or.inl (tb_i3 (List.mem_of_getElem? (i := 202) rfl) rfl),
  Or.inl (tb_i3 (List.mem_of_getElem? (i := 160) rfl) rfl),
  Or.inl (tb_i3 (List.mem_of_getElem? (i := 203) rfl) rfl),
  Or.inl (tb_i3 (List.mem_of_getElem? (i := 162) rfl) rfl),
  Or.inl (tb_i3 (List.mem_of_getElem? (i := 172) rfl) rfl),
  Or.inl (tb_i3 (List.mem_of_getElem? (i := 173) rfl) rfl),
  Or.inl (tb_i3 (List.mem_of_getElem? (i := 174) rfl) rfl),
  Or.inl (tb_i3 (List.mem_of_getElem? (i := 175) rfl) rfl),
  Or.inl (tb_i3 (List.mem_of_getElem? (i := 164) rfl) rfl),
  Or.inl (tb_i3 (List.mem_of_getElem? (i := 197) rfl) rfl),
  Or.inl (tb_i3 (List.mem_of_getElem? (i := 198) rfl) rfl),
  Or.inl (tb_i3 (List.mem_of_getElem? (i := 200) rfl) rfl),
  Or.inl (tb_i3 (List.mem_of_getElem? (i := 164) rfl) rfl),
  Or.inl (tb_i3 (List.mem_of_getElem? (i := 188) rfl) rfl),
  Or.inl (tb_i3 (List.mem_of_getElem? (i := 189) rfl) rfl),
  Or.inl (tb_i3 (List.mem_of_getElem? (i := 190) rfl) rfl),
  Or.inl (tb_i3 (List.mem_of_getElem? (i := 191) rfl) rfl),
  Or.inl (tb_i3 (List.mem_of_getElem? (i := 150) rfl) rfl),
  Or.inl (tb_i3 (List.mem_of_getElem? (i := 191) rfl) rfl),
  Or.inl (tb_i3 (List.mem_of_getElem? (i := 192) rfl) rfl),
  Or.inl (tb_i3 (List.mem_of_getElem? (i := 193) rfl) rfl),
  Or.inl (tb_i3 (List.mem_of_getElem? (i := 194) rfl) rfl),
  Or.inl (tb_i3 (List.mem_of_getElem? (i := 152) rfl) rfl),
  Or.inl (tb_i3 (List.mem_of_getElem? (i := 194) rfl) rfl),
  Or.inl (tb_i3 (List.mem_of_getElem? (i := 195) rfl) rfl),
  Or.inl (tb_i3 (List.mem_of_getElem? (i := 196) rfl) rfl),
  Or.inl (tb_i3 (List.mem_of_getElem? (i := 197) rfl) rfl),
  Or.inl (tb_i3 (List.mem_of_getElem? (i := 154) rfl) rfl),
  Or.inl (tb_i6 (List.mem_of_getElem? (i := 49) rfl) rfl),
  Or.inl (tb_i3 (List.mem_of_getElem? (i := 147) rfl) rfl),
  Or.inl (tb_i3 (List.mem_of_getElem? (i := 148) rfl) rfl),
  Or.inl (tb_i3 (List.mem_of_getElem? (i := 155) rfl) rfl),
  Or.inl (tb_i3 (List.mem_of_getElem? (i := 156) rfl) rfl),
  Or.inl (tb_i3 (List.mem_of_getElem? (i := 157) rfl) rfl),
  Or.inl (tb_i3 (List.mem_of_getElem? (i := 159) rfl) rfl),
  Or.inl (tb_i3 (List.mem_of_getElem? (i := 161) rfl) rfl),
  Or.inl (tb_i3 (List.mem_of_getElem? (i := 163) rfl) rfl),
  Or.inr (Or.inl rfl),
  Or.inr (Or.inr rfl),
  Or.inl (tb_i3 (List.mem_of_getElem? (i := 167) rfl) rfl),
  Or.inl (tb_i3 (List.mem_of_getElem? (i := 166) rfl) rfl),
  Or.inl (tb_i3 (List.mem_of_getElem? (i := 165) rfl) rfl), trivial⟩
set_option maxRecDepth 20000 in
theorem tb_x1 : mm_allL (fun w => w ∈ tb_TB ∨ w = .isRef (.static Bundle.tN "UNASSIGNED_STACK" Bundle.steD) ∨ w = .isRef (.static Bundle.tN "SUPPRESSED_SENTINEL" Bundle.listD)) (Bundle.ownAtoms "IndexedCompiler" 133 "java/lang/IllegalArgumentException" tb_names2) := ⟨Or.inl (tb_i1 (List.mem_of_getElem? (i := 13) rfl) rfl),
  Or.inl (tb_i3 (List.mem_of_getElem? (i := 168) rfl) rfl),
  Or.inl (tb_i3 (List.mem_of_getElem? (i := 177) rfl) rfl),
  Or.inl (tb_i3 (List.mem_of_getElem? (i := 180) rfl) rfl),
  Or.inl (tb_i3 (List.mem_of_getElem? (i := 183) rfl) rfl),
  Or.inl (tb_i3 (List.mem_of_getElem? (i := 185) rfl) rfl),
  Or.inl (tb_i3 (List.mem_of_getElem? (i := 169) rfl) rfl),
  Or.inl (tb_i3 (List.mem_of_getElem? (i := 170) rfl) rfl),
  Or.inl (tb_i1 (List.mem_of_getElem? (i := 33) rfl) rfl),
  Or.inl (tb_i1 (List.mem_of_getElem? (i := 34) rfl) rfl),
  Or.inl (tb_i3 (List.mem_of_getElem? (i := 171) rfl) rfl),
  Or.inl (tb_i3 (List.mem_of_getElem? (i := 176) rfl) rfl),
  Or.inl (tb_i3 (List.mem_of_getElem? (i := 181) rfl) rfl),
  Or.inl (tb_i3 (List.mem_of_getElem? (i := 201) rfl) rfl),
  Or.inl (tb_i3 (List.mem_of_getElem? (i := 158) rfl) rfl),
  Or.inl (tb_i3 (List.mem_of_getElem? (i := 202) rfl) rfl),
  Or.inl (tb_i3 (List.mem_of_getElem? (i := 160) rfl) rfl),
  Or.inl (tb_i3 (List.mem_of_getElem? (i := 203) rfl) rfl),
  Or.inl (tb_i3 (List.mem_of_getElem? (i := 162) rfl) rfl),
  Or.inl (tb_i3 (List.mem_of_getElem? (i := 172) rfl) rfl),
  Or.inl (tb_i3 (List.mem_of_getElem? (i := 173) rfl) rfl),
  Or.inl (tb_i3 (List.mem_of_getElem? (i := 174) rfl) rfl),
  Or.inl (tb_i3 (List.mem_of_getElem? (i := 175) rfl) rfl),
  Or.inl (tb_i3 (List.mem_of_getElem? (i := 164) rfl) rfl),
  Or.inl (tb_i3 (List.mem_of_getElem? (i := 197) rfl) rfl),
  Or.inl (tb_i3 (List.mem_of_getElem? (i := 198) rfl) rfl),
  Or.inl (tb_i3 (List.mem_of_getElem? (i := 200) rfl) rfl),
  Or.inl (tb_i3 (List.mem_of_getElem? (i := 164) rfl) rfl),
  Or.inl (tb_i6 (List.mem_of_getElem? (i := 73) rfl) rfl),
  Or.inl (tb_i6 (List.mem_of_getElem? (i := 74) rfl) rfl),
  Or.inl (tb_i6 (List.mem_of_getElem? (i := 75) rfl) rfl),
  Or.inl (tb_i3 (List.mem_of_getElem? (i := 191) rfl) rfl),
  Or.inl (tb_i3 (List.mem_of_getElem? (i := 150) rfl) rfl),
  Or.inl (tb_i3 (List.mem_of_getElem? (i := 191) rfl) rfl),
  Or.inl (tb_i3 (List.mem_of_getElem? (i := 192) rfl) rfl),
  Or.inl (tb_i3 (List.mem_of_getElem? (i := 193) rfl) rfl),
  Or.inl (tb_i3 (List.mem_of_getElem? (i := 194) rfl) rfl),
  Or.inl (tb_i3 (List.mem_of_getElem? (i := 152) rfl) rfl),
  Or.inl (tb_i3 (List.mem_of_getElem? (i := 194) rfl) rfl),
  Or.inl (tb_i3 (List.mem_of_getElem? (i := 195) rfl) rfl),
  Or.inl (tb_i3 (List.mem_of_getElem? (i := 196) rfl) rfl),
  Or.inl (tb_i3 (List.mem_of_getElem? (i := 197) rfl) rfl),
  Or.inl (tb_i3 (List.mem_of_getElem? (i := 154) rfl) rfl),
  Or.inl (tb_i6 (List.mem_of_getElem? (i := 72) rfl) rfl),
  Or.inl (tb_i6 (List.mem_of_getElem? (i := 63) rfl) rfl),
  Or.inl (tb_i6 (List.mem_of_getElem? (i := 64) rfl) rfl),
  Or.inl (tb_i6 (List.mem_of_getElem? (i := 65) rfl) rfl),
  Or.inl (tb_i3 (List.mem_of_getElem? (i := 179) rfl) rfl),
  Or.inl (tb_i6 (List.mem_of_getElem? (i := 66) rfl) rfl),
  Or.inl (tb_i6 (List.mem_of_getElem? (i := 67) rfl) rfl),
  Or.inl (tb_i6 (List.mem_of_getElem? (i := 68) rfl) rfl),
  Or.inl (tb_i6 (List.mem_of_getElem? (i := 69) rfl) rfl),
  Or.inr (Or.inl rfl),
  Or.inr (Or.inr rfl),
  Or.inl (tb_i3 (List.mem_of_getElem? (i := 167) rfl) rfl),
  Or.inl (tb_i3 (List.mem_of_getElem? (i := 166) rfl) rfl),
  Or.inl (tb_i6 (List.mem_of_getElem? (i := 70) rfl) rfl), trivial⟩
set_option maxRecDepth 20000 in
theorem tb_x2 : mm_allL (fun w => w ∈ tb_TB ∨ w = .isRef (.static Bundle.tN "UNASSIGNED_STACK" Bundle.steD) ∨ w = .isRef (.static Bundle.tN "SUPPRESSED_SENTINEL" Bundle.listD)) (Bundle.ownAtoms "IndexedCompiler$Reader" 188 "java/lang/IllegalStateException" tb_names2) := ⟨Or.inl (tb_i1 (List.mem_of_getElem? (i := 13) rfl) rfl),
  Or.inl (tb_i3 (List.mem_of_getElem? (i := 168) rfl) rfl),
  Or.inl (tb_i3 (List.mem_of_getElem? (i := 177) rfl) rfl),
  Or.inl (tb_i3 (List.mem_of_getElem? (i := 180) rfl) rfl),
  Or.inl (tb_i3 (List.mem_of_getElem? (i := 183) rfl) rfl),
  Or.inl (tb_i3 (List.mem_of_getElem? (i := 185) rfl) rfl),
  Or.inl (tb_i3 (List.mem_of_getElem? (i := 169) rfl) rfl),
  Or.inl (tb_i3 (List.mem_of_getElem? (i := 170) rfl) rfl),
  Or.inl (tb_i1 (List.mem_of_getElem? (i := 33) rfl) rfl),
  Or.inl (tb_i1 (List.mem_of_getElem? (i := 34) rfl) rfl),
  Or.inl (tb_i3 (List.mem_of_getElem? (i := 171) rfl) rfl),
  Or.inl (tb_i3 (List.mem_of_getElem? (i := 176) rfl) rfl),
  Or.inl (tb_i3 (List.mem_of_getElem? (i := 181) rfl) rfl),
  Or.inl (tb_i3 (List.mem_of_getElem? (i := 201) rfl) rfl),
  Or.inl (tb_i3 (List.mem_of_getElem? (i := 158) rfl) rfl),
  Or.inl (tb_i3 (List.mem_of_getElem? (i := 202) rfl) rfl),
  Or.inl (tb_i3 (List.mem_of_getElem? (i := 160) rfl) rfl),
  Or.inl (tb_i3 (List.mem_of_getElem? (i := 203) rfl) rfl),
  Or.inl (tb_i3 (List.mem_of_getElem? (i := 162) rfl) rfl),
  Or.inl (tb_i3 (List.mem_of_getElem? (i := 172) rfl) rfl),
  Or.inl (tb_i3 (List.mem_of_getElem? (i := 173) rfl) rfl),
  Or.inl (tb_i3 (List.mem_of_getElem? (i := 174) rfl) rfl),
  Or.inl (tb_i3 (List.mem_of_getElem? (i := 175) rfl) rfl),
  Or.inl (tb_i3 (List.mem_of_getElem? (i := 164) rfl) rfl),
  Or.inl (tb_i3 (List.mem_of_getElem? (i := 197) rfl) rfl),
  Or.inl (tb_i3 (List.mem_of_getElem? (i := 198) rfl) rfl),
  Or.inl (tb_i3 (List.mem_of_getElem? (i := 200) rfl) rfl),
  Or.inl (tb_i3 (List.mem_of_getElem? (i := 164) rfl) rfl),
  Or.inl (tb_i3 (List.mem_of_getElem? (i := 188) rfl) rfl),
  Or.inl (tb_i3 (List.mem_of_getElem? (i := 189) rfl) rfl),
  Or.inl (tb_i3 (List.mem_of_getElem? (i := 190) rfl) rfl),
  Or.inl (tb_i3 (List.mem_of_getElem? (i := 191) rfl) rfl),
  Or.inl (tb_i3 (List.mem_of_getElem? (i := 150) rfl) rfl),
  Or.inl (tb_i3 (List.mem_of_getElem? (i := 191) rfl) rfl),
  Or.inl (tb_i3 (List.mem_of_getElem? (i := 192) rfl) rfl),
  Or.inl (tb_i3 (List.mem_of_getElem? (i := 193) rfl) rfl),
  Or.inl (tb_i3 (List.mem_of_getElem? (i := 194) rfl) rfl),
  Or.inl (tb_i3 (List.mem_of_getElem? (i := 152) rfl) rfl),
  Or.inl (tb_i3 (List.mem_of_getElem? (i := 194) rfl) rfl),
  Or.inl (tb_i3 (List.mem_of_getElem? (i := 195) rfl) rfl),
  Or.inl (tb_i3 (List.mem_of_getElem? (i := 196) rfl) rfl),
  Or.inl (tb_i3 (List.mem_of_getElem? (i := 197) rfl) rfl),
  Or.inl (tb_i3 (List.mem_of_getElem? (i := 154) rfl) rfl),
  Or.inl (tb_i3 (List.mem_of_getElem? (i := 187) rfl) rfl),
  Or.inl (tb_i3 (List.mem_of_getElem? (i := 147) rfl) rfl),
  Or.inl (tb_i3 (List.mem_of_getElem? (i := 148) rfl) rfl),
  Or.inl (tb_i3 (List.mem_of_getElem? (i := 155) rfl) rfl),
  Or.inl (tb_i3 (List.mem_of_getElem? (i := 156) rfl) rfl),
  Or.inl (tb_i3 (List.mem_of_getElem? (i := 157) rfl) rfl),
  Or.inl (tb_i3 (List.mem_of_getElem? (i := 159) rfl) rfl),
  Or.inl (tb_i3 (List.mem_of_getElem? (i := 161) rfl) rfl),
  Or.inl (tb_i3 (List.mem_of_getElem? (i := 163) rfl) rfl),
  Or.inr (Or.inl rfl),
  Or.inr (Or.inr rfl),
  Or.inl (tb_i3 (List.mem_of_getElem? (i := 167) rfl) rfl),
  Or.inl (tb_i3 (List.mem_of_getElem? (i := 166) rfl) rfl),
  Or.inl (tb_i3 (List.mem_of_getElem? (i := 165) rfl) rfl), trivial⟩
theorem tb_fit : Bundle.fit "java/lang/IllegalStateException" = true ∧ Bundle.fit "java/lang/IllegalArgumentException" = true ∧ ∀ n ∈ tb_names2, Bundle.fit n = true := ⟨by decide +kernel, by decide +kernel, by decide +kernel⟩
set_option maxRecDepth 20000 in
theorem tb_xt_0 : mm_allL (fun q => mm_xR tb_P tb_TB tb_SB tb_cl tb_cn tb_kb tb_hs tb_X 0 q.1 q.2) ((tb_XT[0]?).getD []) := trivial
set_option maxRecDepth 20000 in
theorem tb_xt_1 : mm_allL (fun q => mm_xR tb_P tb_TB tb_SB tb_cl tb_cn tb_kb tb_hs tb_X 1 q.1 q.2) ((tb_XT[1]?).getD []) := trivial
set_option maxRecDepth 20000 in
theorem tb_xt_2 : mm_allL (fun q => mm_xR tb_P tb_TB tb_SB tb_cl tb_cn tb_kb tb_hs tb_X 2 q.1 q.2) ((tb_XT[2]?).getD []) := trivial
set_option maxRecDepth 20000 in
theorem tb_xt_3 : mm_allL (fun q => mm_xR tb_P tb_TB tb_SB tb_cl tb_cn tb_kb tb_hs tb_X 3 q.1 q.2) ((tb_XT[3]?).getD []) := trivial
set_option maxRecDepth 20000 in
theorem tb_xt_4 : mm_allL (fun q => mm_xR tb_P tb_TB tb_SB tb_cl tb_cn tb_kb tb_hs tb_X 4 q.1 q.2) ((tb_XT[4]?).getD []) := trivial
set_option maxRecDepth 20000 in
theorem tb_xt_5 : mm_allL (fun q => mm_xR tb_P tb_TB tb_SB tb_cl tb_cn tb_kb tb_hs tb_X 5 q.1 q.2) ((tb_XT[5]?).getD []) := trivial
set_option maxRecDepth 20000 in
theorem tb_xt_6 : mm_allL (fun q => mm_xR tb_P tb_TB tb_SB tb_cl tb_cn tb_kb tb_hs tb_X 6 q.1 q.2) ((tb_XT[6]?).getD []) := trivial
set_option maxRecDepth 20000 in
theorem tb_xt_7 : mm_allL (fun q => mm_xR tb_P tb_TB tb_SB tb_cl tb_cn tb_kb tb_hs tb_X 7 q.1 q.2) ((tb_XT[7]?).getD []) := trivial
set_option maxRecDepth 20000 in
theorem tb_xt_8 : mm_allL (fun q => mm_xR tb_P tb_TB tb_SB tb_cl tb_cn tb_kb tb_hs tb_X 8 q.1 q.2) ((tb_XT[8]?).getD []) := trivial
set_option maxRecDepth 20000 in
theorem tb_xt_9 : mm_allL (fun q => mm_xR tb_P tb_TB tb_SB tb_cl tb_cn tb_kb tb_hs tb_X 9 q.1 q.2) ((tb_XT[9]?).getD []) := trivial
set_option maxRecDepth 20000 in
theorem tb_xt_10 : mm_allL (fun q => mm_xR tb_P tb_TB tb_SB tb_cl tb_cn tb_kb tb_hs tb_X 10 q.1 q.2) ((tb_XT[10]?).getD []) := trivial
set_option maxRecDepth 20000 in
theorem tb_xt_11 : mm_allL (fun q => mm_xR tb_P tb_TB tb_SB tb_cl tb_cn tb_kb tb_hs tb_X 11 q.1 q.2) ((tb_XT[11]?).getD []) := trivial
set_option maxRecDepth 20000 in
theorem tb_xt_12 : mm_allL (fun q => mm_xR tb_P tb_TB tb_SB tb_cl tb_cn tb_kb tb_hs tb_X 12 q.1 q.2) ((tb_XT[12]?).getD []) := trivial
set_option maxRecDepth 20000 in
theorem tb_xt_13 : mm_allL (fun q => mm_xR tb_P tb_TB tb_SB tb_cl tb_cn tb_kb tb_hs tb_X 13 q.1 q.2) ((tb_XT[13]?).getD []) := trivial
set_option maxRecDepth 20000 in
theorem tb_xt_14 : mm_allL (fun q => mm_xR tb_P tb_TB tb_SB tb_cl tb_cn tb_kb tb_hs tb_X 14 q.1 q.2) ((tb_XT[14]?).getD []) := trivial
set_option maxRecDepth 20000 in
theorem tb_xt_15 : mm_allL (fun q => mm_xR tb_P tb_TB tb_SB tb_cl tb_cn tb_kb tb_hs tb_X 15 q.1 q.2) ((tb_XT[15]?).getD []) := trivial
set_option maxRecDepth 20000 in
theorem tb_xt_16 : mm_allL (fun q => mm_xR tb_P tb_TB tb_SB tb_cl tb_cn tb_kb tb_hs tb_X 16 q.1 q.2) ((tb_XT[16]?).getD []) := trivial
set_option maxRecDepth 20000 in
theorem tb_xt_17 : mm_allL (fun q => mm_xR tb_P tb_TB tb_SB tb_cl tb_cn tb_kb tb_hs tb_X 17 q.1 q.2) ((tb_XT[17]?).getD []) := trivial
set_option maxRecDepth 20000 in
theorem tb_xt_18 : mm_allL (fun q => mm_xR tb_P tb_TB tb_SB tb_cl tb_cn tb_kb tb_hs tb_X 18 q.1 q.2) ((tb_XT[18]?).getD []) := trivial
set_option maxRecDepth 20000 in
theorem tb_xt_19 : mm_allL (fun q => mm_xR tb_P tb_TB tb_SB tb_cl tb_cn tb_kb tb_hs tb_X 19 q.1 q.2) ((tb_XT[19]?).getD []) := trivial
set_option maxRecDepth 20000 in
theorem tb_xt_20 : mm_allL (fun q => mm_xR tb_P tb_TB tb_SB tb_cl tb_cn tb_kb tb_hs tb_X 20 q.1 q.2) ((tb_XT[20]?).getD []) := trivial
set_option maxRecDepth 20000 in
theorem tb_xt_21 : mm_allL (fun q => mm_xR tb_P tb_TB tb_SB tb_cl tb_cn tb_kb tb_hs tb_X 21 q.1 q.2) ((tb_XT[21]?).getD []) := trivial
set_option maxRecDepth 20000 in
theorem tb_xt_22 : mm_allL (fun q => mm_xR tb_P tb_TB tb_SB tb_cl tb_cn tb_kb tb_hs tb_X 22 q.1 q.2) ((tb_XT[22]?).getD []) := trivial
set_option maxRecDepth 20000 in
theorem tb_xt_23 : mm_allL (fun q => mm_xR tb_P tb_TB tb_SB tb_cl tb_cn tb_kb tb_hs tb_X 23 q.1 q.2) ((tb_XT[23]?).getD []) := trivial
set_option maxRecDepth 20000 in
theorem tb_xt_24 : mm_allL (fun q => mm_xR tb_P tb_TB tb_SB tb_cl tb_cn tb_kb tb_hs tb_X 24 q.1 q.2) ((tb_XT[24]?).getD []) := trivial
set_option maxRecDepth 20000 in
theorem tb_xt_25 : mm_allL (fun q => mm_xR tb_P tb_TB tb_SB tb_cl tb_cn tb_kb tb_hs tb_X 25 q.1 q.2) ((tb_XT[25]?).getD []) := trivial
set_option maxRecDepth 20000 in
theorem tb_xt_26 : mm_allL (fun q => mm_xR tb_P tb_TB tb_SB tb_cl tb_cn tb_kb tb_hs tb_X 26 q.1 q.2) ((tb_XT[26]?).getD []) := trivial
set_option maxRecDepth 20000 in
theorem tb_xt_27 : mm_allL (fun q => mm_xR tb_P tb_TB tb_SB tb_cl tb_cn tb_kb tb_hs tb_X 27 q.1 q.2) ((tb_XT[27]?).getD []) := trivial
set_option maxRecDepth 20000 in
theorem tb_xt_28 : mm_allL (fun q => mm_xR tb_P tb_TB tb_SB tb_cl tb_cn tb_kb tb_hs tb_X 28 q.1 q.2) ((tb_XT[28]?).getD []) := trivial
set_option maxRecDepth 20000 in
theorem tb_xt_29 : mm_allL (fun q => mm_xR tb_P tb_TB tb_SB tb_cl tb_cn tb_kb tb_hs tb_X 29 q.1 q.2) ((tb_XT[29]?).getD []) := trivial
set_option maxRecDepth 20000 in
theorem tb_xt_30 : mm_allL (fun q => mm_xR tb_P tb_TB tb_SB tb_cl tb_cn tb_kb tb_hs tb_X 30 q.1 q.2) ((tb_XT[30]?).getD []) := trivial
set_option maxRecDepth 20000 in
theorem tb_xt_31 : mm_allL (fun q => mm_xR tb_P tb_TB tb_SB tb_cl tb_cn tb_kb tb_hs tb_X 31 q.1 q.2) ((tb_XT[31]?).getD []) := trivial
set_option maxRecDepth 20000 in
theorem tb_xt_32 : mm_allL (fun q => mm_xR tb_P tb_TB tb_SB tb_cl tb_cn tb_kb tb_hs tb_X 32 q.1 q.2) ((tb_XT[32]?).getD []) := trivial
set_option maxRecDepth 20000 in
theorem tb_xt_33 : mm_allL (fun q => mm_xR tb_P tb_TB tb_SB tb_cl tb_cn tb_kb tb_hs tb_X 33 q.1 q.2) ((tb_XT[33]?).getD []) := trivial
set_option maxRecDepth 20000 in
theorem tb_xt_34 : mm_allL (fun q => mm_xR tb_P tb_TB tb_SB tb_cl tb_cn tb_kb tb_hs tb_X 34 q.1 q.2) ((tb_XT[34]?).getD []) := trivial
set_option maxRecDepth 20000 in
theorem tb_xt_35 : mm_allL (fun q => mm_xR tb_P tb_TB tb_SB tb_cl tb_cn tb_kb tb_hs tb_X 35 q.1 q.2) ((tb_XT[35]?).getD []) := trivial
set_option maxRecDepth 20000 in
theorem tb_xt_36 : mm_allL (fun q => mm_xR tb_P tb_TB tb_SB tb_cl tb_cn tb_kb tb_hs tb_X 36 q.1 q.2) ((tb_XT[36]?).getD []) := trivial
set_option maxRecDepth 20000 in
theorem tb_xt_37 : mm_allL (fun q => mm_xR tb_P tb_TB tb_SB tb_cl tb_cn tb_kb tb_hs tb_X 37 q.1 q.2) ((tb_XT[37]?).getD []) := trivial
set_option maxRecDepth 20000 in
theorem tb_xt_38 : mm_allL (fun q => mm_xR tb_P tb_TB tb_SB tb_cl tb_cn tb_kb tb_hs tb_X 38 q.1 q.2) ((tb_XT[38]?).getD []) := trivial
set_option maxRecDepth 20000 in
theorem tb_xt_39 : mm_allL (fun q => mm_xR tb_P tb_TB tb_SB tb_cl tb_cn tb_kb tb_hs tb_X 39 q.1 q.2) ((tb_XT[39]?).getD []) := trivial
set_option maxRecDepth 20000 in
theorem tb_xt_40 : mm_allL (fun q => mm_xR tb_P tb_TB tb_SB tb_cl tb_cn tb_kb tb_hs tb_X 40 q.1 q.2) ((tb_XT[40]?).getD []) := trivial
set_option maxRecDepth 20000 in
theorem tb_xt_41 : mm_allL (fun q => mm_xR tb_P tb_TB tb_SB tb_cl tb_cn tb_kb tb_hs tb_X 41 q.1 q.2) ((tb_XT[41]?).getD []) := trivial
set_option maxRecDepth 20000 in
theorem tb_xt_42 : mm_allL (fun q => mm_xR tb_P tb_TB tb_SB tb_cl tb_cn tb_kb tb_hs tb_X 42 q.1 q.2) ((tb_XT[42]?).getD []) := trivial
set_option maxRecDepth 20000 in
theorem tb_xt_43 : mm_allL (fun q => mm_xR tb_P tb_TB tb_SB tb_cl tb_cn tb_kb tb_hs tb_X 43 q.1 q.2) ((tb_XT[43]?).getD []) := trivial
set_option maxRecDepth 20000 in
theorem tb_xt_44 : mm_allL (fun q => mm_xR tb_P tb_TB tb_SB tb_cl tb_cn tb_kb tb_hs tb_X 44 q.1 q.2) ((tb_XT[44]?).getD []) := trivial
set_option maxRecDepth 20000 in
theorem tb_xt_45 : mm_allL (fun q => mm_xR tb_P tb_TB tb_SB tb_cl tb_cn tb_kb tb_hs tb_X 45 q.1 q.2) ((tb_XT[45]?).getD []) := trivial
set_option maxRecDepth 20000 in
theorem tb_xt_46 : mm_allL (fun q => mm_xR tb_P tb_TB tb_SB tb_cl tb_cn tb_kb tb_hs tb_X 46 q.1 q.2) ((tb_XT[46]?).getD []) := trivial
set_option maxRecDepth 20000 in
theorem tb_xt_47 : mm_allL (fun q => mm_xR tb_P tb_TB tb_SB tb_cl tb_cn tb_kb tb_hs tb_X 47 q.1 q.2) ((tb_XT[47]?).getD []) := trivial
set_option maxRecDepth 20000 in
theorem tb_xt_48 : mm_allL (fun q => mm_xR tb_P tb_TB tb_SB tb_cl tb_cn tb_kb tb_hs tb_X 48 q.1 q.2) ((tb_XT[48]?).getD []) := trivial
set_option maxRecDepth 20000 in
theorem tb_xt_49 : mm_allL (fun q => mm_xR tb_P tb_TB tb_SB tb_cl tb_cn tb_kb tb_hs tb_X 49 q.1 q.2) ((tb_XT[49]?).getD []) := trivial
set_option maxRecDepth 20000 in
theorem tb_xt_50 : mm_allL (fun q => mm_xR tb_P tb_TB tb_SB tb_cl tb_cn tb_kb tb_hs tb_X 50 q.1 q.2) ((tb_XT[50]?).getD []) := trivial
set_option maxRecDepth 20000 in
theorem tb_xt_51 : mm_allL (fun q => mm_xR tb_P tb_TB tb_SB tb_cl tb_cn tb_kb tb_hs tb_X 51 q.1 q.2) ((tb_XT[51]?).getD []) := trivial
set_option maxRecDepth 20000 in
theorem tb_xt_52 : mm_allL (fun q => mm_xR tb_P tb_TB tb_SB tb_cl tb_cn tb_kb tb_hs tb_X 52 q.1 q.2) ((tb_XT[52]?).getD []) := trivial
set_option maxRecDepth 20000 in
theorem tb_xt_53 : mm_allL (fun q => mm_xR tb_P tb_TB tb_SB tb_cl tb_cn tb_kb tb_hs tb_X 53 q.1 q.2) ((tb_XT[53]?).getD []) := trivial
set_option maxRecDepth 20000 in
theorem tb_xt_54 : mm_allL (fun q => mm_xR tb_P tb_TB tb_SB tb_cl tb_cn tb_kb tb_hs tb_X 54 q.1 q.2) ((tb_XT[54]?).getD []) := trivial
set_option maxRecDepth 20000 in
theorem tb_xt_55 : mm_allL (fun q => mm_xR tb_P tb_TB tb_SB tb_cl tb_cn tb_kb tb_hs tb_X 55 q.1 q.2) ((tb_XT[55]?).getD []) := trivial
set_option maxRecDepth 20000 in
theorem tb_xt_56 : mm_allL (fun q => mm_xR tb_P tb_TB tb_SB tb_cl tb_cn tb_kb tb_hs tb_X 56 q.1 q.2) ((tb_XT[56]?).getD []) := trivial
set_option maxRecDepth 20000 in
theorem tb_xt_57 : mm_allL (fun q => mm_xR tb_P tb_TB tb_SB tb_cl tb_cn tb_kb tb_hs tb_X 57 q.1 q.2) ((tb_XT[57]?).getD []) := trivial
set_option maxRecDepth 20000 in
theorem tb_xt_58 : mm_allL (fun q => mm_xR tb_P tb_TB tb_SB tb_cl tb_cn tb_kb tb_hs tb_X 58 q.1 q.2) ((tb_XT[58]?).getD []) := trivial
set_option maxRecDepth 20000 in
theorem tb_xt_59 : mm_allL (fun q => mm_xR tb_P tb_TB tb_SB tb_cl tb_cn tb_kb tb_hs tb_X 59 q.1 q.2) ((tb_XT[59]?).getD []) := trivial
set_option maxRecDepth 20000 in
theorem tb_xt_60 : mm_allL (fun q => mm_xR tb_P tb_TB tb_SB tb_cl tb_cn tb_kb tb_hs tb_X 60 q.1 q.2) ((tb_XT[60]?).getD []) := trivial
set_option maxRecDepth 20000 in
theorem tb_xt_61 : mm_allL (fun q => mm_xR tb_P tb_TB tb_SB tb_cl tb_cn tb_kb tb_hs tb_X 61 q.1 q.2) ((tb_XT[61]?).getD []) := ⟨⟨Or.inl rfl, by decide, "java/lang/IllegalStateException", tb_TX, 91, 93, 95, "the line would be too long", tb_names2, rfl, by decide +kernel, by decide +kernel, by decide +kernel, by decide +kernel, by decide +kernel, (tb_i6 (List.mem_of_getElem? (i := 47) rfl) rfl), (tb_i3 (List.mem_of_getElem? (i := 147) rfl) rfl), (tb_i1 (List.mem_of_getElem? (i := 16) rfl) rfl), List.mem_of_getElem? (i := 0) rfl, tb_fit.1, tb_fit.2.2, rfl, mm_allL_mem tb_x0⟩, trivial⟩
set_option maxRecDepth 20000 in
theorem tb_xt_62 : mm_allL (fun q => mm_xR tb_P tb_TB tb_SB tb_cl tb_cn tb_kb tb_hs tb_X 62 q.1 q.2) ((tb_XT[62]?).getD []) := trivial
set_option maxRecDepth 20000 in
theorem tb_xt_63 : mm_allL (fun q => mm_xR tb_P tb_TB tb_SB tb_cl tb_cn tb_kb tb_hs tb_X 63 q.1 q.2) ((tb_XT[63]?).getD []) := trivial
set_option maxRecDepth 20000 in
theorem tb_xt_64 : mm_allL (fun q => mm_xR tb_P tb_TB tb_SB tb_cl tb_cn tb_kb tb_hs tb_X 64 q.1 q.2) ((tb_XT[64]?).getD []) := trivial
set_option maxRecDepth 20000 in
theorem tb_xt_65 : mm_allL (fun q => mm_xR tb_P tb_TB tb_SB tb_cl tb_cn tb_kb tb_hs tb_X 65 q.1 q.2) ((tb_XT[65]?).getD []) := trivial
set_option maxRecDepth 20000 in
theorem tb_xt_66 : mm_allL (fun q => mm_xR tb_P tb_TB tb_SB tb_cl tb_cn tb_kb tb_hs tb_X 66 q.1 q.2) ((tb_XT[66]?).getD []) := trivial
set_option maxRecDepth 20000 in
theorem tb_xt_67 : mm_allL (fun q => mm_xR tb_P tb_TB tb_SB tb_cl tb_cn tb_kb tb_hs tb_X 67 q.1 q.2) ((tb_XT[67]?).getD []) := ⟨⟨Or.inr rfl, by decide, "java/lang/IllegalArgumentException", tb_TX, 129, 131, 133, "what is 0 to 5", tb_names2, rfl, by decide +kernel, by decide +kernel, by decide +kernel, by decide +kernel, by decide +kernel, (tb_i6 (List.mem_of_getElem? (i := 62) rfl) rfl), (tb_i6 (List.mem_of_getElem? (i := 63) rfl) rfl), (tb_i1 (List.mem_of_getElem? (i := 26) rfl) rfl), List.mem_of_getElem? (i := 1) rfl, tb_fit.2.1, tb_fit.2.2, rfl, mm_allL_mem tb_x1⟩, trivial⟩
set_option maxRecDepth 20000 in
theorem tb_xt_68 : mm_allL (fun q => mm_xR tb_P tb_TB tb_SB tb_cl tb_cn tb_kb tb_hs tb_X 68 q.1 q.2) ((tb_XT[68]?).getD []) := ⟨⟨Or.inr rfl, by decide, "java/lang/IllegalArgumentException", tb_TX, 129, 131, 133, "what is 0 to 5", tb_names2, rfl, by decide +kernel, by decide +kernel, by decide +kernel, by decide +kernel, by decide +kernel, (tb_i6 (List.mem_of_getElem? (i := 62) rfl) rfl), (tb_i6 (List.mem_of_getElem? (i := 63) rfl) rfl), (tb_i1 (List.mem_of_getElem? (i := 26) rfl) rfl), List.mem_of_getElem? (i := 1) rfl, tb_fit.2.1, tb_fit.2.2, rfl, mm_allL_mem tb_x1⟩,
  ⟨Or.inl rfl, by decide, "java/lang/IllegalStateException", tb_TX, 91, 137, 95, "no such goal", tb_names2, rfl, by decide +kernel, by decide +kernel, by decide +kernel, by decide +kernel, by decide +kernel, (tb_i6 (List.mem_of_getElem? (i := 47) rfl) rfl), (tb_i3 (List.mem_of_getElem? (i := 147) rfl) rfl), (tb_i1 (List.mem_of_getElem? (i := 16) rfl) rfl), List.mem_of_getElem? (i := 2) rfl, tb_fit.1, tb_fit.2.2, rfl, mm_allL_mem tb_x0⟩, trivial⟩
set_option maxRecDepth 20000 in
theorem tb_xt_69 : mm_allL (fun q => mm_xR tb_P tb_TB tb_SB tb_cl tb_cn tb_kb tb_hs tb_X 69 q.1 q.2) ((tb_XT[69]?).getD []) := ⟨⟨Or.inr rfl, by decide, "java/lang/IllegalArgumentException", tb_TX, 129, 143, 133, "how is 0 or 1, k not below 0", tb_names2, rfl, by decide +kernel, by decide +kernel, by decide +kernel, by decide +kernel, by decide +kernel, (tb_i6 (List.mem_of_getElem? (i := 62) rfl) rfl), (tb_i6 (List.mem_of_getElem? (i := 63) rfl) rfl), (tb_i1 (List.mem_of_getElem? (i := 26) rfl) rfl), List.mem_of_getElem? (i := 3) rfl, tb_fit.2.1, tb_fit.2.2, rfl, mm_allL_mem tb_x1⟩,
  ⟨Or.inl rfl, by decide, "java/lang/IllegalStateException", tb_TX, 91, 149, 95, "not accepted, or no such function", tb_names2, rfl, by decide +kernel, by decide +kernel, by decide +kernel, by decide +kernel, by decide +kernel, (tb_i6 (List.mem_of_getElem? (i := 47) rfl) rfl), (tb_i3 (List.mem_of_getElem? (i := 147) rfl) rfl), (tb_i1 (List.mem_of_getElem? (i := 16) rfl) rfl), List.mem_of_getElem? (i := 4) rfl, tb_fit.1, tb_fit.2.2, rfl, mm_allL_mem tb_x0⟩, trivial⟩
set_option maxRecDepth 20000 in
theorem tb_xt_70 : mm_allL (fun q => mm_xR tb_P tb_TB tb_SB tb_cl tb_cn tb_kb tb_hs tb_X 70 q.1 q.2) ((tb_XT[70]?).getD []) := ⟨⟨Or.inr rfl, by decide, "java/lang/IllegalArgumentException", tb_TX, 129, 161, 133, "no such slot, or no such number", tb_names2, rfl, by decide +kernel, by decide +kernel, by decide +kernel, by decide +kernel, by decide +kernel, (tb_i6 (List.mem_of_getElem? (i := 62) rfl) rfl), (tb_i6 (List.mem_of_getElem? (i := 63) rfl) rfl), (tb_i1 (List.mem_of_getElem? (i := 26) rfl) rfl), List.mem_of_getElem? (i := 5) rfl, tb_fit.2.1, tb_fit.2.2, rfl, mm_allL_mem tb_x1⟩, trivial⟩
set_option maxRecDepth 20000 in
theorem tb_xt_71 : mm_allL (fun q => mm_xR tb_P tb_TB tb_SB tb_cl tb_cn tb_kb tb_hs tb_X 71 q.1 q.2) ((tb_XT[71]?).getD []) := ⟨⟨Or.inr rfl, by decide, "java/lang/IllegalArgumentException", tb_TX, 129, 166, 133, "no such slot, or no such length", tb_names2, rfl, by decide +kernel, by decide +kernel, by decide +kernel, by decide +kernel, by decide +kernel, (tb_i6 (List.mem_of_getElem? (i := 62) rfl) rfl), (tb_i6 (List.mem_of_getElem? (i := 63) rfl) rfl), (tb_i1 (List.mem_of_getElem? (i := 26) rfl) rfl), List.mem_of_getElem? (i := 6) rfl, tb_fit.2.1, tb_fit.2.2, rfl, mm_allL_mem tb_x1⟩, trivial⟩
set_option maxRecDepth 20000 in
theorem tb_xt_72 : mm_allL (fun q => mm_xR tb_P tb_TB tb_SB tb_cl tb_cn tb_kb tb_hs tb_X 72 q.1 q.2) ((tb_XT[72]?).getD []) := ⟨⟨Or.inr rfl, by decide, "java/lang/IllegalArgumentException", tb_TX, 129, 161, 133, "no such slot, or no such number", tb_names2, rfl, by decide +kernel, by decide +kernel, by decide +kernel, by decide +kernel, by decide +kernel, (tb_i6 (List.mem_of_getElem? (i := 62) rfl) rfl), (tb_i6 (List.mem_of_getElem? (i := 63) rfl) rfl), (tb_i1 (List.mem_of_getElem? (i := 26) rfl) rfl), List.mem_of_getElem? (i := 5) rfl, tb_fit.2.1, tb_fit.2.2, rfl, mm_allL_mem tb_x1⟩,
  ⟨Or.inl rfl, by decide, "java/lang/IllegalStateException", tb_TX, 91, 175, 95, "no such number in the slot", tb_names2, rfl, by decide +kernel, by decide +kernel, by decide +kernel, by decide +kernel, by decide +kernel, (tb_i6 (List.mem_of_getElem? (i := 47) rfl) rfl), (tb_i3 (List.mem_of_getElem? (i := 147) rfl) rfl), (tb_i1 (List.mem_of_getElem? (i := 16) rfl) rfl), List.mem_of_getElem? (i := 7) rfl, tb_fit.1, tb_fit.2.2, rfl, mm_allL_mem tb_x0⟩, trivial⟩
set_option maxRecDepth 20000 in
theorem tb_xt_73 : mm_allL (fun q => mm_xR tb_P tb_TB tb_SB tb_cl tb_cn tb_kb tb_hs tb_X 73 q.1 q.2) ((tb_XT[73]?).getD []) := ⟨⟨Or.inr rfl, by decide, "java/lang/IllegalArgumentException", tb_TX, 129, 181, 133, "no such slot", tb_names2, rfl, by decide +kernel, by decide +kernel, by decide +kernel, by decide +kernel, by decide +kernel, (tb_i6 (List.mem_of_getElem? (i := 62) rfl) rfl), (tb_i6 (List.mem_of_getElem? (i := 63) rfl) rfl), (tb_i1 (List.mem_of_getElem? (i := 26) rfl) rfl), List.mem_of_getElem? (i := 8) rfl, tb_fit.2.1, tb_fit.2.2, rfl, mm_allL_mem tb_x1⟩,
  ⟨Or.inl rfl, by decide, "java/lang/IllegalStateException", tb_TX, 91, 175, 95, "no such number in the slot", tb_names2, rfl, by decide +kernel, by decide +kernel, by decide +kernel, by decide +kernel, by decide +kernel, (tb_i6 (List.mem_of_getElem? (i := 47) rfl) rfl), (tb_i3 (List.mem_of_getElem? (i := 147) rfl) rfl), (tb_i1 (List.mem_of_getElem? (i := 16) rfl) rfl), List.mem_of_getElem? (i := 7) rfl, tb_fit.1, tb_fit.2.2, rfl, mm_allL_mem tb_x0⟩, trivial⟩
set_option maxRecDepth 20000 in
theorem tb_xt_74 : mm_allL (fun q => mm_xR tb_P tb_TB tb_SB tb_cl tb_cn tb_kb tb_hs tb_X 74 q.1 q.2) ((tb_XT[74]?).getD []) := ⟨⟨Or.inr rfl, by decide, "java/lang/IllegalArgumentException", tb_TX, 129, 189, 133, "no such value, or no such number", tb_names2, rfl, by decide +kernel, by decide +kernel, by decide +kernel, by decide +kernel, by decide +kernel, (tb_i6 (List.mem_of_getElem? (i := 62) rfl) rfl), (tb_i6 (List.mem_of_getElem? (i := 63) rfl) rfl), (tb_i1 (List.mem_of_getElem? (i := 26) rfl) rfl), List.mem_of_getElem? (i := 9) rfl, tb_fit.2.1, tb_fit.2.2, rfl, mm_allL_mem tb_x1⟩, trivial⟩
set_option maxRecDepth 20000 in
theorem tb_xt_75 : mm_allL (fun q => mm_xR tb_P tb_TB tb_SB tb_cl tb_cn tb_kb tb_hs tb_X 75 q.1 q.2) ((tb_XT[75]?).getD []) := ⟨⟨Or.inr rfl, by decide, "java/lang/IllegalArgumentException", tb_TX, 129, 194, 133, "how is 0 or 1, steps 1 to 20000", tb_names2, rfl, by decide +kernel, by decide +kernel, by decide +kernel, by decide +kernel, by decide +kernel, (tb_i6 (List.mem_of_getElem? (i := 62) rfl) rfl), (tb_i6 (List.mem_of_getElem? (i := 63) rfl) rfl), (tb_i1 (List.mem_of_getElem? (i := 26) rfl) rfl), List.mem_of_getElem? (i := 10) rfl, tb_fit.2.1, tb_fit.2.2, rfl, mm_allL_mem tb_x1⟩,
  ⟨Or.inl rfl, by decide, "java/lang/IllegalStateException", tb_TX, 91, 149, 95, "not accepted, or no such function", tb_names2, rfl, by decide +kernel, by decide +kernel, by decide +kernel, by decide +kernel, by decide +kernel, (tb_i6 (List.mem_of_getElem? (i := 47) rfl) rfl), (tb_i3 (List.mem_of_getElem? (i := 147) rfl) rfl), (tb_i1 (List.mem_of_getElem? (i := 16) rfl) rfl), List.mem_of_getElem? (i := 4) rfl, tb_fit.1, tb_fit.2.2, rfl, mm_allL_mem tb_x0⟩, trivial⟩
set_option maxRecDepth 20000 in
theorem tb_xt_76 : mm_allL (fun q => mm_xR tb_P tb_TB tb_SB tb_cl tb_cn tb_kb tb_hs tb_X 76 q.1 q.2) ((tb_XT[76]?).getD []) := ⟨⟨Or.inr rfl, by decide, "java/lang/IllegalArgumentException", tb_TX, 129, 204, 133, "what is 0 to 7", tb_names2, rfl, by decide +kernel, by decide +kernel, by decide +kernel, by decide +kernel, by decide +kernel, (tb_i6 (List.mem_of_getElem? (i := 62) rfl) rfl), (tb_i6 (List.mem_of_getElem? (i := 63) rfl) rfl), (tb_i1 (List.mem_of_getElem? (i := 26) rfl) rfl), List.mem_of_getElem? (i := 11) rfl, tb_fit.2.1, tb_fit.2.2, rfl, mm_allL_mem tb_x1⟩, trivial⟩
set_option maxRecDepth 20000 in
theorem tb_xt_77 : mm_allL (fun q => mm_xR tb_P tb_TB tb_SB tb_cl tb_cn tb_kb tb_hs tb_X 77 q.1 q.2) ((tb_XT[77]?).getD []) := trivial
set_option maxRecDepth 20000 in
theorem tb_xt_78 : mm_allL (fun q => mm_xR tb_P tb_TB tb_SB tb_cl tb_cn tb_kb tb_hs tb_X 78 q.1 q.2) ((tb_XT[78]?).getD []) := ⟨⟨Or.inr rfl, by decide, "java/lang/IllegalArgumentException", tb_TX, 129, 219, 133, "a number is too great or too small", tb_names2, rfl, by decide +kernel, by decide +kernel, by decide +kernel, by decide +kernel, by decide +kernel, (tb_i6 (List.mem_of_getElem? (i := 62) rfl) rfl), (tb_i6 (List.mem_of_getElem? (i := 63) rfl) rfl), (tb_i1 (List.mem_of_getElem? (i := 26) rfl) rfl), List.mem_of_getElem? (i := 12) rfl, tb_fit.2.1, tb_fit.2.2, rfl, mm_allL_mem tb_x1⟩,
  ⟨Or.inl rfl, by decide, "java/lang/IllegalStateException", tb_TX, 91, 224, 95, "the desk is full", tb_names2, rfl, by decide +kernel, by decide +kernel, by decide +kernel, by decide +kernel, by decide +kernel, (tb_i6 (List.mem_of_getElem? (i := 47) rfl) rfl), (tb_i3 (List.mem_of_getElem? (i := 147) rfl) rfl), (tb_i1 (List.mem_of_getElem? (i := 16) rfl) rfl), List.mem_of_getElem? (i := 13) rfl, tb_fit.1, tb_fit.2.2, rfl, mm_allL_mem tb_x0⟩, trivial⟩
set_option maxRecDepth 20000 in
theorem tb_xt_79 : mm_allL (fun q => mm_xR tb_P tb_TB tb_SB tb_cl tb_cn tb_kb tb_hs tb_X 79 q.1 q.2) ((tb_XT[79]?).getD []) := ⟨⟨Or.inr rfl, by decide, "java/lang/IllegalArgumentException", tb_TX, 129, 219, 133, "a number is too great or too small", tb_names2, rfl, by decide +kernel, by decide +kernel, by decide +kernel, by decide +kernel, by decide +kernel, (tb_i6 (List.mem_of_getElem? (i := 62) rfl) rfl), (tb_i6 (List.mem_of_getElem? (i := 63) rfl) rfl), (tb_i1 (List.mem_of_getElem? (i := 26) rfl) rfl), List.mem_of_getElem? (i := 12) rfl, tb_fit.2.1, tb_fit.2.2, rfl, mm_allL_mem tb_x1⟩, trivial⟩
set_option maxRecDepth 20000 in
theorem tb_xt_80 : mm_allL (fun q => mm_xR tb_P tb_TB tb_SB tb_cl tb_cn tb_kb tb_hs tb_X 80 q.1 q.2) ((tb_XT[80]?).getD []) := trivial
set_option maxRecDepth 20000 in
theorem tb_xt_81 : mm_allL (fun q => mm_xR tb_P tb_TB tb_SB tb_cl tb_cn tb_kb tb_hs tb_X 81 q.1 q.2) ((tb_XT[81]?).getD []) := trivial
set_option maxRecDepth 20000 in
theorem tb_xt_82 : mm_allL (fun q => mm_xR tb_P tb_TB tb_SB tb_cl tb_cn tb_kb tb_hs tb_X 82 q.1 q.2) ((tb_XT[82]?).getD []) := trivial
set_option maxRecDepth 20000 in
theorem tb_xt_83 : mm_allL (fun q => mm_xR tb_P tb_TB tb_SB tb_cl tb_cn tb_kb tb_hs tb_X 83 q.1 q.2) ((tb_XT[83]?).getD []) := trivial
set_option maxRecDepth 20000 in
theorem tb_xt_84 : mm_allL (fun q => mm_xR tb_P tb_TB tb_SB tb_cl tb_cn tb_kb tb_hs tb_X 84 q.1 q.2) ((tb_XT[84]?).getD []) := trivial
set_option maxRecDepth 20000 in
theorem tb_xt_85 : mm_allL (fun q => mm_xR tb_P tb_TB tb_SB tb_cl tb_cn tb_kb tb_hs tb_X 85 q.1 q.2) ((tb_XT[85]?).getD []) := trivial
set_option maxRecDepth 20000 in
theorem tb_xt_86 : mm_allL (fun q => mm_xR tb_P tb_TB tb_SB tb_cl tb_cn tb_kb tb_hs tb_X 86 q.1 q.2) ((tb_XT[86]?).getD []) := trivial
set_option maxRecDepth 20000 in
theorem tb_xt_87 : mm_allL (fun q => mm_xR tb_P tb_TB tb_SB tb_cl tb_cn tb_kb tb_hs tb_X 87 q.1 q.2) ((tb_XT[87]?).getD []) := trivial
set_option maxRecDepth 20000 in
theorem tb_xt_88 : mm_allL (fun q => mm_xR tb_P tb_TB tb_SB tb_cl tb_cn tb_kb tb_hs tb_X 88 q.1 q.2) ((tb_XT[88]?).getD []) := trivial
set_option maxRecDepth 20000 in
theorem tb_xt_89 : mm_allL (fun q => mm_xR tb_P tb_TB tb_SB tb_cl tb_cn tb_kb tb_hs tb_X 89 q.1 q.2) ((tb_XT[89]?).getD []) := trivial
set_option maxRecDepth 20000 in
theorem tb_xt_90 : mm_allL (fun q => mm_xR tb_P tb_TB tb_SB tb_cl tb_cn tb_kb tb_hs tb_X 90 q.1 q.2) ((tb_XT[90]?).getD []) := trivial
set_option maxRecDepth 20000 in
theorem tb_xt_91 : mm_allL (fun q => mm_xR tb_P tb_TB tb_SB tb_cl tb_cn tb_kb tb_hs tb_X 91 q.1 q.2) ((tb_XT[91]?).getD []) := trivial
set_option maxRecDepth 20000 in
theorem tb_xt_92 : mm_allL (fun q => mm_xR tb_P tb_TB tb_SB tb_cl tb_cn tb_kb tb_hs tb_X 92 q.1 q.2) ((tb_XT[92]?).getD []) := trivial
set_option maxRecDepth 20000 in
theorem tb_xt_93 : mm_allL (fun q => mm_xR tb_P tb_TB tb_SB tb_cl tb_cn tb_kb tb_hs tb_X 93 q.1 q.2) ((tb_XT[93]?).getD []) := trivial
set_option maxRecDepth 20000 in
theorem tb_xt_94 : mm_allL (fun q => mm_xR tb_P tb_TB tb_SB tb_cl tb_cn tb_kb tb_hs tb_X 94 q.1 q.2) ((tb_XT[94]?).getD []) := trivial
set_option maxRecDepth 20000 in
theorem tb_xt_95 : mm_allL (fun q => mm_xR tb_P tb_TB tb_SB tb_cl tb_cn tb_kb tb_hs tb_X 95 q.1 q.2) ((tb_XT[95]?).getD []) := trivial
set_option maxRecDepth 20000 in
theorem tb_xt_96 : mm_allL (fun q => mm_xR tb_P tb_TB tb_SB tb_cl tb_cn tb_kb tb_hs tb_X 96 q.1 q.2) ((tb_XT[96]?).getD []) := trivial
set_option maxRecDepth 20000 in
theorem tb_xt_97 : mm_allL (fun q => mm_xR tb_P tb_TB tb_SB tb_cl tb_cn tb_kb tb_hs tb_X 97 q.1 q.2) ((tb_XT[97]?).getD []) := ⟨⟨Or.inl rfl, by decide, "java/lang/IllegalStateException", tb_TX, 82, 186, 188, "the line cannot go on so", tb_names2, rfl, by decide +kernel, by decide +kernel, by decide +kernel, by decide +kernel, by decide +kernel, (tb_i3 (List.mem_of_getElem? (i := 8) rfl) rfl), (tb_i3 (List.mem_of_getElem? (i := 147) rfl) rfl), (tb_i1 (List.mem_of_getElem? (i := 16) rfl) rfl), List.mem_of_getElem? (i := 14) rfl, tb_fit.1, tb_fit.2.2, rfl, mm_allL_mem tb_x2⟩, trivial⟩
set_option maxRecDepth 20000 in
theorem tb_xt_98 : mm_allL (fun q => mm_xR tb_P tb_TB tb_SB tb_cl tb_cn tb_kb tb_hs tb_X 98 q.1 q.2) ((tb_XT[98]?).getD []) := trivial
set_option maxRecDepth 20000 in
theorem tb_xt_99 : mm_allL (fun q => mm_xR tb_P tb_TB tb_SB tb_cl tb_cn tb_kb tb_hs tb_X 99 q.1 q.2) ((tb_XT[99]?).getD []) := trivial
set_option maxRecDepth 20000 in
theorem tb_xt_100 : mm_allL (fun q => mm_xR tb_P tb_TB tb_SB tb_cl tb_cn tb_kb tb_hs tb_X 100 q.1 q.2) ((tb_XT[100]?).getD []) := trivial
set_option maxRecDepth 20000 in
theorem tb_xt_101 : mm_allL (fun q => mm_xR tb_P tb_TB tb_SB tb_cl tb_cn tb_kb tb_hs tb_X 101 q.1 q.2) ((tb_XT[101]?).getD []) := trivial
set_option maxRecDepth 20000 in
theorem tb_xt_102 : mm_allL (fun q => mm_xR tb_P tb_TB tb_SB tb_cl tb_cn tb_kb tb_hs tb_X 102 q.1 q.2) ((tb_XT[102]?).getD []) := trivial
set_option maxRecDepth 20000 in
theorem tb_xt_103 : mm_allL (fun q => mm_xR tb_P tb_TB tb_SB tb_cl tb_cn tb_kb tb_hs tb_X 103 q.1 q.2) ((tb_XT[103]?).getD []) := trivial
set_option maxRecDepth 20000 in
theorem tb_xt_104 : mm_allL (fun q => mm_xR tb_P tb_TB tb_SB tb_cl tb_cn tb_kb tb_hs tb_X 104 q.1 q.2) ((tb_XT[104]?).getD []) := trivial
set_option maxRecDepth 20000 in
theorem tb_xt_105 : mm_allL (fun q => mm_xR tb_P tb_TB tb_SB tb_cl tb_cn tb_kb tb_hs tb_X 105 q.1 q.2) ((tb_XT[105]?).getD []) := trivial
set_option maxRecDepth 20000 in
theorem tb_xt_106 : mm_allL (fun q => mm_xR tb_P tb_TB tb_SB tb_cl tb_cn tb_kb tb_hs tb_X 106 q.1 q.2) ((tb_XT[106]?).getD []) := trivial
set_option maxRecDepth 20000 in
theorem tb_xt_107 : mm_allL (fun q => mm_xR tb_P tb_TB tb_SB tb_cl tb_cn tb_kb tb_hs tb_X 107 q.1 q.2) ((tb_XT[107]?).getD []) := trivial
set_option maxRecDepth 20000 in
theorem tb_xt_108 : mm_allL (fun q => mm_xR tb_P tb_TB tb_SB tb_cl tb_cn tb_kb tb_hs tb_X 108 q.1 q.2) ((tb_XT[108]?).getD []) := trivial
set_option maxRecDepth 20000 in
theorem tb_xt_109 : mm_allL (fun q => mm_xR tb_P tb_TB tb_SB tb_cl tb_cn tb_kb tb_hs tb_X 109 q.1 q.2) ((tb_XT[109]?).getD []) := trivial
set_option maxRecDepth 20000 in
theorem tb_xt_110 : mm_allL (fun q => mm_xR tb_P tb_TB tb_SB tb_cl tb_cn tb_kb tb_hs tb_X 110 q.1 q.2) ((tb_XT[110]?).getD []) := trivial
set_option maxRecDepth 20000 in
theorem tb_xt_111 : mm_allL (fun q => mm_xR tb_P tb_TB tb_SB tb_cl tb_cn tb_kb tb_hs tb_X 111 q.1 q.2) ((tb_XT[111]?).getD []) := trivial
set_option maxRecDepth 20000 in
theorem tb_xt_112 : mm_allL (fun q => mm_xR tb_P tb_TB tb_SB tb_cl tb_cn tb_kb tb_hs tb_X 112 q.1 q.2) ((tb_XT[112]?).getD []) := trivial
set_option maxRecDepth 20000 in
theorem tb_xt_113 : mm_allL (fun q => mm_xR tb_P tb_TB tb_SB tb_cl tb_cn tb_kb tb_hs tb_X 113 q.1 q.2) ((tb_XT[113]?).getD []) := trivial
set_option maxRecDepth 20000 in
theorem tb_xt_114 : mm_allL (fun q => mm_xR tb_P tb_TB tb_SB tb_cl tb_cn tb_kb tb_hs tb_X 114 q.1 q.2) ((tb_XT[114]?).getD []) := trivial
set_option maxRecDepth 20000 in
theorem tb_xt_115 : mm_allL (fun q => mm_xR tb_P tb_TB tb_SB tb_cl tb_cn tb_kb tb_hs tb_X 115 q.1 q.2) ((tb_XT[115]?).getD []) := trivial
set_option maxRecDepth 20000 in
theorem tb_xt_116 : mm_allL (fun q => mm_xR tb_P tb_TB tb_SB tb_cl tb_cn tb_kb tb_hs tb_X 116 q.1 q.2) ((tb_XT[116]?).getD []) := trivial
set_option maxRecDepth 20000 in
theorem tb_xt_117 : mm_allL (fun q => mm_xR tb_P tb_TB tb_SB tb_cl tb_cn tb_kb tb_hs tb_X 117 q.1 q.2) ((tb_XT[117]?).getD []) := trivial
set_option maxRecDepth 20000 in
theorem tb_xt_118 : mm_allL (fun q => mm_xR tb_P tb_TB tb_SB tb_cl tb_cn tb_kb tb_hs tb_X 118 q.1 q.2) ((tb_XT[118]?).getD []) := trivial
set_option maxRecDepth 20000 in
theorem tb_xt_119 : mm_allL (fun q => mm_xR tb_P tb_TB tb_SB tb_cl tb_cn tb_kb tb_hs tb_X 119 q.1 q.2) ((tb_XT[119]?).getD []) := trivial
set_option maxRecDepth 20000 in
theorem tb_xt_120 : mm_allL (fun q => mm_xR tb_P tb_TB tb_SB tb_cl tb_cn tb_kb tb_hs tb_X 120 q.1 q.2) ((tb_XT[120]?).getD []) := trivial
set_option maxRecDepth 20000 in
theorem tb_xt_121 : mm_allL (fun q => mm_xR tb_P tb_TB tb_SB tb_cl tb_cn tb_kb tb_hs tb_X 121 q.1 q.2) ((tb_XT[121]?).getD []) := trivial
set_option maxRecDepth 20000 in
theorem tb_xt_122 : mm_allL (fun q => mm_xR tb_P tb_TB tb_SB tb_cl tb_cn tb_kb tb_hs tb_X 122 q.1 q.2) ((tb_XT[122]?).getD []) := trivial
set_option maxRecDepth 20000 in
theorem tb_xt_123 : mm_allL (fun q => mm_xR tb_P tb_TB tb_SB tb_cl tb_cn tb_kb tb_hs tb_X 123 q.1 q.2) ((tb_XT[123]?).getD []) := trivial
set_option maxRecDepth 20000 in
theorem tb_xt_124 : mm_allL (fun q => mm_xR tb_P tb_TB tb_SB tb_cl tb_cn tb_kb tb_hs tb_X 124 q.1 q.2) ((tb_XT[124]?).getD []) := trivial
set_option maxRecDepth 20000 in
theorem tb_xt_125 : mm_allL (fun q => mm_xR tb_P tb_TB tb_SB tb_cl tb_cn tb_kb tb_hs tb_X 125 q.1 q.2) ((tb_XT[125]?).getD []) := trivial
set_option maxRecDepth 20000 in
theorem tb_xt_126 : mm_allL (fun q => mm_xR tb_P tb_TB tb_SB tb_cl tb_cn tb_kb tb_hs tb_X 126 q.1 q.2) ((tb_XT[126]?).getD []) := trivial
set_option maxRecDepth 20000 in
theorem tb_xt_127 : mm_allL (fun q => mm_xR tb_P tb_TB tb_SB tb_cl tb_cn tb_kb tb_hs tb_X 127 q.1 q.2) ((tb_XT[127]?).getD []) := trivial
set_option maxRecDepth 20000 in
theorem tb_xt_128 : mm_allL (fun q => mm_xR tb_P tb_TB tb_SB tb_cl tb_cn tb_kb tb_hs tb_X 128 q.1 q.2) ((tb_XT[128]?).getD []) := trivial
set_option maxRecDepth 20000 in
theorem tb_xt_129 : mm_allL (fun q => mm_xR tb_P tb_TB tb_SB tb_cl tb_cn tb_kb tb_hs tb_X 129 q.1 q.2) ((tb_XT[129]?).getD []) := trivial
set_option maxRecDepth 20000 in
theorem tb_xt_130 : mm_allL (fun q => mm_xR tb_P tb_TB tb_SB tb_cl tb_cn tb_kb tb_hs tb_X 130 q.1 q.2) ((tb_XT[130]?).getD []) := trivial
set_option maxRecDepth 20000 in
theorem tb_xt_131 : mm_allL (fun q => mm_xR tb_P tb_TB tb_SB tb_cl tb_cn tb_kb tb_hs tb_X 131 q.1 q.2) ((tb_XT[131]?).getD []) := trivial
set_option maxRecDepth 20000 in
theorem tb_xt_132 : mm_allL (fun q => mm_xR tb_P tb_TB tb_SB tb_cl tb_cn tb_kb tb_hs tb_X 132 q.1 q.2) ((tb_XT[132]?).getD []) := trivial
set_option maxRecDepth 20000 in
theorem tb_xt_133 : mm_allL (fun q => mm_xR tb_P tb_TB tb_SB tb_cl tb_cn tb_kb tb_hs tb_X 133 q.1 q.2) ((tb_XT[133]?).getD []) := trivial
set_option maxRecDepth 20000 in
theorem tb_xt_134 : mm_allL (fun q => mm_xR tb_P tb_TB tb_SB tb_cl tb_cn tb_kb tb_hs tb_X 134 q.1 q.2) ((tb_XT[134]?).getD []) := trivial
set_option maxRecDepth 20000 in
theorem tb_xt_135 : mm_allL (fun q => mm_xR tb_P tb_TB tb_SB tb_cl tb_cn tb_kb tb_hs tb_X 135 q.1 q.2) ((tb_XT[135]?).getD []) := trivial
set_option maxRecDepth 20000 in
theorem tb_xt_all : mm_all2P (fun k pc ci => mm_xR tb_P tb_TB tb_SB tb_cl tb_cn tb_kb tb_hs tb_X k pc ci) 0 tb_XT := ⟨tb_xt_0, tb_xt_1, tb_xt_2, tb_xt_3, tb_xt_4, tb_xt_5, tb_xt_6, tb_xt_7, tb_xt_8, tb_xt_9, tb_xt_10, tb_xt_11, tb_xt_12, tb_xt_13, tb_xt_14, tb_xt_15, tb_xt_16, tb_xt_17, tb_xt_18, tb_xt_19, tb_xt_20, tb_xt_21, tb_xt_22, tb_xt_23, tb_xt_24, tb_xt_25, tb_xt_26, tb_xt_27, tb_xt_28, tb_xt_29, tb_xt_30, tb_xt_31, tb_xt_32, tb_xt_33, tb_xt_34, tb_xt_35, tb_xt_36, tb_xt_37, tb_xt_38, tb_xt_39, tb_xt_40, tb_xt_41, tb_xt_42, tb_xt_43, tb_xt_44, tb_xt_45, tb_xt_46, tb_xt_47, tb_xt_48, tb_xt_49, tb_xt_50, tb_xt_51, tb_xt_52, tb_xt_53, tb_xt_54, tb_xt_55, tb_xt_56, tb_xt_57, tb_xt_58, tb_xt_59, tb_xt_60, tb_xt_61, tb_xt_62, tb_xt_63, tb_xt_64, tb_xt_65, tb_xt_66, tb_xt_67, tb_xt_68, tb_xt_69, tb_xt_70, tb_xt_71, tb_xt_72, tb_xt_73, tb_xt_74, tb_xt_75, tb_xt_76, tb_xt_77, tb_xt_78, tb_xt_79, tb_xt_80, tb_xt_81, tb_xt_82, tb_xt_83, tb_xt_84, tb_xt_85, tb_xt_86, tb_xt_87, tb_xt_88, tb_xt_89, tb_xt_90, tb_xt_91, tb_xt_92, tb_xt_93, tb_xt_94, tb_xt_95, tb_xt_96, tb_xt_97, tb_xt_98, tb_xt_99, tb_xt_100, tb_xt_101, tb_xt_102, tb_xt_103, tb_xt_104, tb_xt_105, tb_xt_106, tb_xt_107, tb_xt_108, tb_xt_109, tb_xt_110, tb_xt_111, tb_xt_112, tb_xt_113, tb_xt_114, tb_xt_115, tb_xt_116, tb_xt_117, tb_xt_118, tb_xt_119, tb_xt_120, tb_xt_121, tb_xt_122, tb_xt_123, tb_xt_124, tb_xt_125, tb_xt_126, tb_xt_127, tb_xt_128, tb_xt_129, tb_xt_130, tb_xt_131, tb_xt_132, tb_xt_133, tb_xt_134, tb_xt_135, trivial⟩
theorem tb_xc_0 : mm_allL (fun q => q.1 ≠ 0 ∧ tb_X q.2 ∧ ∃ X T, tb_cl[q.2]? = some (X, T, 0) ∧ Cond.classLink (tb_cn 0) q.1 X ∈ tb_TB) ((tb_XC[0]?).getD []) := trivial
theorem tb_xc_1 : mm_allL (fun q => q.1 ≠ 0 ∧ tb_X q.2 ∧ ∃ X T, tb_cl[q.2]? = some (X, T, 0) ∧ Cond.classLink (tb_cn 1) q.1 X ∈ tb_TB) ((tb_XC[1]?).getD []) := trivial
theorem tb_xc_2 : mm_allL (fun q => q.1 ≠ 0 ∧ tb_X q.2 ∧ ∃ X T, tb_cl[q.2]? = some (X, T, 0) ∧ Cond.classLink (tb_cn 2) q.1 X ∈ tb_TB) ((tb_XC[2]?).getD []) := ⟨⟨by decide, Or.inl rfl, _, _, rfl, (tb_i3 (List.mem_of_getElem? (i := 8) rfl) rfl)⟩, trivial⟩
theorem tb_xc_3 : mm_allL (fun q => q.1 ≠ 0 ∧ tb_X q.2 ∧ ∃ X T, tb_cl[q.2]? = some (X, T, 0) ∧ Cond.classLink (tb_cn 3) q.1 X ∈ tb_TB) ((tb_XC[3]?).getD []) := trivial
theorem tb_xc_4 : mm_allL (fun q => q.1 ≠ 0 ∧ tb_X q.2 ∧ ∃ X T, tb_cl[q.2]? = some (X, T, 0) ∧ Cond.classLink (tb_cn 4) q.1 X ∈ tb_TB) ((tb_XC[4]?).getD []) := trivial
theorem tb_xc_5 : mm_allL (fun q => q.1 ≠ 0 ∧ tb_X q.2 ∧ ∃ X T, tb_cl[q.2]? = some (X, T, 0) ∧ Cond.classLink (tb_cn 5) q.1 X ∈ tb_TB) ((tb_XC[5]?).getD []) := trivial
theorem tb_xc_6 : mm_allL (fun q => q.1 ≠ 0 ∧ tb_X q.2 ∧ ∃ X T, tb_cl[q.2]? = some (X, T, 0) ∧ Cond.classLink (tb_cn 6) q.1 X ∈ tb_TB) ((tb_XC[6]?).getD []) := ⟨⟨by decide, Or.inl rfl, _, _, rfl, (tb_i4 (List.mem_of_getElem? (i := 130) rfl) rfl)⟩, trivial⟩
theorem tb_xc_7 : mm_allL (fun q => q.1 ≠ 0 ∧ tb_X q.2 ∧ ∃ X T, tb_cl[q.2]? = some (X, T, 0) ∧ Cond.classLink (tb_cn 7) q.1 X ∈ tb_TB) ((tb_XC[7]?).getD []) := trivial
theorem tb_xc_8 : mm_allL (fun q => q.1 ≠ 0 ∧ tb_X q.2 ∧ ∃ X T, tb_cl[q.2]? = some (X, T, 0) ∧ Cond.classLink (tb_cn 8) q.1 X ∈ tb_TB) ((tb_XC[8]?).getD []) := trivial
theorem tb_xc_9 : mm_allL (fun q => q.1 ≠ 0 ∧ tb_X q.2 ∧ ∃ X T, tb_cl[q.2]? = some (X, T, 0) ∧ Cond.classLink (tb_cn 9) q.1 X ∈ tb_TB) ((tb_XC[9]?).getD []) := trivial
theorem tb_xc_10 : mm_allL (fun q => q.1 ≠ 0 ∧ tb_X q.2 ∧ ∃ X T, tb_cl[q.2]? = some (X, T, 0) ∧ Cond.classLink (tb_cn 10) q.1 X ∈ tb_TB) ((tb_XC[10]?).getD []) := trivial
theorem tb_xc_11 : mm_allL (fun q => q.1 ≠ 0 ∧ tb_X q.2 ∧ ∃ X T, tb_cl[q.2]? = some (X, T, 0) ∧ Cond.classLink (tb_cn 11) q.1 X ∈ tb_TB) ((tb_XC[11]?).getD []) := trivial
theorem tb_xc_12 : mm_allL (fun q => q.1 ≠ 0 ∧ tb_X q.2 ∧ ∃ X T, tb_cl[q.2]? = some (X, T, 0) ∧ Cond.classLink (tb_cn 12) q.1 X ∈ tb_TB) ((tb_XC[12]?).getD []) := trivial
theorem tb_xc_13 : mm_allL (fun q => q.1 ≠ 0 ∧ tb_X q.2 ∧ ∃ X T, tb_cl[q.2]? = some (X, T, 0) ∧ Cond.classLink (tb_cn 13) q.1 X ∈ tb_TB) ((tb_XC[13]?).getD []) := trivial
theorem tb_xc_14 : mm_allL (fun q => q.1 ≠ 0 ∧ tb_X q.2 ∧ ∃ X T, tb_cl[q.2]? = some (X, T, 0) ∧ Cond.classLink (tb_cn 14) q.1 X ∈ tb_TB) ((tb_XC[14]?).getD []) := trivial
theorem tb_xc_15 : mm_allL (fun q => q.1 ≠ 0 ∧ tb_X q.2 ∧ ∃ X T, tb_cl[q.2]? = some (X, T, 0) ∧ Cond.classLink (tb_cn 15) q.1 X ∈ tb_TB) ((tb_XC[15]?).getD []) := ⟨⟨by decide, Or.inl rfl, _, _, rfl, (tb_i6 (List.mem_of_getElem? (i := 39) rfl) rfl)⟩, ⟨by decide, Or.inr rfl, _, _, rfl, (tb_i6 (List.mem_of_getElem? (i := 57) rfl) rfl)⟩, trivial⟩
theorem tb_xc_16 : mm_allL (fun q => q.1 ≠ 0 ∧ tb_X q.2 ∧ ∃ X T, tb_cl[q.2]? = some (X, T, 0) ∧ Cond.classLink (tb_cn 16) q.1 X ∈ tb_TB) ((tb_XC[16]?).getD []) := trivial
theorem tb_xc_17 : mm_allL (fun q => q.1 ≠ 0 ∧ tb_X q.2 ∧ ∃ X T, tb_cl[q.2]? = some (X, T, 0) ∧ Cond.classLink (tb_cn 17) q.1 X ∈ tb_TB) ((tb_XC[17]?).getD []) := trivial
set_option maxRecDepth 20000 in
theorem tb_xc_all : mm_all2P (fun o ct cj => ct ≠ 0 ∧ tb_X cj ∧ ∃ X T, tb_cl[cj]? = some (X, T, 0) ∧ Cond.classLink (tb_cn o) ct X ∈ tb_TB) 0 tb_XC := ⟨tb_xc_0, tb_xc_1, tb_xc_2, tb_xc_3, tb_xc_4, tb_xc_5, tb_xc_6, tb_xc_7, tb_xc_8, tb_xc_9, tb_xc_10, tb_xc_11, tb_xc_12, tb_xc_13, tb_xc_14, tb_xc_15, tb_xc_16, tb_xc_17, trivial⟩
