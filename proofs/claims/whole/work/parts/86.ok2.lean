/-! THE TABLES TELL THE TRUTH (cells). -/
set_option maxRecDepth 20000 in
theorem tb_fl_0 : mm_allL (fun q => (fun (o i : Nat) (v : Nat × Nat) => ∃ C T N, tb_cl[v.1]? = some (C, T, N) ∧ v.2 < N ∧ Cond.fieldLink (tb_cn o) i (T v.2).1 (T v.2).2.1 (T v.2).2.2.1 ∈ tb_TB) 0 q.1 q.2) ((tb_FL[0]?).getD []) := ⟨⟨_, _, _, rfl, by decide, (tb_i2 (List.mem_of_getElem? (i := 126) rfl) rfl)⟩,
  ⟨_, _, _, rfl, by decide, (tb_i2 (List.mem_of_getElem? (i := 127) rfl) rfl)⟩,
  ⟨_, _, _, rfl, by decide, (tb_i2 (List.mem_of_getElem? (i := 128) rfl) rfl)⟩,
  ⟨_, _, _, rfl, by decide, (tb_i2 (List.mem_of_getElem? (i := 129) rfl) rfl)⟩,
  ⟨_, _, _, rfl, by decide, (tb_i2 (List.mem_of_getElem? (i := 130) rfl) rfl)⟩,
  ⟨_, _, _, rfl, by decide, (tb_i2 (List.mem_of_getElem? (i := 131) rfl) rfl)⟩,
  ⟨_, _, _, rfl, by decide, (tb_i2 (List.mem_of_getElem? (i := 132) rfl) rfl)⟩,
  ⟨_, _, _, rfl, by decide, (tb_i2 (List.mem_of_getElem? (i := 133) rfl) rfl)⟩,
  ⟨_, _, _, rfl, by decide, (tb_i2 (List.mem_of_getElem? (i := 134) rfl) rfl)⟩,
  ⟨_, _, _, rfl, by decide, (tb_i2 (List.mem_of_getElem? (i := 135) rfl) rfl)⟩,
  ⟨_, _, _, rfl, by decide, (tb_i2 (List.mem_of_getElem? (i := 136) rfl) rfl)⟩,
  ⟨_, _, _, rfl, by decide, (tb_i2 (List.mem_of_getElem? (i := 137) rfl) rfl)⟩,
  ⟨_, _, _, rfl, by decide, (tb_i1 (List.mem_of_getElem? (i := 43) rfl) rfl)⟩,
  ⟨_, _, _, rfl, by decide, (tb_i1 (List.mem_of_getElem? (i := 87) rfl) rfl)⟩,
  ⟨_, _, _, rfl, by decide, (tb_i1 (List.mem_of_getElem? (i := 167) rfl) rfl)⟩,
  ⟨_, _, _, rfl, by decide, (tb_i1 (List.mem_of_getElem? (i := 170) rfl) rfl)⟩,
  ⟨_, _, _, rfl, by decide, (tb_i1 (List.mem_of_getElem? (i := 229) rfl) rfl)⟩,
  ⟨_, _, _, rfl, by decide, (tb_i2 (List.mem_of_getElem? (i := 188) rfl) rfl)⟩,
  ⟨_, _, _, rfl, by decide, (tb_i2 (List.mem_of_getElem? (i := 193) rfl) rfl)⟩,
  trivial⟩
set_option maxRecDepth 20000 in
theorem tb_fl_1 : mm_allL (fun q => (fun (o i : Nat) (v : Nat × Nat) => ∃ C T N, tb_cl[v.1]? = some (C, T, N) ∧ v.2 < N ∧ Cond.fieldLink (tb_cn o) i (T v.2).1 (T v.2).2.1 (T v.2).2.2.1 ∈ tb_TB) 1 q.1 q.2) ((tb_FL[1]?).getD []) := ⟨⟨_, _, _, rfl, by decide, (tb_i1 (List.mem_of_getElem? (i := 41) rfl) rfl)⟩,
  ⟨_, _, _, rfl, by decide, (tb_i1 (List.mem_of_getElem? (i := 42) rfl) rfl)⟩,
  ⟨_, _, _, rfl, by decide, (tb_i1 (List.mem_of_getElem? (i := 44) rfl) rfl)⟩,
  ⟨_, _, _, rfl, by decide, (tb_i1 (List.mem_of_getElem? (i := 45) rfl) rfl)⟩,
  ⟨_, _, _, rfl, by decide, (tb_i1 (List.mem_of_getElem? (i := 46) rfl) rfl)⟩,
  ⟨_, _, _, rfl, by decide, (tb_i1 (List.mem_of_getElem? (i := 47) rfl) rfl)⟩,
  ⟨_, _, _, rfl, by decide, (tb_i1 (List.mem_of_getElem? (i := 48) rfl) rfl)⟩,
  ⟨_, _, _, rfl, by decide, (tb_i1 (List.mem_of_getElem? (i := 49) rfl) rfl)⟩,
  ⟨_, _, _, rfl, by decide, (tb_i1 (List.mem_of_getElem? (i := 51) rfl) rfl)⟩,
  ⟨_, _, _, rfl, by decide, (tb_i1 (List.mem_of_getElem? (i := 53) rfl) rfl)⟩,
  trivial⟩
set_option maxRecDepth 20000 in
theorem tb_fl_2 : mm_allL (fun q => (fun (o i : Nat) (v : Nat × Nat) => ∃ C T N, tb_cl[v.1]? = some (C, T, N) ∧ v.2 < N ∧ Cond.fieldLink (tb_cn o) i (T v.2).1 (T v.2).2.1 (T v.2).2.2.1 ∈ tb_TB) 2 q.1 q.2) ((tb_FL[2]?).getD []) := ⟨⟨_, _, _, rfl, by decide, (tb_i1 (List.mem_of_getElem? (i := 84) rfl) rfl)⟩,
  ⟨_, _, _, rfl, by decide, (tb_i1 (List.mem_of_getElem? (i := 85) rfl) rfl)⟩,
  ⟨_, _, _, rfl, by decide, (tb_i1 (List.mem_of_getElem? (i := 86) rfl) rfl)⟩,
  ⟨_, _, _, rfl, by decide, (tb_i1 (List.mem_of_getElem? (i := 52) rfl) rfl)⟩,
  ⟨_, _, _, rfl, by decide, (tb_i2 (List.mem_of_getElem? (i := 191) rfl) rfl)⟩,
  ⟨_, _, _, rfl, by decide, (tb_i2 (List.mem_of_getElem? (i := 187) rfl) rfl)⟩,
  ⟨_, _, _, rfl, by decide, (tb_i2 (List.mem_of_getElem? (i := 215) rfl) rfl)⟩,
  ⟨_, _, _, rfl, by decide, (tb_i2 (List.mem_of_getElem? (i := 220) rfl) rfl)⟩,
  ⟨_, _, _, rfl, by decide, (tb_i1 (List.mem_of_getElem? (i := 50) rfl) rfl)⟩,
  ⟨_, _, _, rfl, by decide, (tb_i2 (List.mem_of_getElem? (i := 195) rfl) rfl)⟩,
  ⟨_, _, _, rfl, by decide, (tb_i2 (List.mem_of_getElem? (i := 199) rfl) rfl)⟩,
  ⟨_, _, _, rfl, by decide, (tb_i2 (List.mem_of_getElem? (i := 202) rfl) rfl)⟩,
  ⟨_, _, _, rfl, by decide, (tb_i2 (List.mem_of_getElem? (i := 206) rfl) rfl)⟩,
  ⟨_, _, _, rfl, by decide, (tb_i2 (List.mem_of_getElem? (i := 211) rfl) rfl)⟩,
  ⟨_, _, _, rfl, by decide, (tb_i1 (List.mem_of_getElem? (i := 54) rfl) rfl)⟩,
  trivial⟩
set_option maxRecDepth 20000 in
theorem tb_fl_3 : mm_allL (fun q => (fun (o i : Nat) (v : Nat × Nat) => ∃ C T N, tb_cl[v.1]? = some (C, T, N) ∧ v.2 < N ∧ Cond.fieldLink (tb_cn o) i (T v.2).1 (T v.2).2.1 (T v.2).2.2.1 ∈ tb_TB) 3 q.1 q.2) ((tb_FL[3]?).getD []) := ⟨⟨_, _, _, rfl, by decide, (tb_i1 (List.mem_of_getElem? (i := 115) rfl) rfl)⟩,
  ⟨_, _, _, rfl, by decide, (tb_i1 (List.mem_of_getElem? (i := 116) rfl) rfl)⟩,
  ⟨_, _, _, rfl, by decide, (tb_i1 (List.mem_of_getElem? (i := 117) rfl) rfl)⟩,
  ⟨_, _, _, rfl, by decide, (tb_i1 (List.mem_of_getElem? (i := 118) rfl) rfl)⟩,
  ⟨_, _, _, rfl, by decide, (tb_i1 (List.mem_of_getElem? (i := 119) rfl) rfl)⟩,
  ⟨_, _, _, rfl, by decide, (tb_i1 (List.mem_of_getElem? (i := 120) rfl) rfl)⟩,
  ⟨_, _, _, rfl, by decide, (tb_i1 (List.mem_of_getElem? (i := 121) rfl) rfl)⟩,
  ⟨_, _, _, rfl, by decide, (tb_i1 (List.mem_of_getElem? (i := 149) rfl) rfl)⟩,
  trivial⟩
set_option maxRecDepth 20000 in
theorem tb_fl_4 : mm_allL (fun q => (fun (o i : Nat) (v : Nat × Nat) => ∃ C T N, tb_cl[v.1]? = some (C, T, N) ∧ v.2 < N ∧ Cond.fieldLink (tb_cn o) i (T v.2).1 (T v.2).2.1 (T v.2).2.2.1 ∈ tb_TB) 4 q.1 q.2) ((tb_FL[4]?).getD []) := ⟨⟨_, _, _, rfl, by decide, (tb_i1 (List.mem_of_getElem? (i := 148) rfl) rfl)⟩,
  ⟨_, _, _, rfl, by decide, (tb_i1 (List.mem_of_getElem? (i := 152) rfl) rfl)⟩,
  trivial⟩
set_option maxRecDepth 20000 in
theorem tb_fl_5 : mm_allL (fun q => (fun (o i : Nat) (v : Nat × Nat) => ∃ C T N, tb_cl[v.1]? = some (C, T, N) ∧ v.2 < N ∧ Cond.fieldLink (tb_cn o) i (T v.2).1 (T v.2).2.1 (T v.2).2.2.1 ∈ tb_TB) 5 q.1 q.2) ((tb_FL[5]?).getD []) := ⟨⟨_, _, _, rfl, by decide, (tb_i1 (List.mem_of_getElem? (i := 159) rfl) rfl)⟩,
  ⟨_, _, _, rfl, by decide, (tb_i1 (List.mem_of_getElem? (i := 161) rfl) rfl)⟩,
  ⟨_, _, _, rfl, by decide, (tb_i1 (List.mem_of_getElem? (i := 160) rfl) rfl)⟩,
  ⟨_, _, _, rfl, by decide, (tb_i1 (List.mem_of_getElem? (i := 163) rfl) rfl)⟩,
  ⟨_, _, _, rfl, by decide, (tb_i1 (List.mem_of_getElem? (i := 162) rfl) rfl)⟩,
  ⟨_, _, _, rfl, by decide, (tb_i1 (List.mem_of_getElem? (i := 164) rfl) rfl)⟩,
  ⟨_, _, _, rfl, by decide, (tb_i1 (List.mem_of_getElem? (i := 165) rfl) rfl)⟩,
  ⟨_, _, _, rfl, by decide, (tb_i1 (List.mem_of_getElem? (i := 166) rfl) rfl)⟩,
  ⟨_, _, _, rfl, by decide, (tb_i1 (List.mem_of_getElem? (i := 169) rfl) rfl)⟩,
  ⟨_, _, _, rfl, by decide, (tb_i1 (List.mem_of_getElem? (i := 172) rfl) rfl)⟩,
  ⟨_, _, _, rfl, by decide, (tb_i1 (List.mem_of_getElem? (i := 174) rfl) rfl)⟩,
  ⟨_, _, _, rfl, by decide, (tb_i1 (List.mem_of_getElem? (i := 176) rfl) rfl)⟩,
  ⟨_, _, _, rfl, by decide, (tb_i1 (List.mem_of_getElem? (i := 178) rfl) rfl)⟩,
  ⟨_, _, _, rfl, by decide, (tb_i1 (List.mem_of_getElem? (i := 180) rfl) rfl)⟩,
  ⟨_, _, _, rfl, by decide, (tb_i1 (List.mem_of_getElem? (i := 150) rfl) rfl)⟩,
  trivial⟩
set_option maxRecDepth 20000 in
theorem tb_fl_6 : mm_allL (fun q => (fun (o i : Nat) (v : Nat × Nat) => ∃ C T N, tb_cl[v.1]? = some (C, T, N) ∧ v.2 < N ∧ Cond.fieldLink (tb_cn o) i (T v.2).1 (T v.2).2.1 (T v.2).2.2.1 ∈ tb_TB) 6 q.1 q.2) ((tb_FL[6]?).getD []) := ⟨⟨_, _, _, rfl, by decide, (tb_i1 (List.mem_of_getElem? (i := 214) rfl) rfl)⟩,
  ⟨_, _, _, rfl, by decide, (tb_i1 (List.mem_of_getElem? (i := 215) rfl) rfl)⟩,
  ⟨_, _, _, rfl, by decide, (tb_i1 (List.mem_of_getElem? (i := 216) rfl) rfl)⟩,
  ⟨_, _, _, rfl, by decide, (tb_i1 (List.mem_of_getElem? (i := 219) rfl) rfl)⟩,
  ⟨_, _, _, rfl, by decide, (tb_i1 (List.mem_of_getElem? (i := 221) rfl) rfl)⟩,
  ⟨_, _, _, rfl, by decide, (tb_i1 (List.mem_of_getElem? (i := 223) rfl) rfl)⟩,
  ⟨_, _, _, rfl, by decide, (tb_i1 (List.mem_of_getElem? (i := 224) rfl) rfl)⟩,
  ⟨_, _, _, rfl, by decide, (tb_i1 (List.mem_of_getElem? (i := 218) rfl) rfl)⟩,
  ⟨_, _, _, rfl, by decide, (tb_i1 (List.mem_of_getElem? (i := 228) rfl) rfl)⟩,
  ⟨_, _, _, rfl, by decide, (tb_i1 (List.mem_of_getElem? (i := 217) rfl) rfl)⟩,
  ⟨_, _, _, rfl, by decide, (tb_i1 (List.mem_of_getElem? (i := 226) rfl) rfl)⟩,
  ⟨_, _, _, rfl, by decide, (tb_i1 (List.mem_of_getElem? (i := 227) rfl) rfl)⟩,
  ⟨_, _, _, rfl, by decide, (tb_i2 (List.mem_of_getElem? (i := 219) rfl) rfl)⟩,
  ⟨_, _, _, rfl, by decide, (tb_i1 (List.mem_of_getElem? (i := 173) rfl) rfl)⟩,
  ⟨_, _, _, rfl, by decide, (tb_i1 (List.mem_of_getElem? (i := 175) rfl) rfl)⟩,
  ⟨_, _, _, rfl, by decide, (tb_i1 (List.mem_of_getElem? (i := 179) rfl) rfl)⟩,
  ⟨_, _, _, rfl, by decide, (tb_i1 (List.mem_of_getElem? (i := 177) rfl) rfl)⟩,
  ⟨_, _, _, rfl, by decide, (tb_i1 (List.mem_of_getElem? (i := 181) rfl) rfl)⟩,
  ⟨_, _, _, rfl, by decide, (tb_i1 (List.mem_of_getElem? (i := 220) rfl) rfl)⟩,
  ⟨_, _, _, rfl, by decide, (tb_i1 (List.mem_of_getElem? (i := 222) rfl) rfl)⟩,
  ⟨_, _, _, rfl, by decide, (tb_i1 (List.mem_of_getElem? (i := 225) rfl) rfl)⟩,
  ⟨_, _, _, rfl, by decide, (tb_i2 (List.mem_of_getElem? (i := 196) rfl) rfl)⟩,
  ⟨_, _, _, rfl, by decide, (tb_i2 (List.mem_of_getElem? (i := 203) rfl) rfl)⟩,
  ⟨_, _, _, rfl, by decide, (tb_i2 (List.mem_of_getElem? (i := 192) rfl) rfl)⟩,
  ⟨_, _, _, rfl, by decide, (tb_i2 (List.mem_of_getElem? (i := 207) rfl) rfl)⟩,
  ⟨_, _, _, rfl, by decide, (tb_i2 (List.mem_of_getElem? (i := 216) rfl) rfl)⟩,
  ⟨_, _, _, rfl, by decide, (tb_i1 (List.mem_of_getElem? (i := 151) rfl) rfl)⟩,
  ⟨_, _, _, rfl, by decide, (tb_i1 (List.mem_of_getElem? (i := 153) rfl) rfl)⟩,
  ⟨_, _, _, rfl, by decide, (tb_i4 (List.mem_of_getElem? (i := 166) rfl) rfl)⟩,
  ⟨_, _, _, rfl, by decide, (tb_i4 (List.mem_of_getElem? (i := 170) rfl) rfl)⟩,
  ⟨_, _, _, rfl, by decide, (tb_i4 (List.mem_of_getElem? (i := 168) rfl) rfl)⟩,
  ⟨_, _, _, rfl, by decide, (tb_i4 (List.mem_of_getElem? (i := 174) rfl) rfl)⟩,
  ⟨_, _, _, rfl, by decide, (tb_i4 (List.mem_of_getElem? (i := 172) rfl) rfl)⟩,
  ⟨_, _, _, rfl, by decide, (tb_i2 (List.mem_of_getElem? (i := 200) rfl) rfl)⟩,
  ⟨_, _, _, rfl, by decide, (tb_i1 (List.mem_of_getElem? (i := 171) rfl) rfl)⟩,
  ⟨_, _, _, rfl, by decide, (tb_i1 (List.mem_of_getElem? (i := 168) rfl) rfl)⟩,
  ⟨_, _, _, rfl, by decide, (tb_i2 (List.mem_of_getElem? (i := 212) rfl) rfl)⟩,
  ⟨_, _, _, rfl, by decide, (tb_i2 (List.mem_of_getElem? (i := 189) rfl) rfl)⟩,
  trivial⟩
set_option maxRecDepth 20000 in
theorem tb_fl_7 : mm_allL (fun q => (fun (o i : Nat) (v : Nat × Nat) => ∃ C T N, tb_cl[v.1]? = some (C, T, N) ∧ v.2 < N ∧ Cond.fieldLink (tb_cn o) i (T v.2).1 (T v.2).2.1 (T v.2).2.2.1 ∈ tb_TB) 7 q.1 q.2) ((tb_FL[7]?).getD []) := ⟨⟨_, _, _, rfl, by decide, (tb_i2 (List.mem_of_getElem? (i := 29) rfl) rfl)⟩,
  ⟨_, _, _, rfl, by decide, (tb_i2 (List.mem_of_getElem? (i := 30) rfl) rfl)⟩,
  ⟨_, _, _, rfl, by decide, (tb_i2 (List.mem_of_getElem? (i := 31) rfl) rfl)⟩,
  ⟨_, _, _, rfl, by decide, (tb_i2 (List.mem_of_getElem? (i := 33) rfl) rfl)⟩,
  ⟨_, _, _, rfl, by decide, (tb_i2 (List.mem_of_getElem? (i := 35) rfl) rfl)⟩,
  ⟨_, _, _, rfl, by decide, (tb_i2 (List.mem_of_getElem? (i := 36) rfl) rfl)⟩,
  ⟨_, _, _, rfl, by decide, (tb_i2 (List.mem_of_getElem? (i := 37) rfl) rfl)⟩,
  ⟨_, _, _, rfl, by decide, (tb_i2 (List.mem_of_getElem? (i := 218) rfl) rfl)⟩,
  ⟨_, _, _, rfl, by decide, (tb_i2 (List.mem_of_getElem? (i := 210) rfl) rfl)⟩,
  ⟨_, _, _, rfl, by decide, (tb_i2 (List.mem_of_getElem? (i := 214) rfl) rfl)⟩,
  trivial⟩
set_option maxRecDepth 20000 in
theorem tb_fl_8 : mm_allL (fun q => (fun (o i : Nat) (v : Nat × Nat) => ∃ C T N, tb_cl[v.1]? = some (C, T, N) ∧ v.2 < N ∧ Cond.fieldLink (tb_cn o) i (T v.2).1 (T v.2).2.1 (T v.2).2.2.1 ∈ tb_TB) 8 q.1 q.2) ((tb_FL[8]?).getD []) := ⟨⟨_, _, _, rfl, by decide, (tb_i2 (List.mem_of_getElem? (i := 60) rfl) rfl)⟩,
  ⟨_, _, _, rfl, by decide, (tb_i2 (List.mem_of_getElem? (i := 61) rfl) rfl)⟩,
  ⟨_, _, _, rfl, by decide, (tb_i2 (List.mem_of_getElem? (i := 62) rfl) rfl)⟩,
  ⟨_, _, _, rfl, by decide, (tb_i2 (List.mem_of_getElem? (i := 63) rfl) rfl)⟩,
  ⟨_, _, _, rfl, by decide, (tb_i2 (List.mem_of_getElem? (i := 208) rfl) rfl)⟩,
  ⟨_, _, _, rfl, by decide, (tb_i2 (List.mem_of_getElem? (i := 204) rfl) rfl)⟩,
  ⟨_, _, _, rfl, by decide, (tb_i2 (List.mem_of_getElem? (i := 197) rfl) rfl)⟩,
  trivial⟩
set_option maxRecDepth 20000 in
theorem tb_fl_9 : mm_allL (fun q => (fun (o i : Nat) (v : Nat × Nat) => ∃ C T N, tb_cl[v.1]? = some (C, T, N) ∧ v.2 < N ∧ Cond.fieldLink (tb_cn o) i (T v.2).1 (T v.2).2.1 (T v.2).2.2.1 ∈ tb_TB) 9 q.1 q.2) ((tb_FL[9]?).getD []) := ⟨⟨_, _, _, rfl, by decide, (tb_i2 (List.mem_of_getElem? (i := 79) rfl) rfl)⟩,
  ⟨_, _, _, rfl, by decide, (tb_i2 (List.mem_of_getElem? (i := 80) rfl) rfl)⟩,
  ⟨_, _, _, rfl, by decide, (tb_i2 (List.mem_of_getElem? (i := 81) rfl) rfl)⟩,
  ⟨_, _, _, rfl, by decide, (tb_i2 (List.mem_of_getElem? (i := 82) rfl) rfl)⟩,
  ⟨_, _, _, rfl, by decide, (tb_i2 (List.mem_of_getElem? (i := 83) rfl) rfl)⟩,
  ⟨_, _, _, rfl, by decide, (tb_i2 (List.mem_of_getElem? (i := 84) rfl) rfl)⟩,
  ⟨_, _, _, rfl, by decide, (tb_i2 (List.mem_of_getElem? (i := 85) rfl) rfl)⟩,
  ⟨_, _, _, rfl, by decide, (tb_i2 (List.mem_of_getElem? (i := 91) rfl) rfl)⟩,
  ⟨_, _, _, rfl, by decide, (tb_i2 (List.mem_of_getElem? (i := 92) rfl) rfl)⟩,
  ⟨_, _, _, rfl, by decide, (tb_i2 (List.mem_of_getElem? (i := 90) rfl) rfl)⟩,
  ⟨_, _, _, rfl, by decide, (tb_i2 (List.mem_of_getElem? (i := 86) rfl) rfl)⟩,
  ⟨_, _, _, rfl, by decide, (tb_i2 (List.mem_of_getElem? (i := 87) rfl) rfl)⟩,
  ⟨_, _, _, rfl, by decide, (tb_i2 (List.mem_of_getElem? (i := 88) rfl) rfl)⟩,
  ⟨_, _, _, rfl, by decide, (tb_i2 (List.mem_of_getElem? (i := 89) rfl) rfl)⟩,
  ⟨_, _, _, rfl, by decide, (tb_i2 (List.mem_of_getElem? (i := 32) rfl) rfl)⟩,
  ⟨_, _, _, rfl, by decide, (tb_i2 (List.mem_of_getElem? (i := 34) rfl) rfl)⟩,
  trivial⟩
set_option maxRecDepth 20000 in
theorem tb_fl_10 : mm_allL (fun q => (fun (o i : Nat) (v : Nat × Nat) => ∃ C T N, tb_cl[v.1]? = some (C, T, N) ∧ v.2 < N ∧ Cond.fieldLink (tb_cn o) i (T v.2).1 (T v.2).2.1 (T v.2).2.2.1 ∈ tb_TB) 10 q.1 q.2) ((tb_FL[10]?).getD []) := ⟨⟨_, _, _, rfl, by decide, (tb_i2 (List.mem_of_getElem? (i := 184) rfl) rfl)⟩,
  ⟨_, _, _, rfl, by decide, (tb_i2 (List.mem_of_getElem? (i := 185) rfl) rfl)⟩,
  ⟨_, _, _, rfl, by decide, (tb_i2 (List.mem_of_getElem? (i := 186) rfl) rfl)⟩,
  ⟨_, _, _, rfl, by decide, (tb_i2 (List.mem_of_getElem? (i := 190) rfl) rfl)⟩,
  ⟨_, _, _, rfl, by decide, (tb_i2 (List.mem_of_getElem? (i := 194) rfl) rfl)⟩,
  ⟨_, _, _, rfl, by decide, (tb_i2 (List.mem_of_getElem? (i := 198) rfl) rfl)⟩,
  ⟨_, _, _, rfl, by decide, (tb_i2 (List.mem_of_getElem? (i := 201) rfl) rfl)⟩,
  ⟨_, _, _, rfl, by decide, (tb_i2 (List.mem_of_getElem? (i := 205) rfl) rfl)⟩,
  ⟨_, _, _, rfl, by decide, (tb_i2 (List.mem_of_getElem? (i := 209) rfl) rfl)⟩,
  ⟨_, _, _, rfl, by decide, (tb_i2 (List.mem_of_getElem? (i := 213) rfl) rfl)⟩,
  ⟨_, _, _, rfl, by decide, (tb_i2 (List.mem_of_getElem? (i := 217) rfl) rfl)⟩,
  trivial⟩
set_option maxRecDepth 20000 in
theorem tb_fl_11 : mm_allL (fun q => (fun (o i : Nat) (v : Nat × Nat) => ∃ C T N, tb_cl[v.1]? = some (C, T, N) ∧ v.2 < N ∧ Cond.fieldLink (tb_cn o) i (T v.2).1 (T v.2).2.1 (T v.2).2.2.1 ∈ tb_TB) 11 q.1 q.2) ((tb_FL[11]?).getD []) := ⟨⟨_, _, _, rfl, by decide, (tb_i4 (List.mem_of_getElem? (i := 165) rfl) rfl)⟩,
  ⟨_, _, _, rfl, by decide, (tb_i4 (List.mem_of_getElem? (i := 167) rfl) rfl)⟩,
  ⟨_, _, _, rfl, by decide, (tb_i4 (List.mem_of_getElem? (i := 169) rfl) rfl)⟩,
  ⟨_, _, _, rfl, by decide, (tb_i4 (List.mem_of_getElem? (i := 171) rfl) rfl)⟩,
  ⟨_, _, _, rfl, by decide, (tb_i4 (List.mem_of_getElem? (i := 173) rfl) rfl)⟩,
  trivial⟩
set_option maxRecDepth 20000 in
theorem tb_fl_12 : mm_allL (fun q => (fun (o i : Nat) (v : Nat × Nat) => ∃ C T N, tb_cl[v.1]? = some (C, T, N) ∧ v.2 < N ∧ Cond.fieldLink (tb_cn o) i (T v.2).1 (T v.2).2.1 (T v.2).2.2.1 ∈ tb_TB) 12 q.1 q.2) ((tb_FL[12]?).getD []) := ⟨⟨_, _, _, rfl, by decide, (tb_i7 (List.mem_of_getElem? (i := 138) rfl) rfl)⟩,
  ⟨_, _, _, rfl, by decide, (tb_i7 (List.mem_of_getElem? (i := 140) rfl) rfl)⟩,
  ⟨_, _, _, rfl, by decide, (tb_i7 (List.mem_of_getElem? (i := 141) rfl) rfl)⟩,
  ⟨_, _, _, rfl, by decide, (tb_i7 (List.mem_of_getElem? (i := 142) rfl) rfl)⟩,
  ⟨_, _, _, rfl, by decide, (tb_i7 (List.mem_of_getElem? (i := 144) rfl) rfl)⟩,
  ⟨_, _, _, rfl, by decide, (tb_i7 (List.mem_of_getElem? (i := 148) rfl) rfl)⟩,
  ⟨_, _, _, rfl, by decide, (tb_i7 (List.mem_of_getElem? (i := 149) rfl) rfl)⟩,
  ⟨_, _, _, rfl, by decide, (tb_i7 (List.mem_of_getElem? (i := 150) rfl) rfl)⟩,
  ⟨_, _, _, rfl, by decide, (tb_i7 (List.mem_of_getElem? (i := 151) rfl) rfl)⟩,
  ⟨_, _, _, rfl, by decide, (tb_i7 (List.mem_of_getElem? (i := 152) rfl) rfl)⟩,
  ⟨_, _, _, rfl, by decide, (tb_i7 (List.mem_of_getElem? (i := 153) rfl) rfl)⟩,
  ⟨_, _, _, rfl, by decide, (tb_i7 (List.mem_of_getElem? (i := 154) rfl) rfl)⟩,
  ⟨_, _, _, rfl, by decide, (tb_i7 (List.mem_of_getElem? (i := 155) rfl) rfl)⟩,
  ⟨_, _, _, rfl, by decide, (tb_i7 (List.mem_of_getElem? (i := 156) rfl) rfl)⟩,
  ⟨_, _, _, rfl, by decide, (tb_i7 (List.mem_of_getElem? (i := 157) rfl) rfl)⟩,
  ⟨_, _, _, rfl, by decide, (tb_i7 (List.mem_of_getElem? (i := 159) rfl) rfl)⟩,
  ⟨_, _, _, rfl, by decide, (tb_i7 (List.mem_of_getElem? (i := 160) rfl) rfl)⟩,
  ⟨_, _, _, rfl, by decide, (tb_i7 (List.mem_of_getElem? (i := 161) rfl) rfl)⟩,
  ⟨_, _, _, rfl, by decide, (tb_i7 (List.mem_of_getElem? (i := 162) rfl) rfl)⟩,
  ⟨_, _, _, rfl, by decide, (tb_i7 (List.mem_of_getElem? (i := 163) rfl) rfl)⟩,
  ⟨_, _, _, rfl, by decide, (tb_i7 (List.mem_of_getElem? (i := 164) rfl) rfl)⟩,
  ⟨_, _, _, rfl, by decide, (tb_i7 (List.mem_of_getElem? (i := 165) rfl) rfl)⟩,
  ⟨_, _, _, rfl, by decide, (tb_i7 (List.mem_of_getElem? (i := 166) rfl) rfl)⟩,
  ⟨_, _, _, rfl, by decide, (tb_i7 (List.mem_of_getElem? (i := 168) rfl) rfl)⟩,
  ⟨_, _, _, rfl, by decide, (tb_i7 (List.mem_of_getElem? (i := 169) rfl) rfl)⟩,
  ⟨_, _, _, rfl, by decide, (tb_i7 (List.mem_of_getElem? (i := 170) rfl) rfl)⟩,
  ⟨_, _, _, rfl, by decide, (tb_i7 (List.mem_of_getElem? (i := 172) rfl) rfl)⟩,
  ⟨_, _, _, rfl, by decide, (tb_i7 (List.mem_of_getElem? (i := 173) rfl) rfl)⟩,
  ⟨_, _, _, rfl, by decide, (tb_i7 (List.mem_of_getElem? (i := 174) rfl) rfl)⟩,
  ⟨_, _, _, rfl, by decide, (tb_i7 (List.mem_of_getElem? (i := 176) rfl) rfl)⟩,
  ⟨_, _, _, rfl, by decide, (tb_i7 (List.mem_of_getElem? (i := 177) rfl) rfl)⟩,
  ⟨_, _, _, rfl, by decide, (tb_i7 (List.mem_of_getElem? (i := 178) rfl) rfl)⟩,
  ⟨_, _, _, rfl, by decide, (tb_i7 (List.mem_of_getElem? (i := 180) rfl) rfl)⟩,
  ⟨_, _, _, rfl, by decide, (tb_i7 (List.mem_of_getElem? (i := 181) rfl) rfl)⟩,
  ⟨_, _, _, rfl, by decide, (tb_i7 (List.mem_of_getElem? (i := 182) rfl) rfl)⟩,
  ⟨_, _, _, rfl, by decide, (tb_i7 (List.mem_of_getElem? (i := 183) rfl) rfl)⟩,
  ⟨_, _, _, rfl, by decide, (tb_i7 (List.mem_of_getElem? (i := 184) rfl) rfl)⟩,
  ⟨_, _, _, rfl, by decide, (tb_i7 (List.mem_of_getElem? (i := 186) rfl) rfl)⟩,
  ⟨_, _, _, rfl, by decide, (tb_i7 (List.mem_of_getElem? (i := 189) rfl) rfl)⟩,
  ⟨_, _, _, rfl, by decide, (tb_i7 (List.mem_of_getElem? (i := 190) rfl) rfl)⟩,
  ⟨_, _, _, rfl, by decide, (tb_i7 (List.mem_of_getElem? (i := 191) rfl) rfl)⟩,
  ⟨_, _, _, rfl, by decide, (tb_i7 (List.mem_of_getElem? (i := 192) rfl) rfl)⟩,
  ⟨_, _, _, rfl, by decide, (tb_i7 (List.mem_of_getElem? (i := 193) rfl) rfl)⟩,
  ⟨_, _, _, rfl, by decide, (tb_i7 (List.mem_of_getElem? (i := 194) rfl) rfl)⟩,
  ⟨_, _, _, rfl, by decide, (tb_i7 (List.mem_of_getElem? (i := 195) rfl) rfl)⟩,
  ⟨_, _, _, rfl, by decide, (tb_i7 (List.mem_of_getElem? (i := 196) rfl) rfl)⟩,
  ⟨_, _, _, rfl, by decide, (tb_i7 (List.mem_of_getElem? (i := 197) rfl) rfl)⟩,
  ⟨_, _, _, rfl, by decide, (tb_i7 (List.mem_of_getElem? (i := 203) rfl) rfl)⟩,
  ⟨_, _, _, rfl, by decide, (tb_i7 (List.mem_of_getElem? (i := 205) rfl) rfl)⟩,
  ⟨_, _, _, rfl, by decide, (tb_i7 (List.mem_of_getElem? (i := 206) rfl) rfl)⟩,
  ⟨_, _, _, rfl, by decide, (tb_i7 (List.mem_of_getElem? (i := 207) rfl) rfl)⟩,
  ⟨_, _, _, rfl, by decide, (tb_i7 (List.mem_of_getElem? (i := 208) rfl) rfl)⟩,
  ⟨_, _, _, rfl, by decide, (tb_i7 (List.mem_of_getElem? (i := 209) rfl) rfl)⟩,
  ⟨_, _, _, rfl, by decide, (tb_i7 (List.mem_of_getElem? (i := 210) rfl) rfl)⟩,
  ⟨_, _, _, rfl, by decide, (tb_i7 (List.mem_of_getElem? (i := 215) rfl) rfl)⟩,
  ⟨_, _, _, rfl, by decide, (tb_i7 (List.mem_of_getElem? (i := 217) rfl) rfl)⟩,
  ⟨_, _, _, rfl, by decide, (tb_i7 (List.mem_of_getElem? (i := 218) rfl) rfl)⟩,
  ⟨_, _, _, rfl, by decide, (tb_i7 (List.mem_of_getElem? (i := 219) rfl) rfl)⟩,
  ⟨_, _, _, rfl, by decide, (tb_i7 (List.mem_of_getElem? (i := 221) rfl) rfl)⟩,
  ⟨_, _, _, rfl, by decide, (tb_i7 (List.mem_of_getElem? (i := 222) rfl) rfl)⟩,
  ⟨_, _, _, rfl, by decide, (tb_i7 (List.mem_of_getElem? (i := 223) rfl) rfl)⟩,
  ⟨_, _, _, rfl, by decide, (tb_i7 (List.mem_of_getElem? (i := 224) rfl) rfl)⟩,
  ⟨_, _, _, rfl, by decide, (tb_i7 (List.mem_of_getElem? (i := 225) rfl) rfl)⟩,
  ⟨_, _, _, rfl, by decide, (tb_i7 (List.mem_of_getElem? (i := 226) rfl) rfl)⟩,
  ⟨_, _, _, rfl, by decide, (tb_i7 (List.mem_of_getElem? (i := 231) rfl) rfl)⟩,
  ⟨_, _, _, rfl, by decide, (tb_i7 (List.mem_of_getElem? (i := 232) rfl) rfl)⟩,
  ⟨_, _, _, rfl, by decide, (tb_i7 (List.mem_of_getElem? (i := 234) rfl) rfl)⟩,
  ⟨_, _, _, rfl, by decide, (tb_i7 (List.mem_of_getElem? (i := 236) rfl) rfl)⟩,
  ⟨_, _, _, rfl, by decide, (tb_i7 (List.mem_of_getElem? (i := 237) rfl) rfl)⟩,
  ⟨_, _, _, rfl, by decide, (tb_i8 (List.mem_of_getElem? (i := 0) rfl) rfl)⟩,
  ⟨_, _, _, rfl, by decide, (tb_i8 (List.mem_of_getElem? (i := 1) rfl) rfl)⟩,
  ⟨_, _, _, rfl, by decide, (tb_i8 (List.mem_of_getElem? (i := 2) rfl) rfl)⟩,
  ⟨_, _, _, rfl, by decide, (tb_i8 (List.mem_of_getElem? (i := 3) rfl) rfl)⟩,
  ⟨_, _, _, rfl, by decide, (tb_i8 (List.mem_of_getElem? (i := 4) rfl) rfl)⟩,
  ⟨_, _, _, rfl, by decide, (tb_i8 (List.mem_of_getElem? (i := 5) rfl) rfl)⟩,
  ⟨_, _, _, rfl, by decide, (tb_i8 (List.mem_of_getElem? (i := 6) rfl) rfl)⟩,
  ⟨_, _, _, rfl, by decide, (tb_i8 (List.mem_of_getElem? (i := 7) rfl) rfl)⟩,
  ⟨_, _, _, rfl, by decide, (tb_i8 (List.mem_of_getElem? (i := 8) rfl) rfl)⟩,
  ⟨_, _, _, rfl, by decide, (tb_i8 (List.mem_of_getElem? (i := 11) rfl) rfl)⟩,
  ⟨_, _, _, rfl, by decide, (tb_i8 (List.mem_of_getElem? (i := 12) rfl) rfl)⟩,
  ⟨_, _, _, rfl, by decide, (tb_i8 (List.mem_of_getElem? (i := 13) rfl) rfl)⟩,
  ⟨_, _, _, rfl, by decide, (tb_i8 (List.mem_of_getElem? (i := 14) rfl) rfl)⟩,
  ⟨_, _, _, rfl, by decide, (tb_i8 (List.mem_of_getElem? (i := 17) rfl) rfl)⟩,
  ⟨_, _, _, rfl, by decide, (tb_i8 (List.mem_of_getElem? (i := 18) rfl) rfl)⟩,
  ⟨_, _, _, rfl, by decide, (tb_i8 (List.mem_of_getElem? (i := 19) rfl) rfl)⟩,
  ⟨_, _, _, rfl, by decide, (tb_i8 (List.mem_of_getElem? (i := 20) rfl) rfl)⟩,
  ⟨_, _, _, rfl, by decide, (tb_i8 (List.mem_of_getElem? (i := 21) rfl) rfl)⟩,
  ⟨_, _, _, rfl, by decide, (tb_i8 (List.mem_of_getElem? (i := 22) rfl) rfl)⟩,
  ⟨_, _, _, rfl, by decide, (tb_i8 (List.mem_of_getElem? (i := 24) rfl) rfl)⟩,
  ⟨_, _, _, rfl, by decide, (tb_i8 (List.mem_of_getElem? (i := 27) rfl) rfl)⟩,
  ⟨_, _, _, rfl, by decide, (tb_i8 (List.mem_of_getElem? (i := 28) rfl) rfl)⟩,
  ⟨_, _, _, rfl, by decide, (tb_i8 (List.mem_of_getElem? (i := 29) rfl) rfl)⟩,
  ⟨_, _, _, rfl, by decide, (tb_i8 (List.mem_of_getElem? (i := 30) rfl) rfl)⟩,
  ⟨_, _, _, rfl, by decide, (tb_i8 (List.mem_of_getElem? (i := 34) rfl) rfl)⟩,
  ⟨_, _, _, rfl, by decide, (tb_i8 (List.mem_of_getElem? (i := 39) rfl) rfl)⟩,
  ⟨_, _, _, rfl, by decide, (tb_i8 (List.mem_of_getElem? (i := 41) rfl) rfl)⟩,
  ⟨_, _, _, rfl, by decide, (tb_i7 (List.mem_of_getElem? (i := 137) rfl) rfl)⟩,
  ⟨_, _, _, rfl, by decide, (tb_i7 (List.mem_of_getElem? (i := 139) rfl) rfl)⟩,
  ⟨_, _, _, rfl, by decide, (tb_i7 (List.mem_of_getElem? (i := 143) rfl) rfl)⟩,
  ⟨_, _, _, rfl, by decide, (tb_i7 (List.mem_of_getElem? (i := 145) rfl) rfl)⟩,
  ⟨_, _, _, rfl, by decide, (tb_i7 (List.mem_of_getElem? (i := 146) rfl) rfl)⟩,
  ⟨_, _, _, rfl, by decide, (tb_i7 (List.mem_of_getElem? (i := 158) rfl) rfl)⟩,
  ⟨_, _, _, rfl, by decide, (tb_i7 (List.mem_of_getElem? (i := 167) rfl) rfl)⟩,
  ⟨_, _, _, rfl, by decide, (tb_i7 (List.mem_of_getElem? (i := 171) rfl) rfl)⟩,
  ⟨_, _, _, rfl, by decide, (tb_i7 (List.mem_of_getElem? (i := 175) rfl) rfl)⟩,
  ⟨_, _, _, rfl, by decide, (tb_i7 (List.mem_of_getElem? (i := 179) rfl) rfl)⟩,
  ⟨_, _, _, rfl, by decide, (tb_i7 (List.mem_of_getElem? (i := 187) rfl) rfl)⟩,
  ⟨_, _, _, rfl, by decide, (tb_i7 (List.mem_of_getElem? (i := 185) rfl) rfl)⟩,
  ⟨_, _, _, rfl, by decide, (tb_i7 (List.mem_of_getElem? (i := 188) rfl) rfl)⟩,
  ⟨_, _, _, rfl, by decide, (tb_i7 (List.mem_of_getElem? (i := 198) rfl) rfl)⟩,
  ⟨_, _, _, rfl, by decide, (tb_i7 (List.mem_of_getElem? (i := 147) rfl) rfl)⟩,
  ⟨_, _, _, rfl, by decide, (tb_i7 (List.mem_of_getElem? (i := 199) rfl) rfl)⟩,
  ⟨_, _, _, rfl, by decide, (tb_i7 (List.mem_of_getElem? (i := 200) rfl) rfl)⟩,
  ⟨_, _, _, rfl, by decide, (tb_i7 (List.mem_of_getElem? (i := 201) rfl) rfl)⟩,
  ⟨_, _, _, rfl, by decide, (tb_i7 (List.mem_of_getElem? (i := 202) rfl) rfl)⟩,
  ⟨_, _, _, rfl, by decide, (tb_i7 (List.mem_of_getElem? (i := 204) rfl) rfl)⟩,
  ⟨_, _, _, rfl, by decide, (tb_i7 (List.mem_of_getElem? (i := 211) rfl) rfl)⟩,
  ⟨_, _, _, rfl, by decide, (tb_i7 (List.mem_of_getElem? (i := 212) rfl) rfl)⟩,
  ⟨_, _, _, rfl, by decide, (tb_i7 (List.mem_of_getElem? (i := 213) rfl) rfl)⟩,
  ⟨_, _, _, rfl, by decide, (tb_i7 (List.mem_of_getElem? (i := 214) rfl) rfl)⟩,
  ⟨_, _, _, rfl, by decide, (tb_i7 (List.mem_of_getElem? (i := 220) rfl) rfl)⟩,
  ⟨_, _, _, rfl, by decide, (tb_i7 (List.mem_of_getElem? (i := 216) rfl) rfl)⟩,
  ⟨_, _, _, rfl, by decide, (tb_i7 (List.mem_of_getElem? (i := 227) rfl) rfl)⟩,
  ⟨_, _, _, rfl, by decide, (tb_i7 (List.mem_of_getElem? (i := 230) rfl) rfl)⟩,
  ⟨_, _, _, rfl, by decide, (tb_i7 (List.mem_of_getElem? (i := 228) rfl) rfl)⟩,
  ⟨_, _, _, rfl, by decide, (tb_i7 (List.mem_of_getElem? (i := 229) rfl) rfl)⟩,
  ⟨_, _, _, rfl, by decide, (tb_i7 (List.mem_of_getElem? (i := 238) rfl) rfl)⟩,
  ⟨_, _, _, rfl, by decide, (tb_i7 (List.mem_of_getElem? (i := 235) rfl) rfl)⟩,
  ⟨_, _, _, rfl, by decide, (tb_i7 (List.mem_of_getElem? (i := 233) rfl) rfl)⟩,
  ⟨_, _, _, rfl, by decide, (tb_i7 (List.mem_of_getElem? (i := 239) rfl) rfl)⟩,
  ⟨_, _, _, rfl, by decide, (tb_i8 (List.mem_of_getElem? (i := 9) rfl) rfl)⟩,
  ⟨_, _, _, rfl, by decide, (tb_i8 (List.mem_of_getElem? (i := 10) rfl) rfl)⟩,
  ⟨_, _, _, rfl, by decide, (tb_i8 (List.mem_of_getElem? (i := 15) rfl) rfl)⟩,
  ⟨_, _, _, rfl, by decide, (tb_i8 (List.mem_of_getElem? (i := 16) rfl) rfl)⟩,
  ⟨_, _, _, rfl, by decide, (tb_i8 (List.mem_of_getElem? (i := 23) rfl) rfl)⟩,
  ⟨_, _, _, rfl, by decide, (tb_i8 (List.mem_of_getElem? (i := 25) rfl) rfl)⟩,
  ⟨_, _, _, rfl, by decide, (tb_i8 (List.mem_of_getElem? (i := 26) rfl) rfl)⟩,
  ⟨_, _, _, rfl, by decide, (tb_i8 (List.mem_of_getElem? (i := 31) rfl) rfl)⟩,
  ⟨_, _, _, rfl, by decide, (tb_i8 (List.mem_of_getElem? (i := 33) rfl) rfl)⟩,
  ⟨_, _, _, rfl, by decide, (tb_i8 (List.mem_of_getElem? (i := 35) rfl) rfl)⟩,
  ⟨_, _, _, rfl, by decide, (tb_i8 (List.mem_of_getElem? (i := 36) rfl) rfl)⟩,
  ⟨_, _, _, rfl, by decide, (tb_i8 (List.mem_of_getElem? (i := 37) rfl) rfl)⟩,
  ⟨_, _, _, rfl, by decide, (tb_i8 (List.mem_of_getElem? (i := 38) rfl) rfl)⟩,
  ⟨_, _, _, rfl, by decide, (tb_i8 (List.mem_of_getElem? (i := 32) rfl) rfl)⟩,
  ⟨_, _, _, rfl, by decide, (tb_i8 (List.mem_of_getElem? (i := 40) rfl) rfl)⟩,
  trivial⟩
set_option maxRecDepth 20000 in
theorem tb_fl_13 : mm_allL (fun q => (fun (o i : Nat) (v : Nat × Nat) => ∃ C T N, tb_cl[v.1]? = some (C, T, N) ∧ v.2 < N ∧ Cond.fieldLink (tb_cn o) i (T v.2).1 (T v.2).2.1 (T v.2).2.2.1 ∈ tb_TB) 13 q.1 q.2) ((tb_FL[13]?).getD []) := trivial
set_option maxRecDepth 20000 in
theorem tb_fl_14 : mm_allL (fun q => (fun (o i : Nat) (v : Nat × Nat) => ∃ C T N, tb_cl[v.1]? = some (C, T, N) ∧ v.2 < N ∧ Cond.fieldLink (tb_cn o) i (T v.2).1 (T v.2).2.1 (T v.2).2.2.1 ∈ tb_TB) 14 q.1 q.2) ((tb_FL[14]?).getD []) := trivial
set_option maxRecDepth 20000 in
theorem tb_fl_15 : mm_allL (fun q => (fun (o i : Nat) (v : Nat × Nat) => ∃ C T N, tb_cl[v.1]? = some (C, T, N) ∧ v.2 < N ∧ Cond.fieldLink (tb_cn o) i (T v.2).1 (T v.2).2.1 (T v.2).2.2.1 ∈ tb_TB) 15 q.1 q.2) ((tb_FL[15]?).getD []) := trivial
set_option maxRecDepth 20000 in
theorem tb_fl_16 : mm_allL (fun q => (fun (o i : Nat) (v : Nat × Nat) => ∃ C T N, tb_cl[v.1]? = some (C, T, N) ∧ v.2 < N ∧ Cond.fieldLink (tb_cn o) i (T v.2).1 (T v.2).2.1 (T v.2).2.2.1 ∈ tb_TB) 16 q.1 q.2) ((tb_FL[16]?).getD []) := trivial
set_option maxRecDepth 20000 in
theorem tb_fl_17 : mm_allL (fun q => (fun (o i : Nat) (v : Nat × Nat) => ∃ C T N, tb_cl[v.1]? = some (C, T, N) ∧ v.2 < N ∧ Cond.fieldLink (tb_cn o) i (T v.2).1 (T v.2).2.1 (T v.2).2.2.1 ∈ tb_TB) 17 q.1 q.2) ((tb_FL[17]?).getD []) := trivial
set_option maxRecDepth 20000 in
theorem tb_fl_18 : mm_allL (fun q => (fun (o i : Nat) (v : Nat × Nat) => ∃ C T N, tb_cl[v.1]? = some (C, T, N) ∧ v.2 < N ∧ Cond.fieldLink (tb_cn o) i (T v.2).1 (T v.2).2.1 (T v.2).2.2.1 ∈ tb_TB) 18 q.1 q.2) ((tb_FL[18]?).getD []) := trivial
set_option maxRecDepth 20000 in
theorem tb_fl_19 : mm_allL (fun q => (fun (o i : Nat) (v : Nat × Nat) => ∃ C T N, tb_cl[v.1]? = some (C, T, N) ∧ v.2 < N ∧ Cond.fieldLink (tb_cn o) i (T v.2).1 (T v.2).2.1 (T v.2).2.2.1 ∈ tb_TB) 19 q.1 q.2) ((tb_FL[19]?).getD []) := trivial
set_option maxRecDepth 20000 in
theorem tb_fl_all : mm_all2P (fun (o i : Nat) (v : Nat × Nat) => ∃ C T N, tb_cl[v.1]? = some (C, T, N) ∧ v.2 < N ∧ Cond.fieldLink (tb_cn o) i (T v.2).1 (T v.2).2.1 (T v.2).2.2.1 ∈ tb_TB) 0 tb_FL := ⟨tb_fl_0, tb_fl_1, tb_fl_2, tb_fl_3, tb_fl_4, tb_fl_5, tb_fl_6, tb_fl_7, tb_fl_8, tb_fl_9, tb_fl_10, tb_fl_11, tb_fl_12, tb_fl_13, tb_fl_14, tb_fl_15, tb_fl_16, tb_fl_17, tb_fl_18, tb_fl_19, trivial⟩
theorem tb_v0 : (∀ x ∈ tb_V0, ∀ q, x ≠ .ref q) ∧ ∀ j, j < 12 → defaultValue (tb_ft 0 j).1 = vp_V tb_V0 j := ⟨mm_noref (by decide), mm_dfl (by decide)⟩
theorem tb_v1 : (∀ x ∈ tb_V1, ∀ q, x ≠ .ref q) ∧ ∀ j, j < 10 → defaultValue (tb_ft 1 j).1 = vp_V tb_V1 j := ⟨mm_noref (by decide), mm_dfl (by decide)⟩
theorem tb_v2 : (∀ x ∈ tb_V2, ∀ q, x ≠ .ref q) ∧ ∀ j, j < 3 → defaultValue (tb_ft 2 j).1 = vp_V tb_V2 j := ⟨mm_noref (by decide), mm_dfl (by decide)⟩
theorem tb_v3 : (∀ x ∈ tb_V3, ∀ q, x ≠ .ref q) ∧ ∀ j, j < 7 → defaultValue (tb_ft 3 j).1 = vp_V tb_V3 j := ⟨mm_noref (by decide), mm_dfl (by decide)⟩
theorem tb_v4 : (∀ x ∈ tb_V4, ∀ q, x ≠ .ref q) ∧ ∀ j, j < 2 → defaultValue (tb_ft 4 j).1 = vp_V tb_V4 j := ⟨mm_noref (by decide), mm_dfl (by decide)⟩
theorem tb_v5 : (∀ x ∈ tb_V5, ∀ q, x ≠ .ref q) ∧ ∀ j, j < 14 → defaultValue (tb_ft 5 j).1 = vp_V tb_V5 j := ⟨mm_noref (by decide), mm_dfl (by decide)⟩
theorem tb_v6 : (∀ x ∈ tb_V6, ∀ q, x ≠ .ref q) ∧ ∀ j, j < 15 → defaultValue (tb_ft 6 j).1 = vp_V tb_V6 j := ⟨mm_noref (by decide), mm_dfl (by decide)⟩
theorem tb_v7 : (∀ x ∈ tb_V7, ∀ q, x ≠ .ref q) ∧ ∀ j, j < 7 → defaultValue (tb_ft 7 j).1 = vp_V tb_V7 j := ⟨mm_noref (by decide), mm_dfl (by decide)⟩
theorem tb_v8 : (∀ x ∈ tb_V8, ∀ q, x ≠ .ref q) ∧ ∀ j, j < 4 → defaultValue (tb_ft 8 j).1 = vp_V tb_V8 j := ⟨mm_noref (by decide), mm_dfl (by decide)⟩
theorem tb_v9 : (∀ x ∈ tb_V9, ∀ q, x ≠ .ref q) ∧ ∀ j, j < 14 → defaultValue (tb_ft 9 j).1 = vp_V tb_V9 j := ⟨mm_noref (by decide), mm_dfl (by decide)⟩
theorem tb_v10 : (∀ x ∈ tb_V10, ∀ q, x ≠ .ref q) ∧ ∀ j, j < 11 → defaultValue (tb_ft 10 j).1 = vp_V tb_V10 j := ⟨mm_noref (by decide), mm_dfl (by decide)⟩
theorem tb_v11 : (∀ x ∈ tb_V11, ∀ q, x ≠ .ref q) ∧ ∀ j, j < 5 → defaultValue (tb_ft 11 j).1 = vp_V tb_V11 j := ⟨mm_noref (by decide), mm_dfl (by decide)⟩
theorem tb_v12 : (∀ x ∈ tb_V12, ∀ q, x ≠ .ref q) ∧ ∀ j, j < 145 → defaultValue (tb_ft 12 j).1 = vp_V tb_V12 j := ⟨mm_noref (by decide), mm_dfl (by decide)⟩
set_option maxRecDepth 20000 in
theorem tb_nl_0 : mm_allL (fun q => (fun (o i : Nat) (v : Nat × List Value) => ∃ C T N, tb_cl[v.1]? = some (C, T, N) ∧ Cond.classLink (tb_cn o) i C ∈ tb_TB ∧ Cond.instantiable C N ∈ tb_TB ∧ Cond.initialized C ∈ tb_TB ∧ v.2.length = N ∧ (∀ x ∈ v.2, ∀ q, x ≠ .ref q) ∧ ∀ j, j < N → defaultValue (tb_ft v.1 j).1 = vp_V v.2 j) 0 q.1 q.2) ((tb_NL[0]?).getD []) := ⟨⟨_, _, _, rfl, (tb_i1 (List.mem_of_getElem? (i := 35) rfl) rfl), (tb_i1 (List.mem_of_getElem? (i := 36) rfl) rfl), (tb_i1 (List.mem_of_getElem? (i := 2) rfl) rfl), rfl, tb_v1.1, tb_v1.2⟩,
  ⟨_, _, _, rfl, (tb_i1 (List.mem_of_getElem? (i := 78) rfl) rfl), (tb_i1 (List.mem_of_getElem? (i := 79) rfl) rfl), (tb_i1 (List.mem_of_getElem? (i := 3) rfl) rfl), rfl, tb_v2.1, tb_v2.2⟩,
  ⟨_, _, _, rfl, (tb_i1 (List.mem_of_getElem? (i := 95) rfl) rfl), (tb_i2 (List.mem_of_getElem? (i := 179) rfl) rfl), (tb_i1 (List.mem_of_getElem? (i := 17) rfl) rfl), rfl, tb_v10.1, tb_v10.2⟩,
  ⟨_, _, _, rfl, (tb_i1 (List.mem_of_getElem? (i := 97) rfl) rfl), (tb_i1 (List.mem_of_getElem? (i := 98) rfl) rfl), (tb_i1 (List.mem_of_getElem? (i := 4) rfl) rfl), rfl, tb_v6.1, tb_v6.2⟩,
  ⟨_, _, _, rfl, (tb_i2 (List.mem_of_getElem? (i := 21) rfl) rfl), (tb_i2 (List.mem_of_getElem? (i := 22) rfl) rfl), (tb_i1 (List.mem_of_getElem? (i := 9) rfl) rfl), rfl, tb_v7.1, tb_v7.2⟩,
  ⟨_, _, _, rfl, (tb_i2 (List.mem_of_getElem? (i := 54) rfl) rfl), (tb_i2 (List.mem_of_getElem? (i := 55) rfl) rfl), (tb_i1 (List.mem_of_getElem? (i := 10) rfl) rfl), rfl, tb_v8.1, tb_v8.2⟩,
  ⟨_, _, _, rfl, (tb_i2 (List.mem_of_getElem? (i := 73) rfl) rfl), (tb_i2 (List.mem_of_getElem? (i := 74) rfl) rfl), (tb_i1 (List.mem_of_getElem? (i := 11) rfl) rfl), rfl, tb_v9.1, tb_v9.2⟩,
  ⟨_, _, _, rfl, (tb_i2 (List.mem_of_getElem? (i := 122) rfl) rfl), (tb_i1 (List.mem_of_getElem? (i := 104) rfl) rfl), (tb_i1 (List.mem_of_getElem? (i := 5) rfl) rfl), rfl, tb_v5.1, tb_v5.2⟩,
  ⟨_, _, _, rfl, (tb_i2 (List.mem_of_getElem? (i := 124) rfl) rfl), (tb_i1 (List.mem_of_getElem? (i := 143) rfl) rfl), (tb_i1 (List.mem_of_getElem? (i := 8) rfl) rfl), rfl, tb_v4.1, tb_v4.2⟩,
  trivial⟩
set_option maxRecDepth 20000 in
theorem tb_nl_1 : mm_allL (fun q => (fun (o i : Nat) (v : Nat × List Value) => ∃ C T N, tb_cl[v.1]? = some (C, T, N) ∧ Cond.classLink (tb_cn o) i C ∈ tb_TB ∧ Cond.instantiable C N ∈ tb_TB ∧ Cond.initialized C ∈ tb_TB ∧ v.2.length = N ∧ (∀ x ∈ v.2, ∀ q, x ≠ .ref q) ∧ ∀ j, j < N → defaultValue (tb_ft v.1 j).1 = vp_V v.2 j) 1 q.1 q.2) ((tb_NL[1]?).getD []) := trivial
set_option maxRecDepth 20000 in
theorem tb_nl_2 : mm_allL (fun q => (fun (o i : Nat) (v : Nat × List Value) => ∃ C T N, tb_cl[v.1]? = some (C, T, N) ∧ Cond.classLink (tb_cn o) i C ∈ tb_TB ∧ Cond.instantiable C N ∈ tb_TB ∧ Cond.initialized C ∈ tb_TB ∧ v.2.length = N ∧ (∀ x ∈ v.2, ∀ q, x ≠ .ref q) ∧ ∀ j, j < N → defaultValue (tb_ft v.1 j).1 = vp_V v.2 j) 2 q.1 q.2) ((tb_NL[2]?).getD []) := trivial
set_option maxRecDepth 20000 in
theorem tb_nl_3 : mm_allL (fun q => (fun (o i : Nat) (v : Nat × List Value) => ∃ C T N, tb_cl[v.1]? = some (C, T, N) ∧ Cond.classLink (tb_cn o) i C ∈ tb_TB ∧ Cond.instantiable C N ∈ tb_TB ∧ Cond.initialized C ∈ tb_TB ∧ v.2.length = N ∧ (∀ x ∈ v.2, ∀ q, x ≠ .ref q) ∧ ∀ j, j < N → defaultValue (tb_ft v.1 j).1 = vp_V v.2 j) 3 q.1 q.2) ((tb_NL[3]?).getD []) := trivial
set_option maxRecDepth 20000 in
theorem tb_nl_4 : mm_allL (fun q => (fun (o i : Nat) (v : Nat × List Value) => ∃ C T N, tb_cl[v.1]? = some (C, T, N) ∧ Cond.classLink (tb_cn o) i C ∈ tb_TB ∧ Cond.instantiable C N ∈ tb_TB ∧ Cond.initialized C ∈ tb_TB ∧ v.2.length = N ∧ (∀ x ∈ v.2, ∀ q, x ≠ .ref q) ∧ ∀ j, j < N → defaultValue (tb_ft v.1 j).1 = vp_V v.2 j) 4 q.1 q.2) ((tb_NL[4]?).getD []) := trivial
set_option maxRecDepth 20000 in
theorem tb_nl_5 : mm_allL (fun q => (fun (o i : Nat) (v : Nat × List Value) => ∃ C T N, tb_cl[v.1]? = some (C, T, N) ∧ Cond.classLink (tb_cn o) i C ∈ tb_TB ∧ Cond.instantiable C N ∈ tb_TB ∧ Cond.initialized C ∈ tb_TB ∧ v.2.length = N ∧ (∀ x ∈ v.2, ∀ q, x ≠ .ref q) ∧ ∀ j, j < N → defaultValue (tb_ft v.1 j).1 = vp_V v.2 j) 5 q.1 q.2) ((tb_NL[5]?).getD []) := ⟨⟨_, _, _, rfl, (tb_i1 (List.mem_of_getElem? (i := 109) rfl) rfl), (tb_i1 (List.mem_of_getElem? (i := 110) rfl) rfl), (tb_i1 (List.mem_of_getElem? (i := 6) rfl) rfl), rfl, tb_v3.1, tb_v3.2⟩,
  ⟨_, _, _, rfl, (tb_i1 (List.mem_of_getElem? (i := 141) rfl) rfl), (tb_i1 (List.mem_of_getElem? (i := 143) rfl) rfl), (tb_i1 (List.mem_of_getElem? (i := 8) rfl) rfl), rfl, tb_v4.1, tb_v4.2⟩,
  trivial⟩
set_option maxRecDepth 20000 in
theorem tb_nl_6 : mm_allL (fun q => (fun (o i : Nat) (v : Nat × List Value) => ∃ C T N, tb_cl[v.1]? = some (C, T, N) ∧ Cond.classLink (tb_cn o) i C ∈ tb_TB ∧ Cond.instantiable C N ∈ tb_TB ∧ Cond.initialized C ∈ tb_TB ∧ v.2.length = N ∧ (∀ x ∈ v.2, ∀ q, x ≠ .ref q) ∧ ∀ j, j < N → defaultValue (tb_ft v.1 j).1 = vp_V v.2 j) 6 q.1 q.2) ((tb_NL[6]?).getD []) := ⟨⟨_, _, _, rfl, (tb_i1 (List.mem_of_getElem? (i := 103) rfl) rfl), (tb_i1 (List.mem_of_getElem? (i := 104) rfl) rfl), (tb_i1 (List.mem_of_getElem? (i := 5) rfl) rfl), rfl, tb_v5.1, tb_v5.2⟩,
  ⟨_, _, _, rfl, (tb_i1 (List.mem_of_getElem? (i := 211) rfl) rfl), (tb_i1 (List.mem_of_getElem? (i := 143) rfl) rfl), (tb_i1 (List.mem_of_getElem? (i := 8) rfl) rfl), rfl, tb_v4.1, tb_v4.2⟩,
  ⟨_, _, _, rfl, (tb_i1 (List.mem_of_getElem? (i := 212) rfl) rfl), (tb_i4 (List.mem_of_getElem? (i := 158) rfl) rfl), (tb_i1 (List.mem_of_getElem? (i := 23) rfl) rfl), rfl, tb_v11.1, tb_v11.2⟩,
  ⟨_, _, _, rfl, (tb_i4 (List.mem_of_getElem? (i := 141) rfl) rfl), (tb_i2 (List.mem_of_getElem? (i := 179) rfl) rfl), (tb_i1 (List.mem_of_getElem? (i := 17) rfl) rfl), rfl, tb_v10.1, tb_v10.2⟩,
  trivial⟩
set_option maxRecDepth 20000 in
theorem tb_nl_7 : mm_allL (fun q => (fun (o i : Nat) (v : Nat × List Value) => ∃ C T N, tb_cl[v.1]? = some (C, T, N) ∧ Cond.classLink (tb_cn o) i C ∈ tb_TB ∧ Cond.instantiable C N ∈ tb_TB ∧ Cond.initialized C ∈ tb_TB ∧ v.2.length = N ∧ (∀ x ∈ v.2, ∀ q, x ≠ .ref q) ∧ ∀ j, j < N → defaultValue (tb_ft v.1 j).1 = vp_V v.2 j) 7 q.1 q.2) ((tb_NL[7]?).getD []) := trivial
set_option maxRecDepth 20000 in
theorem tb_nl_8 : mm_allL (fun q => (fun (o i : Nat) (v : Nat × List Value) => ∃ C T N, tb_cl[v.1]? = some (C, T, N) ∧ Cond.classLink (tb_cn o) i C ∈ tb_TB ∧ Cond.instantiable C N ∈ tb_TB ∧ Cond.initialized C ∈ tb_TB ∧ v.2.length = N ∧ (∀ x ∈ v.2, ∀ q, x ≠ .ref q) ∧ ∀ j, j < N → defaultValue (tb_ft v.1 j).1 = vp_V v.2 j) 8 q.1 q.2) ((tb_NL[8]?).getD []) := trivial
set_option maxRecDepth 20000 in
theorem tb_nl_9 : mm_allL (fun q => (fun (o i : Nat) (v : Nat × List Value) => ∃ C T N, tb_cl[v.1]? = some (C, T, N) ∧ Cond.classLink (tb_cn o) i C ∈ tb_TB ∧ Cond.instantiable C N ∈ tb_TB ∧ Cond.initialized C ∈ tb_TB ∧ v.2.length = N ∧ (∀ x ∈ v.2, ∀ q, x ≠ .ref q) ∧ ∀ j, j < N → defaultValue (tb_ft v.1 j).1 = vp_V v.2 j) 9 q.1 q.2) ((tb_NL[9]?).getD []) := trivial
set_option maxRecDepth 20000 in
theorem tb_nl_10 : mm_allL (fun q => (fun (o i : Nat) (v : Nat × List Value) => ∃ C T N, tb_cl[v.1]? = some (C, T, N) ∧ Cond.classLink (tb_cn o) i C ∈ tb_TB ∧ Cond.instantiable C N ∈ tb_TB ∧ Cond.initialized C ∈ tb_TB ∧ v.2.length = N ∧ (∀ x ∈ v.2, ∀ q, x ≠ .ref q) ∧ ∀ j, j < N → defaultValue (tb_ft v.1 j).1 = vp_V v.2 j) 10 q.1 q.2) ((tb_NL[10]?).getD []) := trivial
set_option maxRecDepth 20000 in
theorem tb_nl_11 : mm_allL (fun q => (fun (o i : Nat) (v : Nat × List Value) => ∃ C T N, tb_cl[v.1]? = some (C, T, N) ∧ Cond.classLink (tb_cn o) i C ∈ tb_TB ∧ Cond.instantiable C N ∈ tb_TB ∧ Cond.initialized C ∈ tb_TB ∧ v.2.length = N ∧ (∀ x ∈ v.2, ∀ q, x ≠ .ref q) ∧ ∀ j, j < N → defaultValue (tb_ft v.1 j).1 = vp_V v.2 j) 11 q.1 q.2) ((tb_NL[11]?).getD []) := ⟨⟨_, _, _, rfl, (tb_i4 (List.mem_of_getElem? (i := 163) rfl) rfl), (tb_i1 (List.mem_of_getElem? (i := 143) rfl) rfl), (tb_i1 (List.mem_of_getElem? (i := 8) rfl) rfl), rfl, tb_v4.1, tb_v4.2⟩,
  trivial⟩
set_option maxRecDepth 20000 in
theorem tb_nl_12 : mm_allL (fun q => (fun (o i : Nat) (v : Nat × List Value) => ∃ C T N, tb_cl[v.1]? = some (C, T, N) ∧ Cond.classLink (tb_cn o) i C ∈ tb_TB ∧ Cond.instantiable C N ∈ tb_TB ∧ Cond.initialized C ∈ tb_TB ∧ v.2.length = N ∧ (∀ x ∈ v.2, ∀ q, x ≠ .ref q) ∧ ∀ j, j < N → defaultValue (tb_ft v.1 j).1 = vp_V v.2 j) 12 q.1 q.2) ((tb_NL[12]?).getD []) := trivial
set_option maxRecDepth 20000 in
theorem tb_nl_13 : mm_allL (fun q => (fun (o i : Nat) (v : Nat × List Value) => ∃ C T N, tb_cl[v.1]? = some (C, T, N) ∧ Cond.classLink (tb_cn o) i C ∈ tb_TB ∧ Cond.instantiable C N ∈ tb_TB ∧ Cond.initialized C ∈ tb_TB ∧ v.2.length = N ∧ (∀ x ∈ v.2, ∀ q, x ≠ .ref q) ∧ ∀ j, j < N → defaultValue (tb_ft v.1 j).1 = vp_V v.2 j) 13 q.1 q.2) ((tb_NL[13]?).getD []) := trivial
set_option maxRecDepth 20000 in
theorem tb_nl_14 : mm_allL (fun q => (fun (o i : Nat) (v : Nat × List Value) => ∃ C T N, tb_cl[v.1]? = some (C, T, N) ∧ Cond.classLink (tb_cn o) i C ∈ tb_TB ∧ Cond.instantiable C N ∈ tb_TB ∧ Cond.initialized C ∈ tb_TB ∧ v.2.length = N ∧ (∀ x ∈ v.2, ∀ q, x ≠ .ref q) ∧ ∀ j, j < N → defaultValue (tb_ft v.1 j).1 = vp_V v.2 j) 14 q.1 q.2) ((tb_NL[14]?).getD []) := trivial
set_option maxRecDepth 20000 in
theorem tb_nl_15 : mm_allL (fun q => (fun (o i : Nat) (v : Nat × List Value) => ∃ C T N, tb_cl[v.1]? = some (C, T, N) ∧ Cond.classLink (tb_cn o) i C ∈ tb_TB ∧ Cond.instantiable C N ∈ tb_TB ∧ Cond.initialized C ∈ tb_TB ∧ v.2.length = N ∧ (∀ x ∈ v.2, ∀ q, x ≠ .ref q) ∧ ∀ j, j < N → defaultValue (tb_ft v.1 j).1 = vp_V v.2 j) 15 q.1 q.2) ((tb_NL[15]?).getD []) := ⟨⟨_, _, _, rfl, (tb_i1 (List.mem_of_getElem? (i := 27) rfl) rfl), (tb_i1 (List.mem_of_getElem? (i := 28) rfl) rfl), (tb_i1 (List.mem_of_getElem? (i := 1) rfl) rfl), rfl, tb_v0.1, tb_v0.2⟩,
  ⟨_, _, _, rfl, (tb_i7 (List.mem_of_getElem? (i := 131) rfl) rfl), (tb_i7 (List.mem_of_getElem? (i := 132) rfl) rfl), (tb_i1 (List.mem_of_getElem? (i := 12) rfl) rfl), rfl, tb_v12.1, tb_v12.2⟩,
  trivial⟩
set_option maxRecDepth 20000 in
theorem tb_nl_16 : mm_allL (fun q => (fun (o i : Nat) (v : Nat × List Value) => ∃ C T N, tb_cl[v.1]? = some (C, T, N) ∧ Cond.classLink (tb_cn o) i C ∈ tb_TB ∧ Cond.instantiable C N ∈ tb_TB ∧ Cond.initialized C ∈ tb_TB ∧ v.2.length = N ∧ (∀ x ∈ v.2, ∀ q, x ≠ .ref q) ∧ ∀ j, j < N → defaultValue (tb_ft v.1 j).1 = vp_V v.2 j) 16 q.1 q.2) ((tb_NL[16]?).getD []) := trivial
set_option maxRecDepth 20000 in
theorem tb_nl_17 : mm_allL (fun q => (fun (o i : Nat) (v : Nat × List Value) => ∃ C T N, tb_cl[v.1]? = some (C, T, N) ∧ Cond.classLink (tb_cn o) i C ∈ tb_TB ∧ Cond.instantiable C N ∈ tb_TB ∧ Cond.initialized C ∈ tb_TB ∧ v.2.length = N ∧ (∀ x ∈ v.2, ∀ q, x ≠ .ref q) ∧ ∀ j, j < N → defaultValue (tb_ft v.1 j).1 = vp_V v.2 j) 17 q.1 q.2) ((tb_NL[17]?).getD []) := trivial
set_option maxRecDepth 20000 in
theorem tb_nl_18 : mm_allL (fun q => (fun (o i : Nat) (v : Nat × List Value) => ∃ C T N, tb_cl[v.1]? = some (C, T, N) ∧ Cond.classLink (tb_cn o) i C ∈ tb_TB ∧ Cond.instantiable C N ∈ tb_TB ∧ Cond.initialized C ∈ tb_TB ∧ v.2.length = N ∧ (∀ x ∈ v.2, ∀ q, x ≠ .ref q) ∧ ∀ j, j < N → defaultValue (tb_ft v.1 j).1 = vp_V v.2 j) 18 q.1 q.2) ((tb_NL[18]?).getD []) := trivial
set_option maxRecDepth 20000 in
theorem tb_nl_19 : mm_allL (fun q => (fun (o i : Nat) (v : Nat × List Value) => ∃ C T N, tb_cl[v.1]? = some (C, T, N) ∧ Cond.classLink (tb_cn o) i C ∈ tb_TB ∧ Cond.instantiable C N ∈ tb_TB ∧ Cond.initialized C ∈ tb_TB ∧ v.2.length = N ∧ (∀ x ∈ v.2, ∀ q, x ≠ .ref q) ∧ ∀ j, j < N → defaultValue (tb_ft v.1 j).1 = vp_V v.2 j) 19 q.1 q.2) ((tb_NL[19]?).getD []) := trivial
set_option maxRecDepth 20000 in
theorem tb_nl_all : mm_all2P (fun (o i : Nat) (v : Nat × List Value) => ∃ C T N, tb_cl[v.1]? = some (C, T, N) ∧ Cond.classLink (tb_cn o) i C ∈ tb_TB ∧ Cond.instantiable C N ∈ tb_TB ∧ Cond.initialized C ∈ tb_TB ∧ v.2.length = N ∧ (∀ x ∈ v.2, ∀ q, x ≠ .ref q) ∧ ∀ j, j < N → defaultValue (tb_ft v.1 j).1 = vp_V v.2 j) 0 tb_NL := ⟨tb_nl_0, tb_nl_1, tb_nl_2, tb_nl_3, tb_nl_4, tb_nl_5, tb_nl_6, tb_nl_7, tb_nl_8, tb_nl_9, tb_nl_10, tb_nl_11, tb_nl_12, tb_nl_13, tb_nl_14, tb_nl_15, tb_nl_16, tb_nl_17, tb_nl_18, tb_nl_19, trivial⟩
set_option maxRecDepth 20000 in
theorem tb_al_0 : mm_allL (fun q => (fun (o i : Nat) (t : Nat) => (∃ C, tb_tyl[t]? = some (.object C) ∧ Cond.classLink (tb_cn o) i C ∈ tb_TB ∧ Cond.arrayOver (.object C) ∈ tb_TB) ∨ (∃ y, tb_tyl[t]? = some (.array y) ∧ Cond.classLink (tb_cn o) i (FieldType.array y).toString ∈ tb_TB ∧ Cond.arrayOver (.array y) ∈ tb_TB)) 0 q.1 q.2) ((tb_AL[0]?).getD []) := ⟨Or.inl ⟨_, rfl, (tb_i1 (List.mem_of_getElem? (i := 95) rfl) rfl), (tb_i1 (List.mem_of_getElem? (i := 96) rfl) rfl)⟩,
  trivial⟩
set_option maxRecDepth 20000 in
theorem tb_al_1 : mm_allL (fun q => (fun (o i : Nat) (t : Nat) => (∃ C, tb_tyl[t]? = some (.object C) ∧ Cond.classLink (tb_cn o) i C ∈ tb_TB ∧ Cond.arrayOver (.object C) ∈ tb_TB) ∨ (∃ y, tb_tyl[t]? = some (.array y) ∧ Cond.classLink (tb_cn o) i (FieldType.array y).toString ∈ tb_TB ∧ Cond.arrayOver (.array y) ∈ tb_TB)) 1 q.1 q.2) ((tb_AL[1]?).getD []) := trivial
set_option maxRecDepth 20000 in
theorem tb_al_2 : mm_allL (fun q => (fun (o i : Nat) (t : Nat) => (∃ C, tb_tyl[t]? = some (.object C) ∧ Cond.classLink (tb_cn o) i C ∈ tb_TB ∧ Cond.arrayOver (.object C) ∈ tb_TB) ∨ (∃ y, tb_tyl[t]? = some (.array y) ∧ Cond.classLink (tb_cn o) i (FieldType.array y).toString ∈ tb_TB ∧ Cond.arrayOver (.array y) ∈ tb_TB)) 2 q.1 q.2) ((tb_AL[2]?).getD []) := trivial
set_option maxRecDepth 20000 in
theorem tb_al_3 : mm_allL (fun q => (fun (o i : Nat) (t : Nat) => (∃ C, tb_tyl[t]? = some (.object C) ∧ Cond.classLink (tb_cn o) i C ∈ tb_TB ∧ Cond.arrayOver (.object C) ∈ tb_TB) ∨ (∃ y, tb_tyl[t]? = some (.array y) ∧ Cond.classLink (tb_cn o) i (FieldType.array y).toString ∈ tb_TB ∧ Cond.arrayOver (.array y) ∈ tb_TB)) 3 q.1 q.2) ((tb_AL[3]?).getD []) := trivial
set_option maxRecDepth 20000 in
theorem tb_al_4 : mm_allL (fun q => (fun (o i : Nat) (t : Nat) => (∃ C, tb_tyl[t]? = some (.object C) ∧ Cond.classLink (tb_cn o) i C ∈ tb_TB ∧ Cond.arrayOver (.object C) ∈ tb_TB) ∨ (∃ y, tb_tyl[t]? = some (.array y) ∧ Cond.classLink (tb_cn o) i (FieldType.array y).toString ∈ tb_TB ∧ Cond.arrayOver (.array y) ∈ tb_TB)) 4 q.1 q.2) ((tb_AL[4]?).getD []) := trivial
set_option maxRecDepth 20000 in
theorem tb_al_5 : mm_allL (fun q => (fun (o i : Nat) (t : Nat) => (∃ C, tb_tyl[t]? = some (.object C) ∧ Cond.classLink (tb_cn o) i C ∈ tb_TB ∧ Cond.arrayOver (.object C) ∈ tb_TB) ∨ (∃ y, tb_tyl[t]? = some (.array y) ∧ Cond.classLink (tb_cn o) i (FieldType.array y).toString ∈ tb_TB ∧ Cond.arrayOver (.array y) ∈ tb_TB)) 5 q.1 q.2) ((tb_AL[5]?).getD []) := ⟨Or.inl ⟨_, rfl, (tb_i1 (List.mem_of_getElem? (i := 141) rfl) rfl), (tb_i1 (List.mem_of_getElem? (i := 142) rfl) rfl)⟩,
  trivial⟩
set_option maxRecDepth 20000 in
theorem tb_al_6 : mm_allL (fun q => (fun (o i : Nat) (t : Nat) => (∃ C, tb_tyl[t]? = some (.object C) ∧ Cond.classLink (tb_cn o) i C ∈ tb_TB ∧ Cond.arrayOver (.object C) ∈ tb_TB) ∨ (∃ y, tb_tyl[t]? = some (.array y) ∧ Cond.classLink (tb_cn o) i (FieldType.array y).toString ∈ tb_TB ∧ Cond.arrayOver (.array y) ∈ tb_TB)) 6 q.1 q.2) ((tb_AL[6]?).getD []) := ⟨Or.inl ⟨_, rfl, (tb_i1 (List.mem_of_getElem? (i := 211) rfl) rfl), (tb_i1 (List.mem_of_getElem? (i := 142) rfl) rfl)⟩,
  Or.inl ⟨_, rfl, (tb_i1 (List.mem_of_getElem? (i := 212) rfl) rfl), (tb_i1 (List.mem_of_getElem? (i := 213) rfl) rfl)⟩,
  trivial⟩
set_option maxRecDepth 20000 in
theorem tb_al_7 : mm_allL (fun q => (fun (o i : Nat) (t : Nat) => (∃ C, tb_tyl[t]? = some (.object C) ∧ Cond.classLink (tb_cn o) i C ∈ tb_TB ∧ Cond.arrayOver (.object C) ∈ tb_TB) ∨ (∃ y, tb_tyl[t]? = some (.array y) ∧ Cond.classLink (tb_cn o) i (FieldType.array y).toString ∈ tb_TB ∧ Cond.arrayOver (.array y) ∈ tb_TB)) 7 q.1 q.2) ((tb_AL[7]?).getD []) := ⟨Or.inr ⟨_, rfl, (show Cond.classLink (tb_cn 7) 11 "[I" ∈ tb_TB from (tb_i2 (List.mem_of_getElem? (i := 27) rfl) rfl)), (tb_i2 (List.mem_of_getElem? (i := 28) rfl) rfl)⟩,
  trivial⟩
set_option maxRecDepth 20000 in
theorem tb_al_8 : mm_allL (fun q => (fun (o i : Nat) (t : Nat) => (∃ C, tb_tyl[t]? = some (.object C) ∧ Cond.classLink (tb_cn o) i C ∈ tb_TB ∧ Cond.arrayOver (.object C) ∈ tb_TB) ∨ (∃ y, tb_tyl[t]? = some (.array y) ∧ Cond.classLink (tb_cn o) i (FieldType.array y).toString ∈ tb_TB ∧ Cond.arrayOver (.array y) ∈ tb_TB)) 8 q.1 q.2) ((tb_AL[8]?).getD []) := trivial
set_option maxRecDepth 20000 in
theorem tb_al_9 : mm_allL (fun q => (fun (o i : Nat) (t : Nat) => (∃ C, tb_tyl[t]? = some (.object C) ∧ Cond.classLink (tb_cn o) i C ∈ tb_TB ∧ Cond.arrayOver (.object C) ∈ tb_TB) ∨ (∃ y, tb_tyl[t]? = some (.array y) ∧ Cond.classLink (tb_cn o) i (FieldType.array y).toString ∈ tb_TB ∧ Cond.arrayOver (.array y) ∈ tb_TB)) 9 q.1 q.2) ((tb_AL[9]?).getD []) := trivial
set_option maxRecDepth 20000 in
theorem tb_al_10 : mm_allL (fun q => (fun (o i : Nat) (t : Nat) => (∃ C, tb_tyl[t]? = some (.object C) ∧ Cond.classLink (tb_cn o) i C ∈ tb_TB ∧ Cond.arrayOver (.object C) ∈ tb_TB) ∨ (∃ y, tb_tyl[t]? = some (.array y) ∧ Cond.classLink (tb_cn o) i (FieldType.array y).toString ∈ tb_TB ∧ Cond.arrayOver (.array y) ∈ tb_TB)) 10 q.1 q.2) ((tb_AL[10]?).getD []) := trivial
set_option maxRecDepth 20000 in
theorem tb_al_11 : mm_allL (fun q => (fun (o i : Nat) (t : Nat) => (∃ C, tb_tyl[t]? = some (.object C) ∧ Cond.classLink (tb_cn o) i C ∈ tb_TB ∧ Cond.arrayOver (.object C) ∈ tb_TB) ∨ (∃ y, tb_tyl[t]? = some (.array y) ∧ Cond.classLink (tb_cn o) i (FieldType.array y).toString ∈ tb_TB ∧ Cond.arrayOver (.array y) ∈ tb_TB)) 11 q.1 q.2) ((tb_AL[11]?).getD []) := ⟨Or.inl ⟨_, rfl, (tb_i4 (List.mem_of_getElem? (i := 163) rfl) rfl), (tb_i1 (List.mem_of_getElem? (i := 142) rfl) rfl)⟩,
  trivial⟩
set_option maxRecDepth 20000 in
theorem tb_al_12 : mm_allL (fun q => (fun (o i : Nat) (t : Nat) => (∃ C, tb_tyl[t]? = some (.object C) ∧ Cond.classLink (tb_cn o) i C ∈ tb_TB ∧ Cond.arrayOver (.object C) ∈ tb_TB) ∨ (∃ y, tb_tyl[t]? = some (.array y) ∧ Cond.classLink (tb_cn o) i (FieldType.array y).toString ∈ tb_TB ∧ Cond.arrayOver (.array y) ∈ tb_TB)) 12 q.1 q.2) ((tb_AL[12]?).getD []) := trivial
set_option maxRecDepth 20000 in
theorem tb_al_13 : mm_allL (fun q => (fun (o i : Nat) (t : Nat) => (∃ C, tb_tyl[t]? = some (.object C) ∧ Cond.classLink (tb_cn o) i C ∈ tb_TB ∧ Cond.arrayOver (.object C) ∈ tb_TB) ∨ (∃ y, tb_tyl[t]? = some (.array y) ∧ Cond.classLink (tb_cn o) i (FieldType.array y).toString ∈ tb_TB ∧ Cond.arrayOver (.array y) ∈ tb_TB)) 13 q.1 q.2) ((tb_AL[13]?).getD []) := trivial
set_option maxRecDepth 20000 in
theorem tb_al_14 : mm_allL (fun q => (fun (o i : Nat) (t : Nat) => (∃ C, tb_tyl[t]? = some (.object C) ∧ Cond.classLink (tb_cn o) i C ∈ tb_TB ∧ Cond.arrayOver (.object C) ∈ tb_TB) ∨ (∃ y, tb_tyl[t]? = some (.array y) ∧ Cond.classLink (tb_cn o) i (FieldType.array y).toString ∈ tb_TB ∧ Cond.arrayOver (.array y) ∈ tb_TB)) 14 q.1 q.2) ((tb_AL[14]?).getD []) := trivial
set_option maxRecDepth 20000 in
theorem tb_al_15 : mm_allL (fun q => (fun (o i : Nat) (t : Nat) => (∃ C, tb_tyl[t]? = some (.object C) ∧ Cond.classLink (tb_cn o) i C ∈ tb_TB ∧ Cond.arrayOver (.object C) ∈ tb_TB) ∨ (∃ y, tb_tyl[t]? = some (.array y) ∧ Cond.classLink (tb_cn o) i (FieldType.array y).toString ∈ tb_TB ∧ Cond.arrayOver (.array y) ∈ tb_TB)) 15 q.1 q.2) ((tb_AL[15]?).getD []) := trivial
set_option maxRecDepth 20000 in
theorem tb_al_16 : mm_allL (fun q => (fun (o i : Nat) (t : Nat) => (∃ C, tb_tyl[t]? = some (.object C) ∧ Cond.classLink (tb_cn o) i C ∈ tb_TB ∧ Cond.arrayOver (.object C) ∈ tb_TB) ∨ (∃ y, tb_tyl[t]? = some (.array y) ∧ Cond.classLink (tb_cn o) i (FieldType.array y).toString ∈ tb_TB ∧ Cond.arrayOver (.array y) ∈ tb_TB)) 16 q.1 q.2) ((tb_AL[16]?).getD []) := trivial
set_option maxRecDepth 20000 in
theorem tb_al_17 : mm_allL (fun q => (fun (o i : Nat) (t : Nat) => (∃ C, tb_tyl[t]? = some (.object C) ∧ Cond.classLink (tb_cn o) i C ∈ tb_TB ∧ Cond.arrayOver (.object C) ∈ tb_TB) ∨ (∃ y, tb_tyl[t]? = some (.array y) ∧ Cond.classLink (tb_cn o) i (FieldType.array y).toString ∈ tb_TB ∧ Cond.arrayOver (.array y) ∈ tb_TB)) 17 q.1 q.2) ((tb_AL[17]?).getD []) := trivial
set_option maxRecDepth 20000 in
theorem tb_al_18 : mm_allL (fun q => (fun (o i : Nat) (t : Nat) => (∃ C, tb_tyl[t]? = some (.object C) ∧ Cond.classLink (tb_cn o) i C ∈ tb_TB ∧ Cond.arrayOver (.object C) ∈ tb_TB) ∨ (∃ y, tb_tyl[t]? = some (.array y) ∧ Cond.classLink (tb_cn o) i (FieldType.array y).toString ∈ tb_TB ∧ Cond.arrayOver (.array y) ∈ tb_TB)) 18 q.1 q.2) ((tb_AL[18]?).getD []) := trivial
set_option maxRecDepth 20000 in
theorem tb_al_19 : mm_allL (fun q => (fun (o i : Nat) (t : Nat) => (∃ C, tb_tyl[t]? = some (.object C) ∧ Cond.classLink (tb_cn o) i C ∈ tb_TB ∧ Cond.arrayOver (.object C) ∈ tb_TB) ∨ (∃ y, tb_tyl[t]? = some (.array y) ∧ Cond.classLink (tb_cn o) i (FieldType.array y).toString ∈ tb_TB ∧ Cond.arrayOver (.array y) ∈ tb_TB)) 19 q.1 q.2) ((tb_AL[19]?).getD []) := trivial
set_option maxRecDepth 20000 in
theorem tb_al_all : mm_all2P (fun (o i : Nat) (t : Nat) => (∃ C, tb_tyl[t]? = some (.object C) ∧ Cond.classLink (tb_cn o) i C ∈ tb_TB ∧ Cond.arrayOver (.object C) ∈ tb_TB) ∨ (∃ y, tb_tyl[t]? = some (.array y) ∧ Cond.classLink (tb_cn o) i (FieldType.array y).toString ∈ tb_TB ∧ Cond.arrayOver (.array y) ∈ tb_TB)) 0 tb_AL := ⟨tb_al_0, tb_al_1, tb_al_2, tb_al_3, tb_al_4, tb_al_5, tb_al_6, tb_al_7, tb_al_8, tb_al_9, tb_al_10, tb_al_11, tb_al_12, tb_al_13, tb_al_14, tb_al_15, tb_al_16, tb_al_17, tb_al_18, tb_al_19, trivial⟩
set_option maxRecDepth 20000 in
theorem tb_ci_0 : mm_allL (fun q => (fun (o i : Nat) (v : Int32) => Cond.constant (tb_cn o) i v ∈ tb_TB) 0 q.1 q.2) ((tb_CI[0]?).getD []) := ⟨(tb_i6 (List.mem_of_getElem? (i := 128) rfl) rfl),
  (tb_i6 (List.mem_of_getElem? (i := 129) rfl) rfl),
  (tb_i7 (List.mem_of_getElem? (i := 112) rfl) rfl),
  trivial⟩
set_option maxRecDepth 20000 in
theorem tb_ci_1 : mm_allL (fun q => (fun (o i : Nat) (v : Int32) => Cond.constant (tb_cn o) i v ∈ tb_TB) 1 q.1 q.2) ((tb_CI[1]?).getD []) := trivial
set_option maxRecDepth 20000 in
theorem tb_ci_2 : mm_allL (fun q => (fun (o i : Nat) (v : Int32) => Cond.constant (tb_cn o) i v ∈ tb_TB) 2 q.1 q.2) ((tb_CI[2]?).getD []) := ⟨(tb_i4 (List.mem_of_getElem? (i := 99) rfl) rfl),
  (tb_i4 (List.mem_of_getElem? (i := 100) rfl) rfl),
  trivial⟩
set_option maxRecDepth 20000 in
theorem tb_ci_3 : mm_allL (fun q => (fun (o i : Nat) (v : Int32) => Cond.constant (tb_cn o) i v ∈ tb_TB) 3 q.1 q.2) ((tb_CI[3]?).getD []) := trivial
set_option maxRecDepth 20000 in
theorem tb_ci_4 : mm_allL (fun q => (fun (o i : Nat) (v : Int32) => Cond.constant (tb_cn o) i v ∈ tb_TB) 4 q.1 q.2) ((tb_CI[4]?).getD []) := trivial
set_option maxRecDepth 20000 in
theorem tb_ci_5 : mm_allL (fun q => (fun (o i : Nat) (v : Int32) => Cond.constant (tb_cn o) i v ∈ tb_TB) 5 q.1 q.2) ((tb_CI[5]?).getD []) := trivial
set_option maxRecDepth 20000 in
theorem tb_ci_6 : mm_allL (fun q => (fun (o i : Nat) (v : Int32) => Cond.constant (tb_cn o) i v ∈ tb_TB) 6 q.1 q.2) ((tb_CI[6]?).getD []) := trivial
set_option maxRecDepth 20000 in
theorem tb_ci_7 : mm_allL (fun q => (fun (o i : Nat) (v : Int32) => Cond.constant (tb_cn o) i v ∈ tb_TB) 7 q.1 q.2) ((tb_CI[7]?).getD []) := trivial
set_option maxRecDepth 20000 in
theorem tb_ci_8 : mm_allL (fun q => (fun (o i : Nat) (v : Int32) => Cond.constant (tb_cn o) i v ∈ tb_TB) 8 q.1 q.2) ((tb_CI[8]?).getD []) := trivial
set_option maxRecDepth 20000 in
theorem tb_ci_9 : mm_allL (fun q => (fun (o i : Nat) (v : Int32) => Cond.constant (tb_cn o) i v ∈ tb_TB) 9 q.1 q.2) ((tb_CI[9]?).getD []) := trivial
set_option maxRecDepth 20000 in
theorem tb_ci_10 : mm_allL (fun q => (fun (o i : Nat) (v : Int32) => Cond.constant (tb_cn o) i v ∈ tb_TB) 10 q.1 q.2) ((tb_CI[10]?).getD []) := trivial
set_option maxRecDepth 20000 in
theorem tb_ci_11 : mm_allL (fun q => (fun (o i : Nat) (v : Int32) => Cond.constant (tb_cn o) i v ∈ tb_TB) 11 q.1 q.2) ((tb_CI[11]?).getD []) := trivial
set_option maxRecDepth 20000 in
theorem tb_ci_12 : mm_allL (fun q => (fun (o i : Nat) (v : Int32) => Cond.constant (tb_cn o) i v ∈ tb_TB) 12 q.1 q.2) ((tb_CI[12]?).getD []) := ⟨(tb_i9 (List.mem_of_getElem? (i := 161) rfl) rfl),
  (tb_i9 (List.mem_of_getElem? (i := 162) rfl) rfl),
  trivial⟩
set_option maxRecDepth 20000 in
theorem tb_ci_13 : mm_allL (fun q => (fun (o i : Nat) (v : Int32) => Cond.constant (tb_cn o) i v ∈ tb_TB) 13 q.1 q.2) ((tb_CI[13]?).getD []) := trivial
set_option maxRecDepth 20000 in
theorem tb_ci_14 : mm_allL (fun q => (fun (o i : Nat) (v : Int32) => Cond.constant (tb_cn o) i v ∈ tb_TB) 14 q.1 q.2) ((tb_CI[14]?).getD []) := trivial
set_option maxRecDepth 20000 in
theorem tb_ci_15 : mm_allL (fun q => (fun (o i : Nat) (v : Int32) => Cond.constant (tb_cn o) i v ∈ tb_TB) 15 q.1 q.2) ((tb_CI[15]?).getD []) := trivial
set_option maxRecDepth 20000 in
theorem tb_ci_16 : mm_allL (fun q => (fun (o i : Nat) (v : Int32) => Cond.constant (tb_cn o) i v ∈ tb_TB) 16 q.1 q.2) ((tb_CI[16]?).getD []) := trivial
set_option maxRecDepth 20000 in
theorem tb_ci_17 : mm_allL (fun q => (fun (o i : Nat) (v : Int32) => Cond.constant (tb_cn o) i v ∈ tb_TB) 17 q.1 q.2) ((tb_CI[17]?).getD []) := trivial
set_option maxRecDepth 20000 in
theorem tb_ci_18 : mm_allL (fun q => (fun (o i : Nat) (v : Int32) => Cond.constant (tb_cn o) i v ∈ tb_TB) 18 q.1 q.2) ((tb_CI[18]?).getD []) := trivial
set_option maxRecDepth 20000 in
theorem tb_ci_19 : mm_allL (fun q => (fun (o i : Nat) (v : Int32) => Cond.constant (tb_cn o) i v ∈ tb_TB) 19 q.1 q.2) ((tb_CI[19]?).getD []) := trivial
set_option maxRecDepth 20000 in
theorem tb_ci_all : mm_all2P (fun (o i : Nat) (v : Int32) => Cond.constant (tb_cn o) i v ∈ tb_TB) 0 tb_CI := ⟨tb_ci_0, tb_ci_1, tb_ci_2, tb_ci_3, tb_ci_4, tb_ci_5, tb_ci_6, tb_ci_7, tb_ci_8, tb_ci_9, tb_ci_10, tb_ci_11, tb_ci_12, tb_ci_13, tb_ci_14, tb_ci_15, tb_ci_16, tb_ci_17, tb_ci_18, tb_ci_19, trivial⟩
set_option maxRecDepth 20000 in
theorem tb_cl_0 : mm_allL (fun q => (fun (o i : Nat) (v : Int64) => Cond.constantLong (tb_cn o) i v ∈ tb_TB) 0 q.1 q.2) ((tb_CL[0]?).getD []) := trivial
set_option maxRecDepth 20000 in
theorem tb_cl_1 : mm_allL (fun q => (fun (o i : Nat) (v : Int64) => Cond.constantLong (tb_cn o) i v ∈ tb_TB) 1 q.1 q.2) ((tb_CL[1]?).getD []) := trivial
set_option maxRecDepth 20000 in
theorem tb_cl_2 : mm_allL (fun q => (fun (o i : Nat) (v : Int64) => Cond.constantLong (tb_cn o) i v ∈ tb_TB) 2 q.1 q.2) ((tb_CL[2]?).getD []) := trivial
set_option maxRecDepth 20000 in
theorem tb_cl_3 : mm_allL (fun q => (fun (o i : Nat) (v : Int64) => Cond.constantLong (tb_cn o) i v ∈ tb_TB) 3 q.1 q.2) ((tb_CL[3]?).getD []) := ⟨(tb_i5 (List.mem_of_getElem? (i := 110) rfl) rfl),
  (tb_i5 (List.mem_of_getElem? (i := 111) rfl) rfl),
  trivial⟩
set_option maxRecDepth 20000 in
theorem tb_cl_4 : mm_allL (fun q => (fun (o i : Nat) (v : Int64) => Cond.constantLong (tb_cn o) i v ∈ tb_TB) 4 q.1 q.2) ((tb_CL[4]?).getD []) := trivial
set_option maxRecDepth 20000 in
theorem tb_cl_5 : mm_allL (fun q => (fun (o i : Nat) (v : Int64) => Cond.constantLong (tb_cn o) i v ∈ tb_TB) 5 q.1 q.2) ((tb_CL[5]?).getD []) := ⟨(tb_i5 (List.mem_of_getElem? (i := 20) rfl) rfl),
  trivial⟩
set_option maxRecDepth 20000 in
theorem tb_cl_6 : mm_allL (fun q => (fun (o i : Nat) (v : Int64) => Cond.constantLong (tb_cn o) i v ∈ tb_TB) 6 q.1 q.2) ((tb_CL[6]?).getD []) := ⟨(tb_i4 (List.mem_of_getElem? (i := 238) rfl) rfl),
  (tb_i5 (List.mem_of_getElem? (i := 3) rfl) rfl),
  trivial⟩
set_option maxRecDepth 20000 in
theorem tb_cl_7 : mm_allL (fun q => (fun (o i : Nat) (v : Int64) => Cond.constantLong (tb_cn o) i v ∈ tb_TB) 7 q.1 q.2) ((tb_CL[7]?).getD []) := trivial
set_option maxRecDepth 20000 in
theorem tb_cl_8 : mm_allL (fun q => (fun (o i : Nat) (v : Int64) => Cond.constantLong (tb_cn o) i v ∈ tb_TB) 8 q.1 q.2) ((tb_CL[8]?).getD []) := trivial
set_option maxRecDepth 20000 in
theorem tb_cl_9 : mm_allL (fun q => (fun (o i : Nat) (v : Int64) => Cond.constantLong (tb_cn o) i v ∈ tb_TB) 9 q.1 q.2) ((tb_CL[9]?).getD []) := ⟨(tb_i7 (List.mem_of_getElem? (i := 43) rfl) rfl),
  (tb_i7 (List.mem_of_getElem? (i := 44) rfl) rfl),
  trivial⟩
set_option maxRecDepth 20000 in
theorem tb_cl_10 : mm_allL (fun q => (fun (o i : Nat) (v : Int64) => Cond.constantLong (tb_cn o) i v ∈ tb_TB) 10 q.1 q.2) ((tb_CL[10]?).getD []) := trivial
set_option maxRecDepth 20000 in
theorem tb_cl_11 : mm_allL (fun q => (fun (o i : Nat) (v : Int64) => Cond.constantLong (tb_cn o) i v ∈ tb_TB) 11 q.1 q.2) ((tb_CL[11]?).getD []) := trivial
set_option maxRecDepth 20000 in
theorem tb_cl_12 : mm_allL (fun q => (fun (o i : Nat) (v : Int64) => Cond.constantLong (tb_cn o) i v ∈ tb_TB) 12 q.1 q.2) ((tb_CL[12]?).getD []) := ⟨(tb_i10 (List.mem_of_getElem? (i := 74) rfl) rfl),
  (tb_i10 (List.mem_of_getElem? (i := 75) rfl) rfl),
  (tb_i10 (List.mem_of_getElem? (i := 100) rfl) rfl),
  (tb_i10 (List.mem_of_getElem? (i := 101) rfl) rfl),
  (tb_i10 (List.mem_of_getElem? (i := 218) rfl) rfl),
  (tb_i11 (List.mem_of_getElem? (i := 50) rfl) rfl),
  (tb_i11 (List.mem_of_getElem? (i := 84) rfl) rfl),
  (tb_i11 (List.mem_of_getElem? (i := 101) rfl) rfl),
  (tb_i11 (List.mem_of_getElem? (i := 106) rfl) rfl),
  (tb_i11 (List.mem_of_getElem? (i := 160) rfl) rfl),
  (tb_i11 (List.mem_of_getElem? (i := 173) rfl) rfl),
  (tb_i11 (List.mem_of_getElem? (i := 174) rfl) rfl),
  trivial⟩
set_option maxRecDepth 20000 in
theorem tb_cl_13 : mm_allL (fun q => (fun (o i : Nat) (v : Int64) => Cond.constantLong (tb_cn o) i v ∈ tb_TB) 13 q.1 q.2) ((tb_CL[13]?).getD []) := trivial
set_option maxRecDepth 20000 in
theorem tb_cl_14 : mm_allL (fun q => (fun (o i : Nat) (v : Int64) => Cond.constantLong (tb_cn o) i v ∈ tb_TB) 14 q.1 q.2) ((tb_CL[14]?).getD []) := trivial
set_option maxRecDepth 20000 in
theorem tb_cl_15 : mm_allL (fun q => (fun (o i : Nat) (v : Int64) => Cond.constantLong (tb_cn o) i v ∈ tb_TB) 15 q.1 q.2) ((tb_CL[15]?).getD []) := trivial
set_option maxRecDepth 20000 in
theorem tb_cl_16 : mm_allL (fun q => (fun (o i : Nat) (v : Int64) => Cond.constantLong (tb_cn o) i v ∈ tb_TB) 16 q.1 q.2) ((tb_CL[16]?).getD []) := trivial
set_option maxRecDepth 20000 in
theorem tb_cl_17 : mm_allL (fun q => (fun (o i : Nat) (v : Int64) => Cond.constantLong (tb_cn o) i v ∈ tb_TB) 17 q.1 q.2) ((tb_CL[17]?).getD []) := trivial
set_option maxRecDepth 20000 in
theorem tb_cl_18 : mm_allL (fun q => (fun (o i : Nat) (v : Int64) => Cond.constantLong (tb_cn o) i v ∈ tb_TB) 18 q.1 q.2) ((tb_CL[18]?).getD []) := trivial
set_option maxRecDepth 20000 in
theorem tb_cl_19 : mm_allL (fun q => (fun (o i : Nat) (v : Int64) => Cond.constantLong (tb_cn o) i v ∈ tb_TB) 19 q.1 q.2) ((tb_CL[19]?).getD []) := trivial
set_option maxRecDepth 20000 in
theorem tb_cl_all : mm_all2P (fun (o i : Nat) (v : Int64) => Cond.constantLong (tb_cn o) i v ∈ tb_TB) 0 tb_CL := ⟨tb_cl_0, tb_cl_1, tb_cl_2, tb_cl_3, tb_cl_4, tb_cl_5, tb_cl_6, tb_cl_7, tb_cl_8, tb_cl_9, tb_cl_10, tb_cl_11, tb_cl_12, tb_cl_13, tb_cl_14, tb_cl_15, tb_cl_16, tb_cl_17, tb_cl_18, tb_cl_19, trivial⟩
theorem tb_ac : Cond.arrayClass .int ∈ tb_TB ∧ Cond.arrayClass .long ∈ tb_TB ∧ Cond.arrayClass .char ∈ tb_TB ∧ Cond.arrayClass .boolean ∈ tb_TB := ⟨(tb_i1 (List.mem_of_getElem? (i := 77) rfl) rfl), (tb_i1 (List.mem_of_getElem? (i := 137) rfl) rfl), (tb_i1 (List.mem_of_getElem? (i := 76) rfl) rfl), (tb_i2 (List.mem_of_getElem? (i := 53) rfl) rfl)⟩
theorem tb_c0 : (fun (ci : Nat) (r : vw_C) => (∀ w ∈ u_ws r.1 r.2.1 r.2.2, w ∈ tb_TB) ∧ (∀ j, j < r.2.2 → parseFieldDescriptor (r.2.1 j).2.2.1 = some (tb_ft ci j).1 ∧ (r.2.1 j).2.2.2 = (tb_ft ci j).2 ∧ (r.2.1 j).1 = r.1) ∧ (∀ a, a < r.2.2 → ∀ b, b < r.2.2 → a ≠ b → (r.2.1 a).2.1 ≠ (r.2.1 b).2.1) ∧ (0 < r.2.2 → tb_cn ci = r.1)) 0 ("IndexedCompiler", tb_T0, 12) := ⟨mm_allL_mem tb_w0, fun j hj => mm_allL_mem tb_f0 j (List.mem_range.mpr hj), mm_apart tb_n0 (mm_allL_mem tb_m0), fun _ => rfl⟩
theorem tb_c1 : (fun (ci : Nat) (r : vw_C) => (∀ w ∈ u_ws r.1 r.2.1 r.2.2, w ∈ tb_TB) ∧ (∀ j, j < r.2.2 → parseFieldDescriptor (r.2.1 j).2.2.1 = some (tb_ft ci j).1 ∧ (r.2.1 j).2.2.2 = (tb_ft ci j).2 ∧ (r.2.1 j).1 = r.1) ∧ (∀ a, a < r.2.2 → ∀ b, b < r.2.2 → a ≠ b → (r.2.1 a).2.1 ≠ (r.2.1 b).2.1) ∧ (0 < r.2.2 → tb_cn ci = r.1)) 1 ("IndexedCompiler$Line", tb_T1, 10) := ⟨mm_allL_mem tb_w1, fun j hj => mm_allL_mem tb_f1 j (List.mem_range.mpr hj), mm_apart tb_n1 (mm_allL_mem tb_m1), fun _ => rfl⟩
theorem tb_c2 : (fun (ci : Nat) (r : vw_C) => (∀ w ∈ u_ws r.1 r.2.1 r.2.2, w ∈ tb_TB) ∧ (∀ j, j < r.2.2 → parseFieldDescriptor (r.2.1 j).2.2.1 = some (tb_ft ci j).1 ∧ (r.2.1 j).2.2.2 = (tb_ft ci j).2 ∧ (r.2.1 j).1 = r.1) ∧ (∀ a, a < r.2.2 → ∀ b, b < r.2.2 → a ≠ b → (r.2.1 a).2.1 ≠ (r.2.1 b).2.1) ∧ (0 < r.2.2 → tb_cn ci = r.1)) 2 ("IndexedCompiler$Reader", tb_T2, 3) := ⟨mm_allL_mem tb_w2, fun j hj => mm_allL_mem tb_f2 j (List.mem_range.mpr hj), mm_apart tb_n2 (mm_allL_mem tb_m2), fun _ => rfl⟩
theorem tb_c3 : (fun (ci : Nat) (r : vw_C) => (∀ w ∈ u_ws r.1 r.2.1 r.2.2, w ∈ tb_TB) ∧ (∀ j, j < r.2.2 → parseFieldDescriptor (r.2.1 j).2.2.1 = some (tb_ft ci j).1 ∧ (r.2.1 j).2.2.2 = (tb_ft ci j).2 ∧ (r.2.1 j).1 = r.1) ∧ (∀ a, a < r.2.2 → ∀ b, b < r.2.2 → a ≠ b → (r.2.1 a).2.1 ≠ (r.2.1 b).2.1) ∧ (0 < r.2.2 → tb_cn ci = r.1)) 3 ("IndexedCompiler$Solver", tb_T3, 7) := ⟨mm_allL_mem tb_w3, fun j hj => mm_allL_mem tb_f3 j (List.mem_range.mpr hj), mm_apart tb_n3 (mm_allL_mem tb_m3), fun _ => rfl⟩
theorem tb_c4 : (fun (ci : Nat) (r : vw_C) => (∀ w ∈ u_ws r.1 r.2.1 r.2.2, w ∈ tb_TB) ∧ (∀ j, j < r.2.2 → parseFieldDescriptor (r.2.1 j).2.2.1 = some (tb_ft ci j).1 ∧ (r.2.1 j).2.2.2 = (tb_ft ci j).2 ∧ (r.2.1 j).1 = r.1) ∧ (∀ a, a < r.2.2 → ∀ b, b < r.2.2 → a ≠ b → (r.2.1 a).2.1 ≠ (r.2.1 b).2.1) ∧ (0 < r.2.2 → tb_cn ci = r.1)) 4 ("IndexedCompiler$Expression", tb_T4, 2) := ⟨mm_allL_mem tb_w4, fun j hj => mm_allL_mem tb_f4 j (List.mem_range.mpr hj), mm_apart tb_n4 (mm_allL_mem tb_m4), fun _ => rfl⟩
theorem tb_c5 : (fun (ci : Nat) (r : vw_C) => (∀ w ∈ u_ws r.1 r.2.1 r.2.2, w ∈ tb_TB) ∧ (∀ j, j < r.2.2 → parseFieldDescriptor (r.2.1 j).2.2.1 = some (tb_ft ci j).1 ∧ (r.2.1 j).2.2.2 = (tb_ft ci j).2 ∧ (r.2.1 j).1 = r.1) ∧ (∀ a, a < r.2.2 → ∀ b, b < r.2.2 → a ≠ b → (r.2.1 a).2.1 ≠ (r.2.1 b).2.1) ∧ (0 < r.2.2 → tb_cn ci = r.1)) 5 ("IndexedCompiler$Ground", tb_T5, 14) := ⟨mm_allL_mem tb_w5, fun j hj => mm_allL_mem tb_f5 j (List.mem_range.mpr hj), mm_apart tb_n5 (mm_allL_mem tb_m5), fun _ => rfl⟩
theorem tb_c6 : (fun (ci : Nat) (r : vw_C) => (∀ w ∈ u_ws r.1 r.2.1 r.2.2, w ∈ tb_TB) ∧ (∀ j, j < r.2.2 → parseFieldDescriptor (r.2.1 j).2.2.1 = some (tb_ft ci j).1 ∧ (r.2.1 j).2.2.2 = (tb_ft ci j).2 ∧ (r.2.1 j).1 = r.1) ∧ (∀ a, a < r.2.2 → ∀ b, b < r.2.2 → a ≠ b → (r.2.1 a).2.1 ≠ (r.2.1 b).2.1) ∧ (0 < r.2.2 → tb_cn ci = r.1)) 6 ("IndexedCompiler$Checker", tb_T6, 15) := ⟨mm_allL_mem tb_w6, fun j hj => mm_allL_mem tb_f6 j (List.mem_range.mpr hj), mm_apart tb_n6 (mm_allL_mem tb_m6), fun _ => rfl⟩
theorem tb_c7 : (fun (ci : Nat) (r : vw_C) => (∀ w ∈ u_ws r.1 r.2.1 r.2.2, w ∈ tb_TB) ∧ (∀ j, j < r.2.2 → parseFieldDescriptor (r.2.1 j).2.2.1 = some (tb_ft ci j).1 ∧ (r.2.1 j).2.2.2 = (tb_ft ci j).2 ∧ (r.2.1 j).1 = r.1) ∧ (∀ a, a < r.2.2 → ∀ b, b < r.2.2 → a ≠ b → (r.2.1 a).2.1 ≠ (r.2.1 b).2.1) ∧ (0 < r.2.2 → tb_cn ci = r.1)) 7 ("IndexedCompiler$Coder", tb_T7, 7) := ⟨mm_allL_mem tb_w7, fun j hj => mm_allL_mem tb_f7 j (List.mem_range.mpr hj), mm_apart tb_n7 (mm_allL_mem tb_m7), fun _ => rfl⟩
theorem tb_c8 : (fun (ci : Nat) (r : vw_C) => (∀ w ∈ u_ws r.1 r.2.1 r.2.2, w ∈ tb_TB) ∧ (∀ j, j < r.2.2 → parseFieldDescriptor (r.2.1 j).2.2.1 = some (tb_ft ci j).1 ∧ (r.2.1 j).2.2.2 = (tb_ft ci j).2 ∧ (r.2.1 j).1 = r.1) ∧ (∀ a, a < r.2.2 → ∀ b, b < r.2.2 → a ≠ b → (r.2.1 a).2.1 ≠ (r.2.1 b).2.1) ∧ (0 < r.2.2 → tb_cn ci = r.1)) 8 ("IndexedCompiler$Slots", tb_T8, 4) := ⟨mm_allL_mem tb_w8, fun j hj => mm_allL_mem tb_f8 j (List.mem_range.mpr hj), mm_apart tb_n8 (mm_allL_mem tb_m8), fun _ => rfl⟩
theorem tb_c9 : (fun (ci : Nat) (r : vw_C) => (∀ w ∈ u_ws r.1 r.2.1 r.2.2, w ∈ tb_TB) ∧ (∀ j, j < r.2.2 → parseFieldDescriptor (r.2.1 j).2.2.1 = some (tb_ft ci j).1 ∧ (r.2.1 j).2.2.2 = (tb_ft ci j).2 ∧ (r.2.1 j).1 = r.1) ∧ (∀ a, a < r.2.2 → ∀ b, b < r.2.2 → a ≠ b → (r.2.1 a).2.1 ≠ (r.2.1 b).2.1) ∧ (0 < r.2.2 → tb_cn ci = r.1)) 9 ("IndexedCompiler$Machine", tb_T9, 14) := ⟨mm_allL_mem tb_w9, fun j hj => mm_allL_mem tb_f9 j (List.mem_range.mpr hj), mm_apart tb_n9 (mm_allL_mem tb_m9), fun _ => rfl⟩
theorem tb_c10 : (fun (ci : Nat) (r : vw_C) => (∀ w ∈ u_ws r.1 r.2.1 r.2.2, w ∈ tb_TB) ∧ (∀ j, j < r.2.2 → parseFieldDescriptor (r.2.1 j).2.2.1 = some (tb_ft ci j).1 ∧ (r.2.1 j).2.2.2 = (tb_ft ci j).2 ∧ (r.2.1 j).1 = r.1) ∧ (∀ a, a < r.2.2 → ∀ b, b < r.2.2 → a ≠ b → (r.2.1 a).2.1 ≠ (r.2.1 b).2.1) ∧ (0 < r.2.2 → tb_cn ci = r.1)) 10 ("IndexedCompiler$Tree", tb_T10, 11) := ⟨mm_allL_mem tb_w10, fun j hj => mm_allL_mem tb_f10 j (List.mem_range.mpr hj), mm_apart tb_n10 (mm_allL_mem tb_m10), fun _ => rfl⟩
theorem tb_c11 : (fun (ci : Nat) (r : vw_C) => (∀ w ∈ u_ws r.1 r.2.1 r.2.2, w ∈ tb_TB) ∧ (∀ j, j < r.2.2 → parseFieldDescriptor (r.2.1 j).2.2.1 = some (tb_ft ci j).1 ∧ (r.2.1 j).2.2.2 = (tb_ft ci j).2 ∧ (r.2.1 j).1 = r.1) ∧ (∀ a, a < r.2.2 → ∀ b, b < r.2.2 → a ≠ b → (r.2.1 a).2.1 ≠ (r.2.1 b).2.1) ∧ (0 < r.2.2 → tb_cn ci = r.1)) 11 ("IndexedCompiler$Shape", tb_T11, 5) := ⟨mm_allL_mem tb_w11, fun j hj => mm_allL_mem tb_f11 j (List.mem_range.mpr hj), mm_apart tb_n11 (mm_allL_mem tb_m11), fun _ => rfl⟩
theorem tb_c12 : (fun (ci : Nat) (r : vw_C) => (∀ w ∈ u_ws r.1 r.2.1 r.2.2, w ∈ tb_TB) ∧ (∀ j, j < r.2.2 → parseFieldDescriptor (r.2.1 j).2.2.1 = some (tb_ft ci j).1 ∧ (r.2.1 j).2.2.2 = (tb_ft ci j).2 ∧ (r.2.1 j).1 = r.1) ∧ (∀ a, a < r.2.2 → ∀ b, b < r.2.2 → a ≠ b → (r.2.1 a).2.1 ≠ (r.2.1 b).2.1) ∧ (0 < r.2.2 → tb_cn ci = r.1)) 12 ("IndexedCompilerModel", tb_T12, 145) := ⟨mm_allL_mem tb_w12, fun j hj => mm_allL_mem tb_f12 j (List.mem_range.mpr hj), mm_apart tb_n12 (mm_allL_mem tb_m12), fun _ => rfl⟩
theorem tb_c13 : (fun (ci : Nat) (r : vw_C) => (∀ w ∈ u_ws r.1 r.2.1 r.2.2, w ∈ tb_TB) ∧ (∀ j, j < r.2.2 → parseFieldDescriptor (r.2.1 j).2.2.1 = some (tb_ft ci j).1 ∧ (r.2.1 j).2.2.2 = (tb_ft ci j).2 ∧ (r.2.1 j).1 = r.1) ∧ (∀ a, a < r.2.2 → ∀ b, b < r.2.2 → a ≠ b → (r.2.1 a).2.1 ≠ (r.2.1 b).2.1) ∧ (0 < r.2.2 → tb_cn ci = r.1)) 13 ("java/lang/IllegalStateException", tb_TX, 0) := ⟨fun w hw => (List.not_mem_nil hw).elim, fun j hj => (Nat.not_lt_zero _ hj).elim, fun a ha => (Nat.not_lt_zero _ ha).elim, fun h => (Nat.not_lt_zero _ h).elim⟩
theorem tb_c14 : (fun (ci : Nat) (r : vw_C) => (∀ w ∈ u_ws r.1 r.2.1 r.2.2, w ∈ tb_TB) ∧ (∀ j, j < r.2.2 → parseFieldDescriptor (r.2.1 j).2.2.1 = some (tb_ft ci j).1 ∧ (r.2.1 j).2.2.2 = (tb_ft ci j).2 ∧ (r.2.1 j).1 = r.1) ∧ (∀ a, a < r.2.2 → ∀ b, b < r.2.2 → a ≠ b → (r.2.1 a).2.1 ≠ (r.2.1 b).2.1) ∧ (0 < r.2.2 → tb_cn ci = r.1)) 14 ("java/lang/IllegalArgumentException", tb_TX, 0) := ⟨fun w hw => (List.not_mem_nil hw).elim, fun j hj => (Nat.not_lt_zero _ hj).elim, fun a ha => (Nat.not_lt_zero _ ha).elim, fun h => (Nat.not_lt_zero _ h).elim⟩
theorem tb_call : mm_all1P (fun (ci : Nat) (r : vw_C) => (∀ w ∈ u_ws r.1 r.2.1 r.2.2, w ∈ tb_TB) ∧ (∀ j, j < r.2.2 → parseFieldDescriptor (r.2.1 j).2.2.1 = some (tb_ft ci j).1 ∧ (r.2.1 j).2.2.2 = (tb_ft ci j).2 ∧ (r.2.1 j).1 = r.1) ∧ (∀ a, a < r.2.2 → ∀ b, b < r.2.2 → a ≠ b → (r.2.1 a).2.1 ≠ (r.2.1 b).2.1) ∧ (0 < r.2.2 → tb_cn ci = r.1)) 0 tb_cl := ⟨tb_c0, tb_c1, tb_c2, tb_c3, tb_c4, tb_c5, tb_c6, tb_c7, tb_c8, tb_c9, tb_c10, tb_c11, tb_c12, tb_c13, tb_c14, trivial⟩
theorem tb_ok2 : mm_ok2 tb_P tb_TB tb_cl tb_tyl tb_cn :=
  ⟨fun ci C T N h => Nat.zero_add ci ▸ mm_all1P_ok tb_call h, fun o i ci j h => Nat.zero_add o ▸ mm_all2P_ok tb_fl_all h, fun o i ci dv h => Nat.zero_add o ▸ mm_all2P_ok tb_nl_all h, fun o i t h => Nat.zero_add o ▸ mm_all2P_ok tb_al_all h,
  (fun y t a0 h => by cases y <;> first | (cases h; done) | (cases h; exact ⟨rfl, tb_ac.1⟩) | (cases h; exact ⟨rfl, tb_ac.2.1⟩) | (cases h; exact ⟨rfl, tb_ac.2.2.1⟩) | (cases h; exact ⟨rfl, tb_ac.2.2.2⟩)),
  fun o i v h => Nat.zero_add o ▸ mm_all2P_ok tb_ci_all h, fun o i v h => Nat.zero_add o ▸ mm_all2P_ok tb_cl_all h, ⟨rfl, by
    intro t h1 h2
    have h2 : t < 8 := h2
    have : t = 4 ∨ t = 5 ∨ t = 6 ∨ t = 7 := by omega
    rcases this with rfl | rfl | rfl | rfl <;> exact ⟨_, rfl, rfl⟩⟩, fun t ci h => by
    have hm := mm_fd_mem h
    simp only [List.mem_cons, List.not_mem_nil, or_false, Prod.mk.injEq] at hm
    rcases hm with ⟨rfl, rfl⟩ | ⟨rfl, rfl⟩ | ⟨rfl, rfl⟩ | ⟨rfl, rfl⟩
    all_goals first | exact ⟨fun _ => ⟨_, rfl, rfl⟩, fun q => absurd q (by decide)⟩ | exact ⟨fun q => absurd rfl q, fun _ => ⟨rfl, (tb_i2 (List.mem_of_getElem? (i := 28) rfl) rfl)⟩⟩, by decide⟩
