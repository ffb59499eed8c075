theorem lkZ0 : Cond.methodLink RL 92 yL_width ∈ zW := zw (zt2 (List.mem_of_getElem? (i := 145) rfl)) rfl
theorem lkZ1 : Cond.static yL_width ∈ zW := zw (zt2 (List.mem_of_getElem? (i := 146) rfl)) rfl
theorem lkZ2 : Cond.initialized RL ∈ zW := zw (zt1 (List.mem_of_getElem? (i := 0) rfl)) rfl
theorem lkZ3 : Cond.codeWith yL_width cL_width 3 (some .int) [(0, 5, 8, 13), (0, 5, 11, 15)] ∈ zW := zw (zt2 (List.mem_of_getElem? (i := 147) rfl)) rfl
theorem lkZ4 : Cond.methodLink RL 95 yX10_width ∈ zW := zw (zt5 (List.mem_of_getElem? (i := 232) rfl)) rfl
theorem lkZ5 : Cond.instanceMethod yX10_width ∈ zW := zw (zt5 (List.mem_of_getElem? (i := 233) rfl)) rfl
theorem lkZ6 : Cond.selects RX10 yX10_width yX10_width ∈ zW := zw (zt5 (List.mem_of_getElem? (i := 234) rfl)) rfl
theorem lkZ7 : Cond.initialized RX10 ∈ zW := zw (zt1 (List.mem_of_getElem? (i := 12) rfl)) rfl
theorem lkZ8 : Cond.code yX10_width cX10_width 2 none ∈ zW := zw (zt5 (List.mem_of_getElem? (i := 235) rfl)) rfl
theorem lkZ9 : Cond.methodLink RL 96 yX10_thrown ∈ zW := zw (zt5 (List.mem_of_getElem? (i := 228) rfl)) rfl
theorem lkZ10 : Cond.instanceMethod yX10_thrown ∈ zW := zw (zt5 (List.mem_of_getElem? (i := 229) rfl)) rfl
theorem lkZ11 : Cond.selects RX10 yX10_thrown yX10_thrown ∈ zW := zw (zt5 (List.mem_of_getElem? (i := 230) rfl)) rfl
theorem lkZ12 : Cond.code yX10_thrown cX10_thrown 1 (some .int) ∈ zW := zw (zt5 (List.mem_of_getElem? (i := 231) rfl)) rfl
theorem lkZ13 : Cond.methodLink RL 99 yL_key ∈ zW := zw (zt3 (List.mem_of_getElem? (i := 14) rfl)) rfl
theorem lkZ14 : Cond.static yL_key ∈ zW := zw (zt3 (List.mem_of_getElem? (i := 15) rfl)) rfl
theorem lkZ15 : Cond.codeWith yL_key cL_key 5 (some .int) [(0, 10, 13, 21), (0, 10, 17, 13), (0, 10, 21, 15)] ∈ zW := zw (zt3 (List.mem_of_getElem? (i := 16) rfl)) rfl
theorem lkZ16 : Cond.methodLink RL 102 yX10_key ∈ zW := zw (zt5 (List.mem_of_getElem? (i := 239) rfl)) rfl
theorem lkZ17 : Cond.instanceMethod yX10_key ∈ zW := zw (zt6 (List.mem_of_getElem? (i := 0) rfl)) rfl
theorem lkZ18 : Cond.selects RX10 yX10_key yX10_key ∈ zW := zw (zt6 (List.mem_of_getElem? (i := 1) rfl)) rfl
theorem lkZ19 : Cond.code yX10_key cX10_key 5 (some .int) ∈ zW := zw (zt6 (List.mem_of_getElem? (i := 2) rfl)) rfl
theorem lkZ20 : Cond.methodLink RL 103 yL_mode ∈ zW := zw (zt3 (List.mem_of_getElem? (i := 48) rfl)) rfl
theorem lkZ21 : Cond.static yL_mode ∈ zW := zw (zt3 (List.mem_of_getElem? (i := 49) rfl)) rfl
theorem lkZ22 : Cond.codeWith yL_mode cL_mode 4 (some .int) [(0, 9, 12, 13), (0, 9, 15, 15)] ∈ zW := zw (zt3 (List.mem_of_getElem? (i := 50) rfl)) rfl
theorem lkZ23 : Cond.methodLink RL 106 yX10_mode ∈ zW := zw (zt6 (List.mem_of_getElem? (i := 3) rfl)) rfl
theorem lkZ24 : Cond.instanceMethod yX10_mode ∈ zW := zw (zt6 (List.mem_of_getElem? (i := 4) rfl)) rfl
theorem lkZ25 : Cond.selects RX10 yX10_mode yX10_mode ∈ zW := zw (zt6 (List.mem_of_getElem? (i := 5) rfl)) rfl
theorem lkZ26 : Cond.code yX10_mode cX10_mode 3 (some .int) ∈ zW := zw (zt6 (List.mem_of_getElem? (i := 6) rfl)) rfl
theorem lkZ27 : Cond.constantLong RL 107 4294967295 ∈ zW := zw (zt7 (List.mem_of_getElem? (i := 11) rfl)) rfl
theorem lkZ28 : Cond.methodLink RL 109 yL_feed ∈ zW := zw (zt3 (List.mem_of_getElem? (i := 56) rfl)) rfl
theorem lkZ29 : Cond.static yL_feed ∈ zW := zw (zt3 (List.mem_of_getElem? (i := 57) rfl)) rfl
theorem lkZ30 : Cond.codeWith yL_feed cL_feed 11 (some .int) [(0, 15, 18, 15), (0, 15, 22, 31)] ∈ zW := zw (zt3 (List.mem_of_getElem? (i := 58) rfl)) rfl
theorem lkZ31 : Cond.methodLink RL 112 yX10_feed ∈ zW := zw (zt6 (List.mem_of_getElem? (i := 7) rfl)) rfl
theorem lkZ32 : Cond.instanceMethod yX10_feed ∈ zW := zw (zt6 (List.mem_of_getElem? (i := 8) rfl)) rfl
theorem lkZ33 : Cond.selects RX10 yX10_feed yX10_feed ∈ zW := zw (zt6 (List.mem_of_getElem? (i := 9) rfl)) rfl
theorem lkZ34 : Cond.code yX10_feed cX10_feed 10 (some .int) ∈ zW := zw (zt6 (List.mem_of_getElem? (i := 10) rfl)) rfl
theorem lkZ35 : Cond.methodLink RL 113 yL_run ∈ zW := zw (zt3 (List.mem_of_getElem? (i := 112) rfl)) rfl
theorem lkZ36 : Cond.static yL_run ∈ zW := zw (zt3 (List.mem_of_getElem? (i := 113) rfl)) rfl
theorem lkZ37 : Cond.codeWith yL_run cL_run 7 (some .int) [(0, 13, 16, 13), (0, 13, 20, 15)] ∈ zW := zw (zt3 (List.mem_of_getElem? (i := 114) rfl)) rfl
theorem lkZ38 : Cond.methodLink RL 116 yX10_run ∈ zW := zw (zt6 (List.mem_of_getElem? (i := 35) rfl)) rfl
theorem lkZ39 : Cond.instanceMethod yX10_run ∈ zW := zw (zt6 (List.mem_of_getElem? (i := 36) rfl)) rfl
theorem lkZ40 : Cond.selects RX10 yX10_run yX10_run ∈ zW := zw (zt6 (List.mem_of_getElem? (i := 37) rfl)) rfl
theorem lkZ41 : Cond.code yX10_run cX10_run 10 (some .int) ∈ zW := zw (zt6 (List.mem_of_getElem? (i := 38) rfl)) rfl
theorem lkZ42 : Cond.methodLink RL 117 yL_form ∈ zW := zw (zt3 (List.mem_of_getElem? (i := 123) rfl)) rfl
theorem lkZ43 : Cond.static yL_form ∈ zW := zw (zt3 (List.mem_of_getElem? (i := 124) rfl)) rfl
theorem lkZ44 : Cond.codeWith yL_form cL_form 4 (some .int) [(0, 9, 12, 13), (0, 9, 15, 15), (0, 9, 18, 31)] ∈ zW := zw (zt3 (List.mem_of_getElem? (i := 125) rfl)) rfl
theorem lkZ45 : Cond.methodLink RL 119 yX10_form ∈ zW := zw (zt6 (List.mem_of_getElem? (i := 42) rfl)) rfl
theorem lkZ46 : Cond.instanceMethod yX10_form ∈ zW := zw (zt6 (List.mem_of_getElem? (i := 43) rfl)) rfl
theorem lkZ47 : Cond.selects RX10 yX10_form yX10_form ∈ zW := zw (zt6 (List.mem_of_getElem? (i := 44) rfl)) rfl
theorem lkZ48 : Cond.code yX10_form cX10_form 6 (some .int) ∈ zW := zw (zt6 (List.mem_of_getElem? (i := 45) rfl)) rfl
theorem lkZ49 : Cond.methodLink RL 120 yL_pass ∈ zW := zw (zt4 (List.mem_of_getElem? (i := 45) rfl)) rfl
theorem lkZ50 : Cond.static yL_pass ∈ zW := zw (zt4 (List.mem_of_getElem? (i := 46) rfl)) rfl
theorem lkZ51 : Cond.codeWith yL_pass cL_pass 4 (some .int) [(0, 9, 12, 13), (0, 9, 15, 15), (0, 9, 18, 31)] ∈ zW := zw (zt4 (List.mem_of_getElem? (i := 47) rfl)) rfl
theorem lkZ52 : Cond.methodLink RL 122 yX10_pass ∈ zW := zw (zt6 (List.mem_of_getElem? (i := 126) rfl)) rfl
theorem lkZ53 : Cond.instanceMethod yX10_pass ∈ zW := zw (zt6 (List.mem_of_getElem? (i := 127) rfl)) rfl
theorem lkZ54 : Cond.selects RX10 yX10_pass yX10_pass ∈ zW := zw (zt6 (List.mem_of_getElem? (i := 128) rfl)) rfl
theorem lkZ55 : Cond.code yX10_pass cX10_pass 5 (some .int) ∈ zW := zw (zt6 (List.mem_of_getElem? (i := 129) rfl)) rfl
theorem lkZ56 : Cond.methodLink RL 123 yL_best ∈ zW := zw (zt4 (List.mem_of_getElem? (i := 108) rfl)) rfl
theorem lkZ57 : Cond.static yL_best ∈ zW := zw (zt4 (List.mem_of_getElem? (i := 109) rfl)) rfl
theorem lkZ58 : Cond.codeWith yL_best cL_best 4 (some .int) [(0, 9, 12, 13), (0, 9, 15, 15), (0, 9, 18, 31)] ∈ zW := zw (zt4 (List.mem_of_getElem? (i := 110) rfl)) rfl
theorem lkZ59 : Cond.methodLink RL 125 yX10_best ∈ zW := zw (zt6 (List.mem_of_getElem? (i := 150) rfl)) rfl
theorem lkZ60 : Cond.instanceMethod yX10_best ∈ zW := zw (zt6 (List.mem_of_getElem? (i := 151) rfl)) rfl
theorem lkZ61 : Cond.selects RX10 yX10_best yX10_best ∈ zW := zw (zt6 (List.mem_of_getElem? (i := 152) rfl)) rfl
theorem lkZ62 : Cond.code yX10_best cX10_best 3 (some .int) ∈ zW := zw (zt6 (List.mem_of_getElem? (i := 153) rfl)) rfl
theorem lkZ63 : Cond.methodLink RL 126 yL_poly ∈ zW := zw (zt4 (List.mem_of_getElem? (i := 124) rfl)) rfl
theorem lkZ64 : Cond.static yL_poly ∈ zW := zw (zt4 (List.mem_of_getElem? (i := 125) rfl)) rfl
theorem lkZ65 : Cond.codeWith yL_poly cL_poly 4 (some .int) [(0, 9, 12, 13), (0, 9, 15, 15), (0, 9, 18, 31)] ∈ zW := zw (zt4 (List.mem_of_getElem? (i := 126) rfl)) rfl
theorem lkZ66 : Cond.methodLink RL 128 yX10_poly ∈ zW := zw (zt6 (List.mem_of_getElem? (i := 162) rfl)) rfl
theorem lkZ67 : Cond.instanceMethod yX10_poly ∈ zW := zw (zt6 (List.mem_of_getElem? (i := 163) rfl)) rfl
theorem lkZ68 : Cond.selects RX10 yX10_poly yX10_poly ∈ zW := zw (zt6 (List.mem_of_getElem? (i := 164) rfl)) rfl
theorem lkZ69 : Cond.code yX10_poly cX10_poly 4 (some .int) ∈ zW := zw (zt6 (List.mem_of_getElem? (i := 165) rfl)) rfl
theorem lkZ70 : Cond.methodLink RL 129 yL_plan ∈ zW := zw (zt4 (List.mem_of_getElem? (i := 174) rfl)) rfl
theorem lkZ71 : Cond.static yL_plan ∈ zW := zw (zt4 (List.mem_of_getElem? (i := 175) rfl)) rfl
theorem lkZ72 : Cond.codeWith yL_plan cL_plan 4 (some .int) [(0, 9, 12, 13)] ∈ zW := zw (zt4 (List.mem_of_getElem? (i := 176) rfl)) rfl
theorem lkZ73 : Cond.methodLink RL 131 yX10_plan ∈ zW := zw (zt6 (List.mem_of_getElem? (i := 198) rfl)) rfl
theorem lkZ74 : Cond.instanceMethod yX10_plan ∈ zW := zw (zt6 (List.mem_of_getElem? (i := 199) rfl)) rfl
theorem lkZ75 : Cond.selects RX10 yX10_plan yX10_plan ∈ zW := zw (zt6 (List.mem_of_getElem? (i := 200) rfl)) rfl
theorem lkZ76 : Cond.code yX10_plan cX10_plan 10 (some .int) ∈ zW := zw (zt6 (List.mem_of_getElem? (i := 201) rfl)) rfl
theorem lkZ77 : Cond.methodLink RL 132 yX9_runs ∈ zW := zw (zt2 (List.mem_of_getElem? (i := 134) rfl)) rfl
theorem lkZ78 : Cond.instanceMethod yX9_runs ∈ zW := zw (zt2 (List.mem_of_getElem? (i := 135) rfl)) rfl
theorem lkZ79 : Cond.selects RX9 yX9_runs yX9_runs ∈ zW := zw (zt2 (List.mem_of_getElem? (i := 136) rfl)) rfl
theorem lkZ80 : Cond.initialized RX9 ∈ zW := zw (zt1 (List.mem_of_getElem? (i := 1) rfl)) rfl
theorem lkZ81 : Cond.code yX9_runs cX9_runs 1 (some .int) ∈ zW := zw (zt2 (List.mem_of_getElem? (i := 137) rfl)) rfl
theorem lkZ82 : Cond.methodLink RL 135 yX10_runs ∈ zW := zw (zt6 (List.mem_of_getElem? (i := 202) rfl)) rfl
theorem lkZ83 : Cond.instanceMethod yX10_runs ∈ zW := zw (zt6 (List.mem_of_getElem? (i := 203) rfl)) rfl
theorem lkZ84 : Cond.selects RX10 yX10_runs yX10_runs ∈ zW := zw (zt6 (List.mem_of_getElem? (i := 204) rfl)) rfl
theorem lkZ85 : Cond.code yX10_runs cX10_runs 1 (some .int) ∈ zW := zw (zt6 (List.mem_of_getElem? (i := 205) rfl)) rfl
theorem lkZ86 : Cond.methodLink RL 136 yL_records ∈ zW := zw (zt4 (List.mem_of_getElem? (i := 197) rfl)) rfl
theorem lkZ87 : Cond.static yL_records ∈ zW := zw (zt4 (List.mem_of_getElem? (i := 198) rfl)) rfl
theorem lkZ88 : Cond.codeWith yL_records cL_records 4 (some .int) [(0, 9, 12, 21)] ∈ zW := zw (zt4 (List.mem_of_getElem? (i := 199) rfl)) rfl
theorem lkZ89 : Cond.methodLink RL 138 yX10_records ∈ zW := zw (zt6 (List.mem_of_getElem? (i := 206) rfl)) rfl
theorem lkZ90 : Cond.instanceMethod yX10_records ∈ zW := zw (zt6 (List.mem_of_getElem? (i := 207) rfl)) rfl
theorem lkZ91 : Cond.selects RX10 yX10_records yX10_records ∈ zW := zw (zt6 (List.mem_of_getElem? (i := 208) rfl)) rfl
theorem lkZ92 : Cond.code yX10_records cX10_records 2 (some .int) ∈ zW := zw (zt6 (List.mem_of_getElem? (i := 209) rfl)) rfl
theorem lkZ93 : Cond.methodLink RL 139 yL_block ∈ zW := zw (zt4 (List.mem_of_getElem? (i := 209) rfl)) rfl
theorem lkZ94 : Cond.static yL_block ∈ zW := zw (zt4 (List.mem_of_getElem? (i := 210) rfl)) rfl
theorem lkZ95 : Cond.codeWith yL_block cL_block 5 (some .int) [(0, 10, 13, 21)] ∈ zW := zw (zt4 (List.mem_of_getElem? (i := 211) rfl)) rfl
theorem lkZ96 : Cond.methodLink RL 142 yX10_block ∈ zW := zw (zt6 (List.mem_of_getElem? (i := 210) rfl)) rfl
theorem lkZ97 : Cond.instanceMethod yX10_block ∈ zW := zw (zt6 (List.mem_of_getElem? (i := 211) rfl)) rfl
theorem lkZ98 : Cond.selects RX10 yX10_block yX10_block ∈ zW := zw (zt6 (List.mem_of_getElem? (i := 212) rfl)) rfl
theorem lkZ99 : Cond.code yX10_block cX10_block 4 (some .int) ∈ zW := zw (zt6 (List.mem_of_getElem? (i := 213) rfl)) rfl
theorem lkZ100 : Cond.methodLink RL 143 yL_told ∈ zW := zw (zt4 (List.mem_of_getElem? (i := 221) rfl)) rfl
theorem lkZ101 : Cond.static yL_told ∈ zW := zw (zt4 (List.mem_of_getElem? (i := 222) rfl)) rfl
theorem lkZ102 : Cond.codeWith yL_told cL_told 6 (some .int) [(0, 11, 14, 21), (0, 11, 18, 15)] ∈ zW := zw (zt4 (List.mem_of_getElem? (i := 223) rfl)) rfl
theorem lkZ103 : Cond.methodLink RL 146 yX10_told ∈ zW := zw (zt6 (List.mem_of_getElem? (i := 218) rfl)) rfl
theorem lkZ104 : Cond.instanceMethod yX10_told ∈ zW := zw (zt6 (List.mem_of_getElem? (i := 219) rfl)) rfl
theorem lkZ105 : Cond.selects RX10 yX10_told yX10_told ∈ zW := zw (zt6 (List.mem_of_getElem? (i := 220) rfl)) rfl
theorem lkZ106 : Cond.code yX10_told cX10_told 5 (some .long) ∈ zW := zw (zt6 (List.mem_of_getElem? (i := 221) rfl)) rfl
theorem lkZ107 : Cond.methodLink RL 147 yL_rank ∈ zW := zw (zt4 (List.mem_of_getElem? (i := 235) rfl)) rfl
theorem lkZ108 : Cond.static yL_rank ∈ zW := zw (zt4 (List.mem_of_getElem? (i := 236) rfl)) rfl
theorem lkZ109 : Cond.codeWith yL_rank cL_rank 6 (some .int) [(0, 11, 14, 21), (0, 11, 18, 15)] ∈ zW := zw (zt4 (List.mem_of_getElem? (i := 237) rfl)) rfl
theorem lkZ110 : Cond.methodLink RL 150 yX10_rank ∈ zW := zw (zt6 (List.mem_of_getElem? (i := 226) rfl)) rfl
theorem lkZ111 : Cond.instanceMethod yX10_rank ∈ zW := zw (zt6 (List.mem_of_getElem? (i := 227) rfl)) rfl
theorem lkZ112 : Cond.selects RX10 yX10_rank yX10_rank ∈ zW := zw (zt6 (List.mem_of_getElem? (i := 228) rfl)) rfl
theorem lkZ113 : Cond.code yX10_rank cX10_rank 12 (some .int) ∈ zW := zw (zt6 (List.mem_of_getElem? (i := 229) rfl)) rfl
theorem lkZ114 : Cond.methodLink RL 151 yL_drop ∈ zW := zw (zt5 (List.mem_of_getElem? (i := 10) rfl)) rfl
theorem lkZ115 : Cond.static yL_drop ∈ zW := zw (zt5 (List.mem_of_getElem? (i := 11) rfl)) rfl
theorem lkZ116 : Cond.codeWith yL_drop cL_drop 4 (some .int) [(0, 9, 12, 21), (0, 9, 15, 15)] ∈ zW := zw (zt5 (List.mem_of_getElem? (i := 12) rfl)) rfl
theorem lkZ117 : Cond.methodLink RL 153 yX10_drop ∈ zW := zw (zt6 (List.mem_of_getElem? (i := 230) rfl)) rfl
theorem lkZ118 : Cond.instanceMethod yX10_drop ∈ zW := zw (zt6 (List.mem_of_getElem? (i := 231) rfl)) rfl
theorem lkZ119 : Cond.selects RX10 yX10_drop yX10_drop ∈ zW := zw (zt6 (List.mem_of_getElem? (i := 232) rfl)) rfl
theorem lkZ120 : Cond.code yX10_drop cX10_drop 3 (some .int) ∈ zW := zw (zt6 (List.mem_of_getElem? (i := 233) rfl)) rfl
theorem lkZ121 : Cond.methodLink RL 154 yL_count ∈ zW := zw (zt5 (List.mem_of_getElem? (i := 18) rfl)) rfl
theorem lkZ122 : Cond.static yL_count ∈ zW := zw (zt5 (List.mem_of_getElem? (i := 19) rfl)) rfl
theorem lkZ123 : Cond.codeWith yL_count cL_count 4 (some .int) [(0, 9, 12, 13)] ∈ zW := zw (zt5 (List.mem_of_getElem? (i := 20) rfl)) rfl
theorem lkZ124 : Cond.methodLink RL 156 yX10_count ∈ zW := zw (zt6 (List.mem_of_getElem? (i := 234) rfl)) rfl
theorem lkZ125 : Cond.instanceMethod yX10_count ∈ zW := zw (zt6 (List.mem_of_getElem? (i := 235) rfl)) rfl
theorem lkZ126 : Cond.selects RX10 yX10_count yX10_count ∈ zW := zw (zt6 (List.mem_of_getElem? (i := 236) rfl)) rfl
theorem lkZ127 : Cond.code yX10_count cX10_count 2 (some .int) ∈ zW := zw (zt6 (List.mem_of_getElem? (i := 237) rfl)) rfl
theorem lkZ128 : Cond.methodLink RL 157 yL_crash ∈ zW := zw (zt5 (List.mem_of_getElem? (i := 30) rfl)) rfl
theorem lkZ129 : Cond.static yL_crash ∈ zW := zw (zt5 (List.mem_of_getElem? (i := 31) rfl)) rfl
theorem lkZ130 : Cond.codeWith yL_crash cL_crash 3 (some .int) [(0, 5, 8, 13), (0, 5, 11, 15)] ∈ zW := zw (zt5 (List.mem_of_getElem? (i := 32) rfl)) rfl
theorem lkZ131 : Cond.methodLink RL 159 yX10_crash ∈ zW := zw (zt7 (List.mem_of_getElem? (i := 2) rfl)) rfl
theorem lkZ132 : Cond.instanceMethod yX10_crash ∈ zW := zw (zt7 (List.mem_of_getElem? (i := 3) rfl)) rfl
theorem lkZ133 : Cond.selects RX10 yX10_crash yX10_crash ∈ zW := zw (zt7 (List.mem_of_getElem? (i := 4) rfl)) rfl
theorem lkZ134 : Cond.code yX10_crash cX10_crash 2 none ∈ zW := zw (zt7 (List.mem_of_getElem? (i := 5) rfl)) rfl
theorem lkZ135 : Cond.methodLink RL 160 yL_up ∈ zW := zw (zt5 (List.mem_of_getElem? (i := 39) rfl)) rfl
theorem lkZ136 : Cond.static yL_up ∈ zW := zw (zt5 (List.mem_of_getElem? (i := 40) rfl)) rfl
theorem lkZ137 : Cond.codeWith yL_up cL_up 3 (some .int) [(0, 8, 11, 15)] ∈ zW := zw (zt5 (List.mem_of_getElem? (i := 41) rfl)) rfl
theorem lkZ138 : Cond.methodLink RL 163 yX10_up ∈ zW := zw (zt7 (List.mem_of_getElem? (i := 7) rfl)) rfl
theorem lkZ139 : Cond.instanceMethod yX10_up ∈ zW := zw (zt7 (List.mem_of_getElem? (i := 8) rfl)) rfl
theorem lkZ140 : Cond.selects RX10 yX10_up yX10_up ∈ zW := zw (zt7 (List.mem_of_getElem? (i := 9) rfl)) rfl
theorem lkZ141 : Cond.code yX10_up cX10_up 1 (some .int) ∈ zW := zw (zt7 (List.mem_of_getElem? (i := 10) rfl)) rfl
theorem hdL_width : yL_width.cls ≠ "java/lang/invoke/MethodHandle" ∧ yL_width.cls ≠ "java/lang/invoke/VarHandle" ∧ (parseMethodDescriptor yL_width.desc).map (fun d => d.parameters.length) = some 2 := by decide +kernel
set_option maxRecDepth 20000 in
set_option maxHeartbeats 4000000 in
theorem lk_width {p : Program} {l : Launch} {e : Env} {s : State} {m : MethodId} {args : Array Value} {below : List Frame} {meth : Method} {c : Code} {H : Heap} {locs : List Loc} {cells slots : Nat} {Q : State → Prop} {κ : zG} {A : Nat → Prop} {b L n : Nat} {xs : Nat → Int32} {σ σ' τ τ' : zS} {o o' : Nat → Int64} {ls : Array Slot} {i : Int32} {r1 : String ⊕ Unit} {k : Int32} (C : zCL κ A b L xs p l s m args meth c) (h : zH wL κ A s ((σ, o), τ) H locs) (hl : lv_has ls 8 [(0, .ref b), (1, .ref (κ.2.1 0)), (2, .ref (κ.2.1 100)), (3, .ref (κ.2.1 60)), (4, .int i)]) (hi : ∀ d : Int32, d ∈ ([1, 2, 3, 4, 5, 6, 7, 8] : List Int32) → zin (i + d) L = true) (hcs : cells + 2 ≤ room_1.cells ∧ slots + 6 * 2 ≤ room_1.slots) (hf : fX9_width_0 n (κ.2.2.2 0) (κ.2.2.2 1) (κ.2.2.2 2) σ (xs (i + 1).toNatClampNeg) = some (r1, σ')) (hg : fL_width r1 o = some (k, o')) (hm : fX10_width_0 n τ (xs (i + 1).toNatClampNeg) = some τ') (ht : fX10_thrown_0 n τ' = some k)
    (kk : ∀ (H1 : Heap) (locs1 : List Loc) (ls1 : Array Slot), zH wL κ A s ((σ', o'), τ') H1 locs1 → lv_has ls1 8 [(0, .ref b), (1, .ref (κ.2.1 0)), (2, .ref (κ.2.1 100)), (3, .ref (κ.2.1 60)), (4, .int i)] → W p l e room_1 s m args below meth c H1 locs1 (cells + 2) (slots + 6 * 2) Q (F0 m 1462 ls1 [])) : W p l e room_1 s m args below meth c H locs cells slots Q (F0 m 160 ls []) := by
  refine lv_aload_n C.1.ex C.1.by dL_law_160 rfl (lv_at hl 1 rfl) ?_
  refine lv_aload_n C.1.ex C.1.by dL_law_161 rfl (lv_at hl 0 rfl) ?_
  refine lv_iload C.1.ex C.1.by dL_law_162 (lv_at hl 4 rfl) ?_
  refine lv_iconst (v := 1) C.1.ex C.1.by dL_law_164 (by decide) ?_
  refine lv_iadd C.1.ex C.1.by dL_law_165 ?_
  refine z_sld C h (hi 1 (by decide)) dL_law_166 ?_
  refine z_lawW (rest := []) C h (wr_width C.2.1 hf hg) (zgSW lkZ0 lkZ1 lkZ2 lkZ3) ⟨rfl, rfl⟩ hdL_width ⟨Nat.le_of_ble_eq_true rfl, Nat.le_of_ble_eq_true rfl⟩ hl rfl rfl (Nat.le_of_ble_eq_true rfl) dL_law_167 hcs (fun H locs h => ?_)
  refine lv_istore (lv' := [(5, .int k), (0, .ref b), (1, .ref (κ.2.1 0)), (2, .ref (κ.2.1 100)), (3, .ref (κ.2.1 60)), (4, .int i)]) C.1.ex C.1.by dL_law_170 hl (by decide) rfl (fun ls hl => ?_)
  refine lv_aload_n C.1.ex C.1.by dL_law_172 rfl (lv_at hl 3 rfl) ?_
  refine lv_aload_n C.1.ex C.1.by dL_law_173 rfl (lv_at hl 1 rfl) ?_
  refine lv_iload C.1.ex C.1.by dL_law_174 (lv_at hl 5 rfl) ?_
  refine lv_iconst (v := 1) C.1.ex C.1.by dL_law_176 (by decide) ?_
  refine lv_iadd C.1.ex C.1.by dL_law_177 ?_
  refine z_sld C h (hi 1 (by decide)) dL_law_178 ?_
  refine z_lawMv (rest := []) C h (ctX10_width (κ := zκM κ) hm) (zgV lkZ4 lkZ5 lkZ6 lkZ7 lkZ8) ⟨rfl, rfl⟩ hdX10_width ⟨Nat.le_of_ble_eq_true rfl, Nat.le_of_ble_eq_true rfl⟩ hl rfl rfl (Nat.le_of_ble_eq_true rfl) dL_law_179 hcs (fun H locs h => ?_)
  refine lv_aload_n C.1.ex C.1.by dL_law_182 rfl (lv_at hl 3 rfl) ?_
  refine z_lawMi (rest := []) C h (ctX10_thrown (κ := zκM κ) ht) (zgV lkZ9 lkZ10 lkZ11 lkZ7 lkZ12) ⟨rfl, rfl⟩ hdX10_thrown ⟨Nat.le_of_ble_eq_true rfl, Nat.le_of_ble_eq_true rfl⟩ hl rfl rfl (Nat.le_of_ble_eq_true rfl) dL_law_183 hcs (fun H locs h => ?_)
  refine lv_iload C.1.ex C.1.by dL_law_186 (lv_at hl 0 rfl) ?_
  refine lv_icmp_eq (tgt := 193) C.1.ex C.1.by dL_law_188 (by decide) (fun _ => ?_) (fun q => absurd rfl q)
  refine lv_goto (tgt := 1462) C.1.ex C.1.by dL_law_193 (by decide) ?_
  exact kk H locs ls h (lv_sub hl [1, 2, 3, 4, 5] rfl)
theorem hdL_key : yL_key.cls ≠ "java/lang/invoke/MethodHandle" ∧ yL_key.cls ≠ "java/lang/invoke/VarHandle" ∧ (parseMethodDescriptor yL_key.desc).map (fun d => d.parameters.length) = some 4 := by decide +kernel
set_option maxRecDepth 20000 in
set_option maxHeartbeats 4000000 in
theorem lk_key {p : Program} {l : Launch} {e : Env} {s : State} {m : MethodId} {args : Array Value} {below : List Frame} {meth : Method} {c : Code} {H : Heap} {locs : List Loc} {cells slots : Nat} {Q : State → Prop} {κ : zG} {A : Nat → Prop} {b L n : Nat} {xs : Nat → Int32} {σ σ' τ τ' : zS} {o o' : Nat → Int64} {ls : Array Slot} {i : Int32} {r1 : String ⊕ Int32} {k : Int32} {rb : Int32} {x2 : Int32} (C : zCL κ A b L xs p l s m args meth c) (h : zH wL κ A s ((σ, o), τ) H locs) (hl : lv_has ls 8 [(0, .ref b), (1, .ref (κ.2.1 0)), (2, .ref (κ.2.1 100)), (3, .ref (κ.2.1 60)), (4, .int i)]) (hi : ∀ d : Int32, d ∈ ([1, 2, 3, 4, 5, 6, 7, 8] : List Int32) → zin (i + d) L = true) (hcs : cells + 2 ≤ room_1.cells ∧ slots + 6 * 2 ≤ room_1.slots) (hx2 : (xs (i + 2).toNatClampNeg = 0 ∧ x2 = 0) ∨ (¬ xs (i + 2).toNatClampNeg = 0 ∧ x2 = 1)) (hf : fX9_key_0 n (κ.2.2.2 0) (κ.2.2.2 1) (κ.2.2.2 2) σ (xs (i + 1).toNatClampNeg) x2 = some (r1, σ')) (hg : fL_key r1 o = some (k, o')) (hm : fX10_key_0 n τ (xs (i + 1).toNatClampNeg) x2 = some (rb, τ')) (ht : fX10_thrown_0 n τ' = some k) (hb : k = 0 → o' (Int32.toNatClampNeg 0) = rb.toInt64)
    (kk : ∀ (H1 : Heap) (locs1 : List Loc) (ls1 : Array Slot), zH wL κ A s ((σ', o'), τ') H1 locs1 → lv_has ls1 8 [(0, .ref b), (1, .ref (κ.2.1 0)), (2, .ref (κ.2.1 100)), (3, .ref (κ.2.1 60)), (4, .int i)] → W p l e room_1 s m args below meth c H1 locs1 (cells + 2) (slots + 6 * 2) Q (F0 m 1462 ls1 [])) : W p l e room_1 s m args below meth c H locs cells slots Q (F0 m 196 ls []) := by
  rcases hx2 with ⟨hv, rfl⟩ | ⟨hv, rfl⟩
  · skip
    refine lv_aload_n C.1.ex C.1.by dL_law_196 rfl (lv_at hl 1 rfl) ?_
    refine lv_aload_n C.1.ex C.1.by dL_law_197 rfl (lv_at hl 0 rfl) ?_
    refine lv_iload C.1.ex C.1.by dL_law_198 (lv_at hl 4 rfl) ?_
    refine lv_iconst (v := 1) C.1.ex C.1.by dL_law_200 (by decide) ?_
    refine lv_iadd C.1.ex C.1.by dL_law_201 ?_
    refine z_sld C h (hi 1 (by decide)) dL_law_202 ?_
    refine lv_aload_n C.1.ex C.1.by dL_law_203 rfl (lv_at hl 0 rfl) ?_
    refine lv_iload C.1.ex C.1.by dL_law_204 (lv_at hl 4 rfl) ?_
    refine lv_iconst (v := 2) C.1.ex C.1.by dL_law_206 (by decide) ?_
    refine lv_iadd C.1.ex C.1.by dL_law_207 ?_
    refine z_sld C h (hi 2 (by decide)) dL_law_208 ?_
    refine lv_if_eq (tgt := 216) C.1.ex C.1.by dL_law_209 (by decide) (fun _ => ?_) (fun q => absurd hv q)
    refine lv_iconst (v := 0) C.1.ex C.1.by dL_law_216 (by decide) ?_
    refine lv_aload_n C.1.ex C.1.by dL_law_217 rfl (lv_at hl 3 rfl) ?_
    refine z_lawW (rest := []) C h (wr_key C.2.1 hf hg) (zgSW lkZ13 lkZ14 lkZ2 lkZ15) ⟨rfl, rfl⟩ hdL_key ⟨Nat.le_of_ble_eq_true rfl, Nat.le_of_ble_eq_true rfl⟩ hl rfl rfl (Nat.le_of_ble_eq_true rfl) dL_law_218 hcs (fun H locs h => ?_)
    refine lv_istore (lv' := [(5, .int k), (0, .ref b), (1, .ref (κ.2.1 0)), (2, .ref (κ.2.1 100)), (3, .ref (κ.2.1 60)), (4, .int i)]) C.1.ex C.1.by dL_law_221 hl (by decide) rfl (fun ls hl => ?_)
    refine lv_aload_n C.1.ex C.1.by dL_law_223 rfl (lv_at hl 3 rfl) ?_
    refine lv_aload_n C.1.ex C.1.by dL_law_224 rfl (lv_at hl 1 rfl) ?_
    refine lv_iload C.1.ex C.1.by dL_law_225 (lv_at hl 5 rfl) ?_
    refine lv_iconst (v := 1) C.1.ex C.1.by dL_law_227 (by decide) ?_
    refine lv_iadd C.1.ex C.1.by dL_law_228 ?_
    refine z_sld C h (hi 1 (by decide)) dL_law_229 ?_
    refine lv_aload_n C.1.ex C.1.by dL_law_230 rfl (lv_at hl 1 rfl) ?_
    refine lv_iload C.1.ex C.1.by dL_law_231 (lv_at hl 5 rfl) ?_
    refine lv_iconst (v := 2) C.1.ex C.1.by dL_law_233 (by decide) ?_
    refine lv_iadd C.1.ex C.1.by dL_law_234 ?_
    refine z_sld C h (hi 2 (by decide)) dL_law_235 ?_
    refine lv_if_eq (tgt := 243) C.1.ex C.1.by dL_law_236 (by decide) (fun _ => ?_) (fun q => absurd hv q)
    refine lv_iconst (v := 0) C.1.ex C.1.by dL_law_243 (by decide) ?_
    refine z_lawMi (rest := []) C h (ctX10_key (κ := zκM κ) hm) (zgV lkZ16 lkZ17 lkZ18 lkZ7 lkZ19) ⟨rfl, rfl⟩ hdX10_key ⟨Nat.le_of_ble_eq_true rfl, Nat.le_of_ble_eq_true rfl⟩ hl rfl rfl (Nat.le_of_ble_eq_true rfl) dL_law_244 hcs (fun H locs h => ?_)
    refine lv_istore (lv' := [(6, .int rb), (5, .int k), (0, .ref b), (1, .ref (κ.2.1 0)), (2, .ref (κ.2.1 100)), (3, .ref (κ.2.1 60)), (4, .int i)]) C.1.ex C.1.by dL_law_247 hl (by decide) rfl (fun ls hl => ?_)
    refine lv_aload_n C.1.ex C.1.by dL_law_249 rfl (lv_at hl 4 rfl) ?_
    refine z_lawMi (rest := []) C h (ctX10_thrown (κ := zκM κ) ht) (zgV lkZ9 lkZ10 lkZ11 lkZ7 lkZ12) ⟨rfl, rfl⟩ hdX10_thrown ⟨Nat.le_of_ble_eq_true rfl, Nat.le_of_ble_eq_true rfl⟩ hl rfl rfl (Nat.le_of_ble_eq_true rfl) dL_law_250 hcs (fun H locs h => ?_)
    refine lv_iload C.1.ex C.1.by dL_law_253 (lv_at hl 1 rfl) ?_
    refine lv_icmp_eq (tgt := 260) C.1.ex C.1.by dL_law_255 (by decide) (fun _ => ?_) (fun q => absurd rfl q)
    refine lv_iload C.1.ex C.1.by dL_law_260 (lv_at hl 1 rfl) ?_
    refine lv_if_ne (tgt := 277) C.1.ex C.1.by dL_law_262 (by decide) (fun c1 => ?_) (fun c1 => ?_)
    · skip
      refine lv_goto (tgt := 1462) C.1.ex C.1.by dL_law_277 (by decide) ?_
      exact kk H locs ls h (lv_sub hl [2, 3, 4, 5, 6] rfl)
    · skip
      refine lv_aload_n C.1.ex C.1.by dL_law_265 rfl (lv_at hl 5 rfl) ?_
      refine lv_iconst (v := 0) C.1.ex C.1.by dL_law_266 (by decide) ?_
      refine z_lald (w := wL) C.1 h 52 (wL_at52 κ _) (by decide) dL_law_267 ?_
      refine lv_iload C.1.ex C.1.by dL_law_268 (lv_at hl 0 rfl) ?_
      refine lv_i2l (v := Int32.toInt64 rb) C.1.ex C.1.by dL_law_270 rfl ?_
      refine W.lcmp C.1.ex C.1.by dL_law_271 ?_
      refine lv_if_eq (tgt := 277) C.1.ex C.1.by dL_law_272 (by decide) (fun _ => ?_) (fun q => absurd (z_lcmp0 (hb c1)) q)
      refine lv_goto (tgt := 1462) C.1.ex C.1.by dL_law_277 (by decide) ?_
      exact kk H locs ls h (lv_sub hl [2, 3, 4, 5, 6] rfl)
  · skip
    refine lv_aload_n C.1.ex C.1.by dL_law_196 rfl (lv_at hl 1 rfl) ?_
    refine lv_aload_n C.1.ex C.1.by dL_law_197 rfl (lv_at hl 0 rfl) ?_
    refine lv_iload C.1.ex C.1.by dL_law_198 (lv_at hl 4 rfl) ?_
    refine lv_iconst (v := 1) C.1.ex C.1.by dL_law_200 (by decide) ?_
    refine lv_iadd C.1.ex C.1.by dL_law_201 ?_
    refine z_sld C h (hi 1 (by decide)) dL_law_202 ?_
    refine lv_aload_n C.1.ex C.1.by dL_law_203 rfl (lv_at hl 0 rfl) ?_
    refine lv_iload C.1.ex C.1.by dL_law_204 (lv_at hl 4 rfl) ?_
    refine lv_iconst (v := 2) C.1.ex C.1.by dL_law_206 (by decide) ?_
    refine lv_iadd C.1.ex C.1.by dL_law_207 ?_
    refine z_sld C h (hi 2 (by decide)) dL_law_208 ?_
    refine lv_if_eq (tgt := 216) C.1.ex C.1.by dL_law_209 (by decide) (fun q => absurd q hv) (fun _ => ?_)
    refine lv_iconst (v := 1) C.1.ex C.1.by dL_law_212 (by decide) ?_
    refine lv_goto (tgt := 217) C.1.ex C.1.by dL_law_213 (by decide) ?_
    refine lv_aload_n C.1.ex C.1.by dL_law_217 rfl (lv_at hl 3 rfl) ?_
    refine z_lawW (rest := []) C h (wr_key C.2.1 hf hg) (zgSW lkZ13 lkZ14 lkZ2 lkZ15) ⟨rfl, rfl⟩ hdL_key ⟨Nat.le_of_ble_eq_true rfl, Nat.le_of_ble_eq_true rfl⟩ hl rfl rfl (Nat.le_of_ble_eq_true rfl) dL_law_218 hcs (fun H locs h => ?_)
    refine lv_istore (lv' := [(5, .int k), (0, .ref b), (1, .ref (κ.2.1 0)), (2, .ref (κ.2.1 100)), (3, .ref (κ.2.1 60)), (4, .int i)]) C.1.ex C.1.by dL_law_221 hl (by decide) rfl (fun ls hl => ?_)
    refine lv_aload_n C.1.ex C.1.by dL_law_223 rfl (lv_at hl 3 rfl) ?_
    refine lv_aload_n C.1.ex C.1.by dL_law_224 rfl (lv_at hl 1 rfl) ?_
    refine lv_iload C.1.ex C.1.by dL_law_225 (lv_at hl 5 rfl) ?_
    refine lv_iconst (v := 1) C.1.ex C.1.by dL_law_227 (by decide) ?_
    refine lv_iadd C.1.ex C.1.by dL_law_228 ?_
    refine z_sld C h (hi 1 (by decide)) dL_law_229 ?_
    refine lv_aload_n C.1.ex C.1.by dL_law_230 rfl (lv_at hl 1 rfl) ?_
    refine lv_iload C.1.ex C.1.by dL_law_231 (lv_at hl 5 rfl) ?_
    refine lv_iconst (v := 2) C.1.ex C.1.by dL_law_233 (by decide) ?_
    refine lv_iadd C.1.ex C.1.by dL_law_234 ?_
    refine z_sld C h (hi 2 (by decide)) dL_law_235 ?_
    refine lv_if_eq (tgt := 243) C.1.ex C.1.by dL_law_236 (by decide) (fun q => absurd q hv) (fun _ => ?_)
    refine lv_iconst (v := 1) C.1.ex C.1.by dL_law_239 (by decide) ?_
    refine lv_goto (tgt := 244) C.1.ex C.1.by dL_law_240 (by decide) ?_
    refine z_lawMi (rest := []) C h (ctX10_key (κ := zκM κ) hm) (zgV lkZ16 lkZ17 lkZ18 lkZ7 lkZ19) ⟨rfl, rfl⟩ hdX10_key ⟨Nat.le_of_ble_eq_true rfl, Nat.le_of_ble_eq_true rfl⟩ hl rfl rfl (Nat.le_of_ble_eq_true rfl) dL_law_244 hcs (fun H locs h => ?_)
    refine lv_istore (lv' := [(6, .int rb), (5, .int k), (0, .ref b), (1, .ref (κ.2.1 0)), (2, .ref (κ.2.1 100)), (3, .ref (κ.2.1 60)), (4, .int i)]) C.1.ex C.1.by dL_law_247 hl (by decide) rfl (fun ls hl => ?_)
    refine lv_aload_n C.1.ex C.1.by dL_law_249 rfl (lv_at hl 4 rfl) ?_
    refine z_lawMi (rest := []) C h (ctX10_thrown (κ := zκM κ) ht) (zgV lkZ9 lkZ10 lkZ11 lkZ7 lkZ12) ⟨rfl, rfl⟩ hdX10_thrown ⟨Nat.le_of_ble_eq_true rfl, Nat.le_of_ble_eq_true rfl⟩ hl rfl rfl (Nat.le_of_ble_eq_true rfl) dL_law_250 hcs (fun H locs h => ?_)
    refine lv_iload C.1.ex C.1.by dL_law_253 (lv_at hl 1 rfl) ?_
    refine lv_icmp_eq (tgt := 260) C.1.ex C.1.by dL_law_255 (by decide) (fun _ => ?_) (fun q => absurd rfl q)
    refine lv_iload C.1.ex C.1.by dL_law_260 (lv_at hl 1 rfl) ?_
    refine lv_if_ne (tgt := 277) C.1.ex C.1.by dL_law_262 (by decide) (fun c1 => ?_) (fun c1 => ?_)
    · skip
      refine lv_goto (tgt := 1462) C.1.ex C.1.by dL_law_277 (by decide) ?_
      exact kk H locs ls h (lv_sub hl [2, 3, 4, 5, 6] rfl)
    · skip
      refine lv_aload_n C.1.ex C.1.by dL_law_265 rfl (lv_at hl 5 rfl) ?_
      refine lv_iconst (v := 0) C.1.ex C.1.by dL_law_266 (by decide) ?_
      refine z_lald (w := wL) C.1 h 52 (wL_at52 κ _) (by decide) dL_law_267 ?_
      refine lv_iload C.1.ex C.1.by dL_law_268 (lv_at hl 0 rfl) ?_
      refine lv_i2l (v := Int32.toInt64 rb) C.1.ex C.1.by dL_law_270 rfl ?_
      refine W.lcmp C.1.ex C.1.by dL_law_271 ?_
      refine lv_if_eq (tgt := 277) C.1.ex C.1.by dL_law_272 (by decide) (fun _ => ?_) (fun q => absurd (z_lcmp0 (hb c1)) q)
      refine lv_goto (tgt := 1462) C.1.ex C.1.by dL_law_277 (by decide) ?_
      exact kk H locs ls h (lv_sub hl [2, 3, 4, 5, 6] rfl)
theorem hdL_mode : yL_mode.cls ≠ "java/lang/invoke/MethodHandle" ∧ yL_mode.cls ≠ "java/lang/invoke/VarHandle" ∧ (parseMethodDescriptor yL_mode.desc).map (fun d => d.parameters.length) = some 3 := by decide +kernel
set_option maxRecDepth 20000 in
set_option maxHeartbeats 4000000 in
theorem lk_mode {p : Program} {l : Launch} {e : Env} {s : State} {m : MethodId} {args : Array Value} {below : List Frame} {meth : Method} {c : Code} {H : Heap} {locs : List Loc} {cells slots : Nat} {Q : State → Prop} {κ : zG} {A : Nat → Prop} {b L n : Nat} {xs : Nat → Int32} {σ σ' τ τ' : zS} {o o' : Nat → Int64} {ls : Array Slot} {i : Int32} {r1 : String ⊕ Int32} {k : Int32} {rb : Int32} (C : zCL κ A b L xs p l s m args meth c) (h : zH wL κ A s ((σ, o), τ) H locs) (hl : lv_has ls 8 [(0, .ref b), (1, .ref (κ.2.1 0)), (2, .ref (κ.2.1 100)), (3, .ref (κ.2.1 60)), (4, .int i)]) (hi : ∀ d : Int32, d ∈ ([1, 2, 3, 4, 5, 6, 7, 8] : List Int32) → zin (i + d) L = true) (hcs : cells + 1 ≤ room_1.cells ∧ slots + 6 * 1 ≤ room_1.slots) (hf : fX9_mode_0 n (κ.2.2.2 0) (κ.2.2.2 1) (κ.2.2.2 2) σ (xs (i + 1).toNatClampNeg) = some (r1, σ')) (hg : fL_mode r1 o = some (k, o')) (hm : fX10_mode_0 n τ (xs (i + 1).toNatClampNeg) = some (rb, τ')) (ht : fX10_thrown_0 n τ' = some k) (hb : k = 0 → o' (Int32.toNatClampNeg 0) = rb.toInt64)
    (kk : ∀ (H1 : Heap) (locs1 : List Loc) (ls1 : Array Slot), zH wL κ A s ((σ', o'), τ') H1 locs1 → lv_has ls1 8 [(0, .ref b), (1, .ref (κ.2.1 0)), (2, .ref (κ.2.1 100)), (3, .ref (κ.2.1 60)), (4, .int i)] → W p l e room_1 s m args below meth c H1 locs1 (cells + 1) (slots + 6 * 1) Q (F0 m 1462 ls1 [])) : W p l e room_1 s m args below meth c H locs cells slots Q (F0 m 280 ls []) := by
  refine lv_aload_n C.1.ex C.1.by dL_law_280 rfl (lv_at hl 1 rfl) ?_
  refine lv_aload_n C.1.ex C.1.by dL_law_281 rfl (lv_at hl 0 rfl) ?_
  refine lv_iload C.1.ex C.1.by dL_law_282 (lv_at hl 4 rfl) ?_
  refine lv_iconst (v := 1) C.1.ex C.1.by dL_law_284 (by decide) ?_
  refine lv_iadd C.1.ex C.1.by dL_law_285 ?_
  refine z_sld C h (hi 1 (by decide)) dL_law_286 ?_
  refine lv_aload_n C.1.ex C.1.by dL_law_287 rfl (lv_at hl 3 rfl) ?_
  refine z_lawW (rest := []) C h (wr_mode C.2.1 hf hg) (zgSW lkZ20 lkZ21 lkZ2 lkZ22) ⟨rfl, rfl⟩ hdL_mode ⟨Nat.le_of_ble_eq_true rfl, Nat.le_of_ble_eq_true rfl⟩ hl rfl rfl (Nat.le_of_ble_eq_true rfl) dL_law_288 hcs (fun H locs h => ?_)
  refine lv_istore (lv' := [(5, .int k), (0, .ref b), (1, .ref (κ.2.1 0)), (2, .ref (κ.2.1 100)), (3, .ref (κ.2.1 60)), (4, .int i)]) C.1.ex C.1.by dL_law_291 hl (by decide) rfl (fun ls hl => ?_)
  refine lv_aload_n C.1.ex C.1.by dL_law_293 rfl (lv_at hl 3 rfl) ?_
  refine lv_aload_n C.1.ex C.1.by dL_law_294 rfl (lv_at hl 1 rfl) ?_
  refine lv_iload C.1.ex C.1.by dL_law_295 (lv_at hl 5 rfl) ?_
  refine lv_iconst (v := 1) C.1.ex C.1.by dL_law_297 (by decide) ?_
  refine lv_iadd C.1.ex C.1.by dL_law_298 ?_
  refine z_sld C h (hi 1 (by decide)) dL_law_299 ?_
  refine z_lawMi (rest := []) C h (ctX10_mode (κ := zκM κ) hm) (zgV lkZ23 lkZ24 lkZ25 lkZ7 lkZ26) ⟨rfl, rfl⟩ hdX10_mode ⟨Nat.le_of_ble_eq_true rfl, Nat.le_of_ble_eq_true rfl⟩ hl rfl rfl (Nat.le_of_ble_eq_true rfl) dL_law_300 hcs (fun H locs h => ?_)
  refine lv_istore (lv' := [(6, .int rb), (5, .int k), (0, .ref b), (1, .ref (κ.2.1 0)), (2, .ref (κ.2.1 100)), (3, .ref (κ.2.1 60)), (4, .int i)]) C.1.ex C.1.by dL_law_303 hl (by decide) rfl (fun ls hl => ?_)
  refine lv_aload_n C.1.ex C.1.by dL_law_305 rfl (lv_at hl 4 rfl) ?_
  refine z_lawMi (rest := []) C h (ctX10_thrown (κ := zκM κ) ht) (zgV lkZ9 lkZ10 lkZ11 lkZ7 lkZ12) ⟨rfl, rfl⟩ hdX10_thrown ⟨Nat.le_of_ble_eq_true rfl, Nat.le_of_ble_eq_true rfl⟩ hl rfl rfl (Nat.le_of_ble_eq_true rfl) dL_law_306 hcs (fun H locs h => ?_)
  refine lv_iload C.1.ex C.1.by dL_law_309 (lv_at hl 1 rfl) ?_
  refine lv_icmp_eq (tgt := 316) C.1.ex C.1.by dL_law_311 (by decide) (fun _ => ?_) (fun q => absurd rfl q)
  refine lv_iload C.1.ex C.1.by dL_law_316 (lv_at hl 1 rfl) ?_
  refine lv_if_ne (tgt := 333) C.1.ex C.1.by dL_law_318 (by decide) (fun c1 => ?_) (fun c1 => ?_)
  · skip
    refine lv_goto (tgt := 1462) C.1.ex C.1.by dL_law_333 (by decide) ?_
    exact kk H locs ls h (lv_sub hl [2, 3, 4, 5, 6] rfl)
  · skip
    refine lv_aload_n C.1.ex C.1.by dL_law_321 rfl (lv_at hl 5 rfl) ?_
    refine lv_iconst (v := 0) C.1.ex C.1.by dL_law_322 (by decide) ?_
    refine z_lald (w := wL) C.1 h 52 (wL_at52 κ _) (by decide) dL_law_323 ?_
    refine lv_iload C.1.ex C.1.by dL_law_324 (lv_at hl 0 rfl) ?_
    refine lv_i2l (v := Int32.toInt64 rb) C.1.ex C.1.by dL_law_326 rfl ?_
    refine W.lcmp C.1.ex C.1.by dL_law_327 ?_
    refine lv_if_eq (tgt := 333) C.1.ex C.1.by dL_law_328 (by decide) (fun _ => ?_) (fun q => absurd (z_lcmp0 (hb c1)) q)
    refine lv_goto (tgt := 1462) C.1.ex C.1.by dL_law_333 (by decide) ?_
    exact kk H locs ls h (lv_sub hl [2, 3, 4, 5, 6] rfl)
theorem hdL_feed : yL_feed.cls ≠ "java/lang/invoke/MethodHandle" ∧ yL_feed.cls ≠ "java/lang/invoke/VarHandle" ∧ (parseMethodDescriptor yL_feed.desc).map (fun d => d.parameters.length) = some 6 := by decide +kernel
set_option maxRecDepth 20000 in
set_option maxHeartbeats 4000000 in
theorem lk_feed {p : Program} {l : Launch} {e : Env} {s : State} {m : MethodId} {args : Array Value} {below : List Frame} {meth : Method} {c : Code} {H : Heap} {locs : List Loc} {cells slots : Nat} {Q : State → Prop} {κ : zG} {A : Nat → Prop} {b L n : Nat} {xs : Nat → Int32} {σ σ' τ τ' : zS} {o o' : Nat → Int64} {ls : Array Slot} {i : Int32} {r1 : String ⊕ Int32} {k : Int32} {rb : Int32} (C : zCL κ A b L xs p l s m args meth c) (h : zH wL κ A s ((σ, o), τ) H locs) (hl : lv_has ls 8 [(0, .ref b), (1, .ref (κ.2.1 0)), (2, .ref (κ.2.1 100)), (3, .ref (κ.2.1 60)), (4, .int i)]) (hi : ∀ d : Int32, d ∈ ([1, 2, 3, 4, 5, 6, 7, 8] : List Int32) → zin (i + d) L = true) (hcs : cells + 2 ≤ room_1.cells ∧ slots + 6 * 2 ≤ room_1.slots) (hf : fX9_feed_0 n (κ.2.2.2 0) (κ.2.2.2 1) (κ.2.2.2 2) σ (zJ (xs (i + 1).toNatClampNeg) (xs (i + 2).toNatClampNeg)) (zJ (xs (i + 3).toNatClampNeg) (xs (i + 4).toNatClampNeg)) (zJ (xs (i + 5).toNatClampNeg) (xs (i + 6).toNatClampNeg)) (zJ (xs (i + 7).toNatClampNeg) (xs (i + 8).toNatClampNeg)) = some (r1, σ')) (hg : fL_feed r1 o = some (k, o')) (hm : fX10_feed_0 n τ (zJ (xs (i + 1).toNatClampNeg) (xs (i + 2).toNatClampNeg)) (zJ (xs (i + 3).toNatClampNeg) (xs (i + 4).toNatClampNeg)) (zJ (xs (i + 5).toNatClampNeg) (xs (i + 6).toNatClampNeg)) (zJ (xs (i + 7).toNatClampNeg) (xs (i + 8).toNatClampNeg)) = some (rb, τ')) (ht : fX10_thrown_0 n τ' = some k) (hb : k = 0 → o' (Int32.toNatClampNeg 0) = rb.toInt64)
    (kk : ∀ (H1 : Heap) (locs1 : List Loc) (ls1 : Array Slot), zH wL κ A s ((σ', o'), τ') H1 locs1 → lv_has ls1 8 [(0, .ref b), (1, .ref (κ.2.1 0)), (2, .ref (κ.2.1 100)), (3, .ref (κ.2.1 60)), (4, .int i)] → W p l e room_1 s m args below meth c H1 locs1 (cells + 2) (slots + 6 * 2) Q (F0 m 1462 ls1 [])) : W p l e room_1 s m args below meth c H locs cells slots Q (F0 m 336 ls []) := by
  refine lv_aload_n C.1.ex C.1.by dL_law_336 rfl (lv_at hl 1 rfl) ?_
  refine lv_aload_n C.1.ex C.1.by dL_law_337 rfl (lv_at hl 0 rfl) ?_
  refine lv_iload C.1.ex C.1.by dL_law_338 (lv_at hl 4 rfl) ?_
  refine lv_iconst (v := 1) C.1.ex C.1.by dL_law_340 (by decide) ?_
  refine lv_iadd C.1.ex C.1.by dL_law_341 ?_
  refine z_sld C h (hi 1 (by decide)) dL_law_342 ?_
  refine lv_i2l (v := Int32.toInt64 (xs (i + 1).toNatClampNeg)) C.1.ex C.1.by dL_law_343 rfl ?_
  refine lv_bipush (v := 32) C.1.ex C.1.by dL_law_344 (by decide) ?_
  refine lv_lshl (v := ((Int32.toInt64 (xs (i + 1).toNatClampNeg)) <<< ((32 : Int32).toInt64 &&& 63))) C.1.ex C.1.by dL_law_346 rfl ?_
  refine lv_aload_n C.1.ex C.1.by dL_law_347 rfl (lv_at hl 0 rfl) ?_
  refine lv_iload C.1.ex C.1.by dL_law_348 (lv_at hl 4 rfl) ?_
  refine lv_iconst (v := 2) C.1.ex C.1.by dL_law_350 (by decide) ?_
  refine lv_iadd C.1.ex C.1.by dL_law_351 ?_
  refine z_sld C h (hi 2 (by decide)) dL_law_352 ?_
  refine lv_i2l (v := Int32.toInt64 (xs (i + 2).toNatClampNeg)) C.1.ex C.1.by dL_law_353 rfl ?_
  refine lv_ldc2 (v := 4294967295) C.1.ex C.1.by C.1.ow (C.1.ts _ lkZ27) dL_law_354 ?_
  refine lv_land C.1.ex C.1.by dL_law_357 ?_
  refine lv_lor C.1.ex C.1.by dL_law_358 ?_
  refine lv_aload_n C.1.ex C.1.by dL_law_359 rfl (lv_at hl 0 rfl) ?_
  refine lv_iload C.1.ex C.1.by dL_law_360 (lv_at hl 4 rfl) ?_
  refine lv_iconst (v := 3) C.1.ex C.1.by dL_law_362 (by decide) ?_
  refine lv_iadd C.1.ex C.1.by dL_law_363 ?_
  refine z_sld C h (hi 3 (by decide)) dL_law_364 ?_
  refine lv_i2l (v := Int32.toInt64 (xs (i + 3).toNatClampNeg)) C.1.ex C.1.by dL_law_365 rfl ?_
  refine lv_bipush (v := 32) C.1.ex C.1.by dL_law_366 (by decide) ?_
  refine lv_lshl (v := ((Int32.toInt64 (xs (i + 3).toNatClampNeg)) <<< ((32 : Int32).toInt64 &&& 63))) C.1.ex C.1.by dL_law_368 rfl ?_
  refine lv_aload_n C.1.ex C.1.by dL_law_369 rfl (lv_at hl 0 rfl) ?_
  refine lv_iload C.1.ex C.1.by dL_law_370 (lv_at hl 4 rfl) ?_
  refine lv_iconst (v := 4) C.1.ex C.1.by dL_law_372 (by decide) ?_
  refine lv_iadd C.1.ex C.1.by dL_law_373 ?_
  refine z_sld C h (hi 4 (by decide)) dL_law_374 ?_
  refine lv_i2l (v := Int32.toInt64 (xs (i + 4).toNatClampNeg)) C.1.ex C.1.by dL_law_375 rfl ?_
  refine lv_ldc2 (v := 4294967295) C.1.ex C.1.by C.1.ow (C.1.ts _ lkZ27) dL_law_376 ?_
  refine lv_land C.1.ex C.1.by dL_law_379 ?_
  refine lv_lor C.1.ex C.1.by dL_law_380 ?_
  refine lv_aload_n C.1.ex C.1.by dL_law_381 rfl (lv_at hl 0 rfl) ?_
  refine lv_iload C.1.ex C.1.by dL_law_382 (lv_at hl 4 rfl) ?_
  refine lv_iconst (v := 5) C.1.ex C.1.by dL_law_384 (by decide) ?_
  refine lv_iadd C.1.ex C.1.by dL_law_385 ?_
  refine z_sld C h (hi 5 (by decide)) dL_law_386 ?_
  refine lv_i2l (v := Int32.toInt64 (xs (i + 5).toNatClampNeg)) C.1.ex C.1.by dL_law_387 rfl ?_
  refine lv_bipush (v := 32) C.1.ex C.1.by dL_law_388 (by decide) ?_
  refine lv_lshl (v := ((Int32.toInt64 (xs (i + 5).toNatClampNeg)) <<< ((32 : Int32).toInt64 &&& 63))) C.1.ex C.1.by dL_law_390 rfl ?_
  refine lv_aload_n C.1.ex C.1.by dL_law_391 rfl (lv_at hl 0 rfl) ?_
  refine lv_iload C.1.ex C.1.by dL_law_392 (lv_at hl 4 rfl) ?_
  refine lv_bipush (v := 6) C.1.ex C.1.by dL_law_394 (by decide) ?_
  refine lv_iadd C.1.ex C.1.by dL_law_396 ?_
  refine z_sld C h (hi 6 (by decide)) dL_law_397 ?_
  refine lv_i2l (v := Int32.toInt64 (xs (i + 6).toNatClampNeg)) C.1.ex C.1.by dL_law_398 rfl ?_
  refine lv_ldc2 (v := 4294967295) C.1.ex C.1.by C.1.ow (C.1.ts _ lkZ27) dL_law_399 ?_
  refine lv_land C.1.ex C.1.by dL_law_402 ?_
  refine lv_lor C.1.ex C.1.by dL_law_403 ?_
  refine lv_aload_n C.1.ex C.1.by dL_law_404 rfl (lv_at hl 0 rfl) ?_
  refine lv_iload C.1.ex C.1.by dL_law_405 (lv_at hl 4 rfl) ?_
  refine lv_bipush (v := 7) C.1.ex C.1.by dL_law_407 (by decide) ?_
  refine lv_iadd C.1.ex C.1.by dL_law_409 ?_
  refine z_sld C h (hi 7 (by decide)) dL_law_410 ?_
  refine lv_i2l (v := Int32.toInt64 (xs (i + 7).toNatClampNeg)) C.1.ex C.1.by dL_law_411 rfl ?_
  refine lv_bipush (v := 32) C.1.ex C.1.by dL_law_412 (by decide) ?_
  refine lv_lshl (v := ((Int32.toInt64 (xs (i + 7).toNatClampNeg)) <<< ((32 : Int32).toInt64 &&& 63))) C.1.ex C.1.by dL_law_414 rfl ?_
  refine lv_aload_n C.1.ex C.1.by dL_law_415 rfl (lv_at hl 0 rfl) ?_
  refine lv_iload C.1.ex C.1.by dL_law_416 (lv_at hl 4 rfl) ?_
  refine lv_bipush (v := 8) C.1.ex C.1.by dL_law_418 (by decide) ?_
  refine lv_iadd C.1.ex C.1.by dL_law_420 ?_
  refine z_sld C h (hi 8 (by decide)) dL_law_421 ?_
  refine lv_i2l (v := Int32.toInt64 (xs (i + 8).toNatClampNeg)) C.1.ex C.1.by dL_law_422 rfl ?_
  refine lv_ldc2 (v := 4294967295) C.1.ex C.1.by C.1.ow (C.1.ts _ lkZ27) dL_law_423 ?_
  refine lv_land C.1.ex C.1.by dL_law_426 ?_
  refine lv_lor C.1.ex C.1.by dL_law_427 ?_
  refine lv_aload_n C.1.ex C.1.by dL_law_428 rfl (lv_at hl 3 rfl) ?_
  refine z_lawW (rest := []) C h (wr_feed C.2.1 hf hg) (zgSW lkZ28 lkZ29 lkZ2 lkZ30) ⟨rfl, rfl⟩ hdL_feed ⟨Nat.le_of_ble_eq_true rfl, Nat.le_of_ble_eq_true rfl⟩ hl rfl rfl (Nat.le_of_ble_eq_true rfl) dL_law_429 hcs (fun H locs h => ?_)
  refine lv_istore (lv' := [(5, .int k), (0, .ref b), (1, .ref (κ.2.1 0)), (2, .ref (κ.2.1 100)), (3, .ref (κ.2.1 60)), (4, .int i)]) C.1.ex C.1.by dL_law_432 hl (by decide) rfl (fun ls hl => ?_)
  refine lv_aload_n C.1.ex C.1.by dL_law_434 rfl (lv_at hl 3 rfl) ?_
  refine lv_aload_n C.1.ex C.1.by dL_law_435 rfl (lv_at hl 1 rfl) ?_
  refine lv_iload C.1.ex C.1.by dL_law_436 (lv_at hl 5 rfl) ?_
  refine lv_iconst (v := 1) C.1.ex C.1.by dL_law_438 (by decide) ?_
  refine lv_iadd C.1.ex C.1.by dL_law_439 ?_
  refine z_sld C h (hi 1 (by decide)) dL_law_440 ?_
  refine lv_i2l (v := Int32.toInt64 (xs (i + 1).toNatClampNeg)) C.1.ex C.1.by dL_law_441 rfl ?_
  refine lv_bipush (v := 32) C.1.ex C.1.by dL_law_442 (by decide) ?_
  refine lv_lshl (v := ((Int32.toInt64 (xs (i + 1).toNatClampNeg)) <<< ((32 : Int32).toInt64 &&& 63))) C.1.ex C.1.by dL_law_444 rfl ?_
  refine lv_aload_n C.1.ex C.1.by dL_law_445 rfl (lv_at hl 1 rfl) ?_
  refine lv_iload C.1.ex C.1.by dL_law_446 (lv_at hl 5 rfl) ?_
  refine lv_iconst (v := 2) C.1.ex C.1.by dL_law_448 (by decide) ?_
  refine lv_iadd C.1.ex C.1.by dL_law_449 ?_
  refine z_sld C h (hi 2 (by decide)) dL_law_450 ?_
  refine lv_i2l (v := Int32.toInt64 (xs (i + 2).toNatClampNeg)) C.1.ex C.1.by dL_law_451 rfl ?_
  refine lv_ldc2 (v := 4294967295) C.1.ex C.1.by C.1.ow (C.1.ts _ lkZ27) dL_law_452 ?_
  refine lv_land C.1.ex C.1.by dL_law_455 ?_
  refine lv_lor C.1.ex C.1.by dL_law_456 ?_
  refine lv_aload_n C.1.ex C.1.by dL_law_457 rfl (lv_at hl 1 rfl) ?_
  refine lv_iload C.1.ex C.1.by dL_law_458 (lv_at hl 5 rfl) ?_
  refine lv_iconst (v := 3) C.1.ex C.1.by dL_law_460 (by decide) ?_
  refine lv_iadd C.1.ex C.1.by dL_law_461 ?_
  refine z_sld C h (hi 3 (by decide)) dL_law_462 ?_
  refine lv_i2l (v := Int32.toInt64 (xs (i + 3).toNatClampNeg)) C.1.ex C.1.by dL_law_463 rfl ?_
  refine lv_bipush (v := 32) C.1.ex C.1.by dL_law_464 (by decide) ?_
  refine lv_lshl (v := ((Int32.toInt64 (xs (i + 3).toNatClampNeg)) <<< ((32 : Int32).toInt64 &&& 63))) C.1.ex C.1.by dL_law_466 rfl ?_
  refine lv_aload_n C.1.ex C.1.by dL_law_467 rfl (lv_at hl 1 rfl) ?_
  refine lv_iload C.1.ex C.1.by dL_law_468 (lv_at hl 5 rfl) ?_
  refine lv_iconst (v := 4) C.1.ex C.1.by dL_law_470 (by decide) ?_
  refine lv_iadd C.1.ex C.1.by dL_law_471 ?_
  refine z_sld C h (hi 4 (by decide)) dL_law_472 ?_
  refine lv_i2l (v := Int32.toInt64 (xs (i + 4).toNatClampNeg)) C.1.ex C.1.by dL_law_473 rfl ?_
  refine lv_ldc2 (v := 4294967295) C.1.ex C.1.by C.1.ow (C.1.ts _ lkZ27) dL_law_474 ?_
  refine lv_land C.1.ex C.1.by dL_law_477 ?_
  refine lv_lor C.1.ex C.1.by dL_law_478 ?_
  refine lv_aload_n C.1.ex C.1.by dL_law_479 rfl (lv_at hl 1 rfl) ?_
  refine lv_iload C.1.ex C.1.by dL_law_480 (lv_at hl 5 rfl) ?_
  refine lv_iconst (v := 5) C.1.ex C.1.by dL_law_482 (by decide) ?_
  refine lv_iadd C.1.ex C.1.by dL_law_483 ?_
  refine z_sld C h (hi 5 (by decide)) dL_law_484 ?_
  refine lv_i2l (v := Int32.toInt64 (xs (i + 5).toNatClampNeg)) C.1.ex C.1.by dL_law_485 rfl ?_
  refine lv_bipush (v := 32) C.1.ex C.1.by dL_law_486 (by decide) ?_
  refine lv_lshl (v := ((Int32.toInt64 (xs (i + 5).toNatClampNeg)) <<< ((32 : Int32).toInt64 &&& 63))) C.1.ex C.1.by dL_law_488 rfl ?_
  refine lv_aload_n C.1.ex C.1.by dL_law_489 rfl (lv_at hl 1 rfl) ?_
  refine lv_iload C.1.ex C.1.by dL_law_490 (lv_at hl 5 rfl) ?_
  refine lv_bipush (v := 6) C.1.ex C.1.by dL_law_492 (by decide) ?_
  refine lv_iadd C.1.ex C.1.by dL_law_494 ?_
  refine z_sld C h (hi 6 (by decide)) dL_law_495 ?_
  refine lv_i2l (v := Int32.toInt64 (xs (i + 6).toNatClampNeg)) C.1.ex C.1.by dL_law_496 rfl ?_
  refine lv_ldc2 (v := 4294967295) C.1.ex C.1.by C.1.ow (C.1.ts _ lkZ27) dL_law_497 ?_
  refine lv_land C.1.ex C.1.by dL_law_500 ?_
  refine lv_lor C.1.ex C.1.by dL_law_501 ?_
  refine lv_aload_n C.1.ex C.1.by dL_law_502 rfl (lv_at hl 1 rfl) ?_
  refine lv_iload C.1.ex C.1.by dL_law_503 (lv_at hl 5 rfl) ?_
  refine lv_bipush (v := 7) C.1.ex C.1.by dL_law_505 (by decide) ?_
  refine lv_iadd C.1.ex C.1.by dL_law_507 ?_
  refine z_sld C h (hi 7 (by decide)) dL_law_508 ?_
  refine lv_i2l (v := Int32.toInt64 (xs (i + 7).toNatClampNeg)) C.1.ex C.1.by dL_law_509 rfl ?_
  refine lv_bipush (v := 32) C.1.ex C.1.by dL_law_510 (by decide) ?_
  refine lv_lshl (v := ((Int32.toInt64 (xs (i + 7).toNatClampNeg)) <<< ((32 : Int32).toInt64 &&& 63))) C.1.ex C.1.by dL_law_512 rfl ?_
  refine lv_aload_n C.1.ex C.1.by dL_law_513 rfl (lv_at hl 1 rfl) ?_
  refine lv_iload C.1.ex C.1.by dL_law_514 (lv_at hl 5 rfl) ?_
  refine lv_bipush (v := 8) C.1.ex C.1.by dL_law_516 (by decide) ?_
  refine lv_iadd C.1.ex C.1.by dL_law_518 ?_
  refine z_sld C h (hi 8 (by decide)) dL_law_519 ?_
  refine lv_i2l (v := Int32.toInt64 (xs (i + 8).toNatClampNeg)) C.1.ex C.1.by dL_law_520 rfl ?_
  refine lv_ldc2 (v := 4294967295) C.1.ex C.1.by C.1.ow (C.1.ts _ lkZ27) dL_law_521 ?_
  refine lv_land C.1.ex C.1.by dL_law_524 ?_
  refine lv_lor C.1.ex C.1.by dL_law_525 ?_
  refine z_lawMi (rest := []) C h (ctX10_feed (κ := zκM κ) hm) (zgV lkZ31 lkZ32 lkZ33 lkZ7 lkZ34) ⟨rfl, rfl⟩ hdX10_feed ⟨Nat.le_of_ble_eq_true rfl, Nat.le_of_ble_eq_true rfl⟩ hl rfl rfl (Nat.le_of_ble_eq_true rfl) dL_law_526 hcs (fun H locs h => ?_)
  refine lv_istore (lv' := [(6, .int rb), (5, .int k), (0, .ref b), (1, .ref (κ.2.1 0)), (2, .ref (κ.2.1 100)), (3, .ref (κ.2.1 60)), (4, .int i)]) C.1.ex C.1.by dL_law_529 hl (by decide) rfl (fun ls hl => ?_)
  refine lv_aload_n C.1.ex C.1.by dL_law_531 rfl (lv_at hl 4 rfl) ?_
  refine z_lawMi (rest := []) C h (ctX10_thrown (κ := zκM κ) ht) (zgV lkZ9 lkZ10 lkZ11 lkZ7 lkZ12) ⟨rfl, rfl⟩ hdX10_thrown ⟨Nat.le_of_ble_eq_true rfl, Nat.le_of_ble_eq_true rfl⟩ hl rfl rfl (Nat.le_of_ble_eq_true rfl) dL_law_532 hcs (fun H locs h => ?_)
  refine lv_iload C.1.ex C.1.by dL_law_535 (lv_at hl 1 rfl) ?_
  refine lv_icmp_eq (tgt := 542) C.1.ex C.1.by dL_law_537 (by decide) (fun _ => ?_) (fun q => absurd rfl q)
  refine lv_iload C.1.ex C.1.by dL_law_542 (lv_at hl 1 rfl) ?_
  refine lv_if_ne (tgt := 559) C.1.ex C.1.by dL_law_544 (by decide) (fun c1 => ?_) (fun c1 => ?_)
  · skip
    refine lv_goto (tgt := 1462) C.1.ex C.1.by dL_law_559 (by decide) ?_
    exact kk H locs ls h (lv_sub hl [2, 3, 4, 5, 6] rfl)
  · skip
    refine lv_aload_n C.1.ex C.1.by dL_law_547 rfl (lv_at hl 5 rfl) ?_
    refine lv_iconst (v := 0) C.1.ex C.1.by dL_law_548 (by decide) ?_
    refine z_lald (w := wL) C.1 h 52 (wL_at52 κ _) (by decide) dL_law_549 ?_
    refine lv_iload C.1.ex C.1.by dL_law_550 (lv_at hl 0 rfl) ?_
    refine lv_i2l (v := Int32.toInt64 rb) C.1.ex C.1.by dL_law_552 rfl ?_
    refine W.lcmp C.1.ex C.1.by dL_law_553 ?_
    refine lv_if_eq (tgt := 559) C.1.ex C.1.by dL_law_554 (by decide) (fun _ => ?_) (fun q => absurd (z_lcmp0 (hb c1)) q)
    refine lv_goto (tgt := 1462) C.1.ex C.1.by dL_law_559 (by decide) ?_
    exact kk H locs ls h (lv_sub hl [2, 3, 4, 5, 6] rfl)
theorem hdL_run : yL_run.cls ≠ "java/lang/invoke/MethodHandle" ∧ yL_run.cls ≠ "java/lang/invoke/VarHandle" ∧ (parseMethodDescriptor yL_run.desc).map (fun d => d.parameters.length) = some 5 := by decide +kernel
set_option maxRecDepth 20000 in
set_option maxHeartbeats 4000000 in
theorem lk_run {p : Program} {l : Launch} {e : Env} {s : State} {m : MethodId} {args : Array Value} {below : List Frame} {meth : Method} {c : Code} {H : Heap} {locs : List Loc} {cells slots : Nat} {Q : State → Prop} {κ : zG} {A : Nat → Prop} {b L n : Nat} {xs : Nat → Int32} {σ σ' τ τ' : zS} {o o' : Nat → Int64} {ls : Array Slot} {i : Int32} {r1 : String ⊕ Int32} {k : Int32} {rb : Int32} (C : zCL κ A b L xs p l s m args meth c) (h : zH wL κ A s ((σ, o), τ) H locs) (hl : lv_has ls 8 [(0, .ref b), (1, .ref (κ.2.1 0)), (2, .ref (κ.2.1 100)), (3, .ref (κ.2.1 60)), (4, .int i)]) (hi : ∀ d : Int32, d ∈ ([1, 2, 3, 4, 5, 6, 7, 8] : List Int32) → zin (i + d) L = true) (hcs : cells + 1 ≤ room_1.cells ∧ slots + 6 * 1 ≤ room_1.slots) (hf : fX9_run_0 n (κ.2.2.2 0) (κ.2.2.2 1) (κ.2.2.2 2) σ (zJ (xs (i + 1).toNatClampNeg) (xs (i + 2).toNatClampNeg)) (xs (i + 3).toNatClampNeg) (xs (i + 4).toNatClampNeg) = some (r1, σ')) (hg : fL_run r1 o = some (k, o')) (hm : fX10_run_0 n τ (zJ (xs (i + 1).toNatClampNeg) (xs (i + 2).toNatClampNeg)) (xs (i + 3).toNatClampNeg) (xs (i + 4).toNatClampNeg) = some (rb, τ')) (ht : fX10_thrown_0 n τ' = some k) (hb : k = 0 → o' (Int32.toNatClampNeg 0) = rb.toInt64)
    (kk : ∀ (H1 : Heap) (locs1 : List Loc) (ls1 : Array Slot), zH wL κ A s ((σ', o'), τ') H1 locs1 → lv_has ls1 8 [(0, .ref b), (1, .ref (κ.2.1 0)), (2, .ref (κ.2.1 100)), (3, .ref (κ.2.1 60)), (4, .int i)] → W p l e room_1 s m args below meth c H1 locs1 (cells + 1) (slots + 6 * 1) Q (F0 m 1462 ls1 [])) : W p l e room_1 s m args below meth c H locs cells slots Q (F0 m 562 ls []) := by
  refine lv_aload_n C.1.ex C.1.by dL_law_562 rfl (lv_at hl 1 rfl) ?_
  refine lv_aload_n C.1.ex C.1.by dL_law_563 rfl (lv_at hl 0 rfl) ?_
  refine lv_iload C.1.ex C.1.by dL_law_564 (lv_at hl 4 rfl) ?_
  refine lv_iconst (v := 1) C.1.ex C.1.by dL_law_566 (by decide) ?_
  refine lv_iadd C.1.ex C.1.by dL_law_567 ?_
  refine z_sld C h (hi 1 (by decide)) dL_law_568 ?_
  refine lv_i2l (v := Int32.toInt64 (xs (i + 1).toNatClampNeg)) C.1.ex C.1.by dL_law_569 rfl ?_
  refine lv_bipush (v := 32) C.1.ex C.1.by dL_law_570 (by decide) ?_
  refine lv_lshl (v := ((Int32.toInt64 (xs (i + 1).toNatClampNeg)) <<< ((32 : Int32).toInt64 &&& 63))) C.1.ex C.1.by dL_law_572 rfl ?_
  refine lv_aload_n C.1.ex C.1.by dL_law_573 rfl (lv_at hl 0 rfl) ?_
  refine lv_iload C.1.ex C.1.by dL_law_574 (lv_at hl 4 rfl) ?_
  refine lv_iconst (v := 2) C.1.ex C.1.by dL_law_576 (by decide) ?_
  refine lv_iadd C.1.ex C.1.by dL_law_577 ?_
  refine z_sld C h (hi 2 (by decide)) dL_law_578 ?_
  refine lv_i2l (v := Int32.toInt64 (xs (i + 2).toNatClampNeg)) C.1.ex C.1.by dL_law_579 rfl ?_
  refine lv_ldc2 (v := 4294967295) C.1.ex C.1.by C.1.ow (C.1.ts _ lkZ27) dL_law_580 ?_
  refine lv_land C.1.ex C.1.by dL_law_583 ?_
  refine lv_lor C.1.ex C.1.by dL_law_584 ?_
  refine lv_aload_n C.1.ex C.1.by dL_law_585 rfl (lv_at hl 0 rfl) ?_
  refine lv_iload C.1.ex C.1.by dL_law_586 (lv_at hl 4 rfl) ?_
  refine lv_iconst (v := 3) C.1.ex C.1.by dL_law_588 (by decide) ?_
  refine lv_iadd C.1.ex C.1.by dL_law_589 ?_
  refine z_sld C h (hi 3 (by decide)) dL_law_590 ?_
  refine lv_aload_n C.1.ex C.1.by dL_law_591 rfl (lv_at hl 0 rfl) ?_
  refine lv_iload C.1.ex C.1.by dL_law_592 (lv_at hl 4 rfl) ?_
  refine lv_iconst (v := 4) C.1.ex C.1.by dL_law_594 (by decide) ?_
  refine lv_iadd C.1.ex C.1.by dL_law_595 ?_
  refine z_sld C h (hi 4 (by decide)) dL_law_596 ?_
  refine lv_aload_n C.1.ex C.1.by dL_law_597 rfl (lv_at hl 3 rfl) ?_
  refine z_lawW (rest := []) C h (wr_run C.2.1 hf hg) (zgSW lkZ35 lkZ36 lkZ2 lkZ37) ⟨rfl, rfl⟩ hdL_run ⟨Nat.le_of_ble_eq_true rfl, Nat.le_of_ble_eq_true rfl⟩ hl rfl rfl (Nat.le_of_ble_eq_true rfl) dL_law_598 hcs (fun H locs h => ?_)
  refine lv_istore (lv' := [(5, .int k), (0, .ref b), (1, .ref (κ.2.1 0)), (2, .ref (κ.2.1 100)), (3, .ref (κ.2.1 60)), (4, .int i)]) C.1.ex C.1.by dL_law_601 hl (by decide) rfl (fun ls hl => ?_)
  refine lv_aload_n C.1.ex C.1.by dL_law_603 rfl (lv_at hl 3 rfl) ?_
  refine lv_aload_n C.1.ex C.1.by dL_law_604 rfl (lv_at hl 1 rfl) ?_
  refine lv_iload C.1.ex C.1.by dL_law_605 (lv_at hl 5 rfl) ?_
  refine lv_iconst (v := 1) C.1.ex C.1.by dL_law_607 (by decide) ?_
  refine lv_iadd C.1.ex C.1.by dL_law_608 ?_
  refine z_sld C h (hi 1 (by decide)) dL_law_609 ?_
  refine lv_i2l (v := Int32.toInt64 (xs (i + 1).toNatClampNeg)) C.1.ex C.1.by dL_law_610 rfl ?_
  refine lv_bipush (v := 32) C.1.ex C.1.by dL_law_611 (by decide) ?_
  refine lv_lshl (v := ((Int32.toInt64 (xs (i + 1).toNatClampNeg)) <<< ((32 : Int32).toInt64 &&& 63))) C.1.ex C.1.by dL_law_613 rfl ?_
  refine lv_aload_n C.1.ex C.1.by dL_law_614 rfl (lv_at hl 1 rfl) ?_
  refine lv_iload C.1.ex C.1.by dL_law_615 (lv_at hl 5 rfl) ?_
  refine lv_iconst (v := 2) C.1.ex C.1.by dL_law_617 (by decide) ?_
  refine lv_iadd C.1.ex C.1.by dL_law_618 ?_
  refine z_sld C h (hi 2 (by decide)) dL_law_619 ?_
  refine lv_i2l (v := Int32.toInt64 (xs (i + 2).toNatClampNeg)) C.1.ex C.1.by dL_law_620 rfl ?_
  refine lv_ldc2 (v := 4294967295) C.1.ex C.1.by C.1.ow (C.1.ts _ lkZ27) dL_law_621 ?_
  refine lv_land C.1.ex C.1.by dL_law_624 ?_
  refine lv_lor C.1.ex C.1.by dL_law_625 ?_
  refine lv_aload_n C.1.ex C.1.by dL_law_626 rfl (lv_at hl 1 rfl) ?_
  refine lv_iload C.1.ex C.1.by dL_law_627 (lv_at hl 5 rfl) ?_
  refine lv_iconst (v := 3) C.1.ex C.1.by dL_law_629 (by decide) ?_
  refine lv_iadd C.1.ex C.1.by dL_law_630 ?_
  refine z_sld C h (hi 3 (by decide)) dL_law_631 ?_
  refine lv_aload_n C.1.ex C.1.by dL_law_632 rfl (lv_at hl 1 rfl) ?_
  refine lv_iload C.1.ex C.1.by dL_law_633 (lv_at hl 5 rfl) ?_
  refine lv_iconst (v := 4) C.1.ex C.1.by dL_law_635 (by decide) ?_
  refine lv_iadd C.1.ex C.1.by dL_law_636 ?_
  refine z_sld C h (hi 4 (by decide)) dL_law_637 ?_
  refine z_lawMi (rest := []) C h (ctX10_run (κ := zκM κ) hm) (zgV lkZ38 lkZ39 lkZ40 lkZ7 lkZ41) ⟨rfl, rfl⟩ hdX10_run ⟨Nat.le_of_ble_eq_true rfl, Nat.le_of_ble_eq_true rfl⟩ hl rfl rfl (Nat.le_of_ble_eq_true rfl) dL_law_638 hcs (fun H locs h => ?_)
  refine lv_istore (lv' := [(6, .int rb), (5, .int k), (0, .ref b), (1, .ref (κ.2.1 0)), (2, .ref (κ.2.1 100)), (3, .ref (κ.2.1 60)), (4, .int i)]) C.1.ex C.1.by dL_law_641 hl (by decide) rfl (fun ls hl => ?_)
  refine lv_aload_n C.1.ex C.1.by dL_law_643 rfl (lv_at hl 4 rfl) ?_
  refine z_lawMi (rest := []) C h (ctX10_thrown (κ := zκM κ) ht) (zgV lkZ9 lkZ10 lkZ11 lkZ7 lkZ12) ⟨rfl, rfl⟩ hdX10_thrown ⟨Nat.le_of_ble_eq_true rfl, Nat.le_of_ble_eq_true rfl⟩ hl rfl rfl (Nat.le_of_ble_eq_true rfl) dL_law_644 hcs (fun H locs h => ?_)
  refine lv_iload C.1.ex C.1.by dL_law_647 (lv_at hl 1 rfl) ?_
  refine lv_icmp_eq (tgt := 654) C.1.ex C.1.by dL_law_649 (by decide) (fun _ => ?_) (fun q => absurd rfl q)
  refine lv_iload C.1.ex C.1.by dL_law_654 (lv_at hl 1 rfl) ?_
  refine lv_if_ne (tgt := 671) C.1.ex C.1.by dL_law_656 (by decide) (fun c1 => ?_) (fun c1 => ?_)
  · skip
    refine lv_goto (tgt := 1462) C.1.ex C.1.by dL_law_671 (by decide) ?_
    exact kk H locs ls h (lv_sub hl [2, 3, 4, 5, 6] rfl)
  · skip
    refine lv_aload_n C.1.ex C.1.by dL_law_659 rfl (lv_at hl 5 rfl) ?_
    refine lv_iconst (v := 0) C.1.ex C.1.by dL_law_660 (by decide) ?_
    refine z_lald (w := wL) C.1 h 52 (wL_at52 κ _) (by decide) dL_law_661 ?_
    refine lv_iload C.1.ex C.1.by dL_law_662 (lv_at hl 0 rfl) ?_
    refine lv_i2l (v := Int32.toInt64 rb) C.1.ex C.1.by dL_law_664 rfl ?_
    refine W.lcmp C.1.ex C.1.by dL_law_665 ?_
    refine lv_if_eq (tgt := 671) C.1.ex C.1.by dL_law_666 (by decide) (fun _ => ?_) (fun q => absurd (z_lcmp0 (hb c1)) q)
    refine lv_goto (tgt := 1462) C.1.ex C.1.by dL_law_671 (by decide) ?_
    exact kk H locs ls h (lv_sub hl [2, 3, 4, 5, 6] rfl)
theorem hdL_form : yL_form.cls ≠ "java/lang/invoke/MethodHandle" ∧ yL_form.cls ≠ "java/lang/invoke/VarHandle" ∧ (parseMethodDescriptor yL_form.desc).map (fun d => d.parameters.length) = some 3 := by decide +kernel
set_option maxRecDepth 20000 in
set_option maxHeartbeats 4000000 in
theorem lk_form {p : Program} {l : Launch} {e : Env} {s : State} {m : MethodId} {args : Array Value} {below : List Frame} {meth : Method} {c : Code} {H : Heap} {locs : List Loc} {cells slots : Nat} {Q : State → Prop} {κ : zG} {A : Nat → Prop} {b L n : Nat} {xs : Nat → Int32} {σ σ' τ τ' : zS} {o o' : Nat → Int64} {ls : Array Slot} {i : Int32} {r1 : String ⊕ Int32} {k : Int32} {rb : Int32} (C : zCL κ A b L xs p l s m args meth c) (h : zH wL κ A s ((σ, o), τ) H locs) (hl : lv_has ls 8 [(0, .ref b), (1, .ref (κ.2.1 0)), (2, .ref (κ.2.1 100)), (3, .ref (κ.2.1 60)), (4, .int i)]) (hi : ∀ d : Int32, d ∈ ([1, 2, 3, 4, 5, 6, 7, 8] : List Int32) → zin (i + d) L = true) (hcs : cells + 2 ≤ room_1.cells ∧ slots + 6 * 2 ≤ room_1.slots) (hf : fX9_form_0 n (κ.2.2.2 0) (κ.2.2.2 1) (κ.2.2.2 2) σ (xs (i + 1).toNatClampNeg) = some (r1, σ')) (hg : fL_form r1 o = some (k, o')) (hm : fX10_form_0 n τ (xs (i + 1).toNatClampNeg) = some (rb, τ')) (ht : fX10_thrown_0 n τ' = some k) (hb : k = 0 → o' (Int32.toNatClampNeg 0) = rb.toInt64)
    (kk : ∀ (H1 : Heap) (locs1 : List Loc) (ls1 : Array Slot), zH wL κ A s ((σ', o'), τ') H1 locs1 → lv_has ls1 8 [(0, .ref b), (1, .ref (κ.2.1 0)), (2, .ref (κ.2.1 100)), (3, .ref (κ.2.1 60)), (4, .int i)] → W p l e room_1 s m args below meth c H1 locs1 (cells + 2) (slots + 6 * 2) Q (F0 m 1462 ls1 [])) : W p l e room_1 s m args below meth c H locs cells slots Q (F0 m 674 ls []) := by
  refine lv_aload_n C.1.ex C.1.by dL_law_674 rfl (lv_at hl 1 rfl) ?_
  refine lv_aload_n C.1.ex C.1.by dL_law_675 rfl (lv_at hl 0 rfl) ?_
  refine lv_iload C.1.ex C.1.by dL_law_676 (lv_at hl 4 rfl) ?_
  refine lv_iconst (v := 1) C.1.ex C.1.by dL_law_678 (by decide) ?_
  refine lv_iadd C.1.ex C.1.by dL_law_679 ?_
  refine z_sld C h (hi 1 (by decide)) dL_law_680 ?_
  refine lv_aload_n C.1.ex C.1.by dL_law_681 rfl (lv_at hl 3 rfl) ?_
  refine z_lawW (rest := []) C h (wr_form C.2.1 hf hg) (zgSW lkZ42 lkZ43 lkZ2 lkZ44) ⟨rfl, rfl⟩ hdL_form ⟨Nat.le_of_ble_eq_true rfl, Nat.le_of_ble_eq_true rfl⟩ hl rfl rfl (Nat.le_of_ble_eq_true rfl) dL_law_682 hcs (fun H locs h => ?_)
  refine lv_istore (lv' := [(5, .int k), (0, .ref b), (1, .ref (κ.2.1 0)), (2, .ref (κ.2.1 100)), (3, .ref (κ.2.1 60)), (4, .int i)]) C.1.ex C.1.by dL_law_685 hl (by decide) rfl (fun ls hl => ?_)
  refine lv_aload_n C.1.ex C.1.by dL_law_687 rfl (lv_at hl 3 rfl) ?_
  refine lv_aload_n C.1.ex C.1.by dL_law_688 rfl (lv_at hl 1 rfl) ?_
  refine lv_iload C.1.ex C.1.by dL_law_689 (lv_at hl 5 rfl) ?_
  refine lv_iconst (v := 1) C.1.ex C.1.by dL_law_691 (by decide) ?_
  refine lv_iadd C.1.ex C.1.by dL_law_692 ?_
  refine z_sld C h (hi 1 (by decide)) dL_law_693 ?_
  refine z_lawMi (rest := []) C h (ctX10_form (κ := zκM κ) hm) (zgV lkZ45 lkZ46 lkZ47 lkZ7 lkZ48) ⟨rfl, rfl⟩ hdX10_form ⟨Nat.le_of_ble_eq_true rfl, Nat.le_of_ble_eq_true rfl⟩ hl rfl rfl (Nat.le_of_ble_eq_true rfl) dL_law_694 hcs (fun H locs h => ?_)
  refine lv_istore (lv' := [(6, .int rb), (5, .int k), (0, .ref b), (1, .ref (κ.2.1 0)), (2, .ref (κ.2.1 100)), (3, .ref (κ.2.1 60)), (4, .int i)]) C.1.ex C.1.by dL_law_697 hl (by decide) rfl (fun ls hl => ?_)
  refine lv_aload_n C.1.ex C.1.by dL_law_699 rfl (lv_at hl 4 rfl) ?_
  refine z_lawMi (rest := []) C h (ctX10_thrown (κ := zκM κ) ht) (zgV lkZ9 lkZ10 lkZ11 lkZ7 lkZ12) ⟨rfl, rfl⟩ hdX10_thrown ⟨Nat.le_of_ble_eq_true rfl, Nat.le_of_ble_eq_true rfl⟩ hl rfl rfl (Nat.le_of_ble_eq_true rfl) dL_law_700 hcs (fun H locs h => ?_)
  refine lv_iload C.1.ex C.1.by dL_law_703 (lv_at hl 1 rfl) ?_
  refine lv_icmp_eq (tgt := 710) C.1.ex C.1.by dL_law_705 (by decide) (fun _ => ?_) (fun q => absurd rfl q)
  refine lv_iload C.1.ex C.1.by dL_law_710 (lv_at hl 1 rfl) ?_
  refine lv_if_ne (tgt := 727) C.1.ex C.1.by dL_law_712 (by decide) (fun c1 => ?_) (fun c1 => ?_)
  · skip
    refine lv_goto (tgt := 1462) C.1.ex C.1.by dL_law_727 (by decide) ?_
    exact kk H locs ls h (lv_sub hl [2, 3, 4, 5, 6] rfl)
  · skip
    refine lv_aload_n C.1.ex C.1.by dL_law_715 rfl (lv_at hl 5 rfl) ?_
    refine lv_iconst (v := 0) C.1.ex C.1.by dL_law_716 (by decide) ?_
    refine z_lald (w := wL) C.1 h 52 (wL_at52 κ _) (by decide) dL_law_717 ?_
    refine lv_iload C.1.ex C.1.by dL_law_718 (lv_at hl 0 rfl) ?_
    refine lv_i2l (v := Int32.toInt64 rb) C.1.ex C.1.by dL_law_720 rfl ?_
    refine W.lcmp C.1.ex C.1.by dL_law_721 ?_
    refine lv_if_eq (tgt := 727) C.1.ex C.1.by dL_law_722 (by decide) (fun _ => ?_) (fun q => absurd (z_lcmp0 (hb c1)) q)
    refine lv_goto (tgt := 1462) C.1.ex C.1.by dL_law_727 (by decide) ?_
    exact kk H locs ls h (lv_sub hl [2, 3, 4, 5, 6] rfl)
theorem hdL_pass : yL_pass.cls ≠ "java/lang/invoke/MethodHandle" ∧ yL_pass.cls ≠ "java/lang/invoke/VarHandle" ∧ (parseMethodDescriptor yL_pass.desc).map (fun d => d.parameters.length) = some 3 := by decide +kernel
set_option maxRecDepth 20000 in
set_option maxHeartbeats 4000000 in
theorem lk_pass {p : Program} {l : Launch} {e : Env} {s : State} {m : MethodId} {args : Array Value} {below : List Frame} {meth : Method} {c : Code} {H : Heap} {locs : List Loc} {cells slots : Nat} {Q : State → Prop} {κ : zG} {A : Nat → Prop} {b L n : Nat} {xs : Nat → Int32} {σ σ' τ τ' : zS} {o o' : Nat → Int64} {ls : Array Slot} {i : Int32} {r1 : String ⊕ Int32} {k : Int32} {rb : Int32} (C : zCL κ A b L xs p l s m args meth c) (h : zH wL κ A s ((σ, o), τ) H locs) (hl : lv_has ls 8 [(0, .ref b), (1, .ref (κ.2.1 0)), (2, .ref (κ.2.1 100)), (3, .ref (κ.2.1 60)), (4, .int i)]) (hi : ∀ d : Int32, d ∈ ([1, 2, 3, 4, 5, 6, 7, 8] : List Int32) → zin (i + d) L = true) (hcs : cells + 3 ≤ room_1.cells ∧ slots + 6 * 3 ≤ room_1.slots) (hf : fX9_pass_0 n (κ.2.2.2 0) (κ.2.2.2 1) (κ.2.2.2 2) σ (xs (i + 1).toNatClampNeg) = some (r1, σ')) (hg : fL_pass r1 o = some (k, o')) (hm : fX10_pass_0 n τ (xs (i + 1).toNatClampNeg) = some (rb, τ')) (ht : fX10_thrown_0 n τ' = some k) (hb : k = 0 → o' (Int32.toNatClampNeg 0) = rb.toInt64)
    (kk : ∀ (H1 : Heap) (locs1 : List Loc) (ls1 : Array Slot), zH wL κ A s ((σ', o'), τ') H1 locs1 → lv_has ls1 8 [(0, .ref b), (1, .ref (κ.2.1 0)), (2, .ref (κ.2.1 100)), (3, .ref (κ.2.1 60)), (4, .int i)] → W p l e room_1 s m args below meth c H1 locs1 (cells + 3) (slots + 6 * 3) Q (F0 m 1462 ls1 [])) : W p l e room_1 s m args below meth c H locs cells slots Q (F0 m 730 ls []) := by
  refine lv_aload_n C.1.ex C.1.by dL_law_730 rfl (lv_at hl 1 rfl) ?_
  refine lv_aload_n C.1.ex C.1.by dL_law_731 rfl (lv_at hl 0 rfl) ?_
  refine lv_iload C.1.ex C.1.by dL_law_732 (lv_at hl 4 rfl) ?_
  refine lv_iconst (v := 1) C.1.ex C.1.by dL_law_734 (by decide) ?_
  refine lv_iadd C.1.ex C.1.by dL_law_735 ?_
  refine z_sld C h (hi 1 (by decide)) dL_law_736 ?_
  refine lv_aload_n C.1.ex C.1.by dL_law_737 rfl (lv_at hl 3 rfl) ?_
  refine z_lawW (rest := []) C h (wr_pass C.2.1 hf hg) (zgSW lkZ49 lkZ50 lkZ2 lkZ51) ⟨rfl, rfl⟩ hdL_pass ⟨Nat.le_of_ble_eq_true rfl, Nat.le_of_ble_eq_true rfl⟩ hl rfl rfl (Nat.le_of_ble_eq_true rfl) dL_law_738 hcs (fun H locs h => ?_)
  refine lv_istore (lv' := [(5, .int k), (0, .ref b), (1, .ref (κ.2.1 0)), (2, .ref (κ.2.1 100)), (3, .ref (κ.2.1 60)), (4, .int i)]) C.1.ex C.1.by dL_law_741 hl (by decide) rfl (fun ls hl => ?_)
  refine lv_aload_n C.1.ex C.1.by dL_law_743 rfl (lv_at hl 3 rfl) ?_
  refine lv_aload_n C.1.ex C.1.by dL_law_744 rfl (lv_at hl 1 rfl) ?_
  refine lv_iload C.1.ex C.1.by dL_law_745 (lv_at hl 5 rfl) ?_
  refine lv_iconst (v := 1) C.1.ex C.1.by dL_law_747 (by decide) ?_
  refine lv_iadd C.1.ex C.1.by dL_law_748 ?_
  refine z_sld C h (hi 1 (by decide)) dL_law_749 ?_
  refine z_lawMi (rest := []) C h (ctX10_pass (κ := zκM κ) hm) (zgV lkZ52 lkZ53 lkZ54 lkZ7 lkZ55) ⟨rfl, rfl⟩ hdX10_pass ⟨Nat.le_of_ble_eq_true rfl, Nat.le_of_ble_eq_true rfl⟩ hl rfl rfl (Nat.le_of_ble_eq_true rfl) dL_law_750 hcs (fun H locs h => ?_)
  refine lv_istore (lv' := [(6, .int rb), (5, .int k), (0, .ref b), (1, .ref (κ.2.1 0)), (2, .ref (κ.2.1 100)), (3, .ref (κ.2.1 60)), (4, .int i)]) C.1.ex C.1.by dL_law_753 hl (by decide) rfl (fun ls hl => ?_)
  refine lv_aload_n C.1.ex C.1.by dL_law_755 rfl (lv_at hl 4 rfl) ?_
  refine z_lawMi (rest := []) C h (ctX10_thrown (κ := zκM κ) ht) (zgV lkZ9 lkZ10 lkZ11 lkZ7 lkZ12) ⟨rfl, rfl⟩ hdX10_thrown ⟨Nat.le_of_ble_eq_true rfl, Nat.le_of_ble_eq_true rfl⟩ hl rfl rfl (Nat.le_of_ble_eq_true rfl) dL_law_756 hcs (fun H locs h => ?_)
  refine lv_iload C.1.ex C.1.by dL_law_759 (lv_at hl 1 rfl) ?_
  refine lv_icmp_eq (tgt := 766) C.1.ex C.1.by dL_law_761 (by decide) (fun _ => ?_) (fun q => absurd rfl q)
  refine lv_iload C.1.ex C.1.by dL_law_766 (lv_at hl 1 rfl) ?_
  refine lv_if_ne (tgt := 783) C.1.ex C.1.by dL_law_768 (by decide) (fun c1 => ?_) (fun c1 => ?_)
  · skip
    refine lv_goto (tgt := 1462) C.1.ex C.1.by dL_law_783 (by decide) ?_
    exact kk H locs ls h (lv_sub hl [2, 3, 4, 5, 6] rfl)
  · skip
    refine lv_aload_n C.1.ex C.1.by dL_law_771 rfl (lv_at hl 5 rfl) ?_
    refine lv_iconst (v := 0) C.1.ex C.1.by dL_law_772 (by decide) ?_
    refine z_lald (w := wL) C.1 h 52 (wL_at52 κ _) (by decide) dL_law_773 ?_
    refine lv_iload C.1.ex C.1.by dL_law_774 (lv_at hl 0 rfl) ?_
    refine lv_i2l (v := Int32.toInt64 rb) C.1.ex C.1.by dL_law_776 rfl ?_
    refine W.lcmp C.1.ex C.1.by dL_law_777 ?_
    refine lv_if_eq (tgt := 783) C.1.ex C.1.by dL_law_778 (by decide) (fun _ => ?_) (fun q => absurd (z_lcmp0 (hb c1)) q)
    refine lv_goto (tgt := 1462) C.1.ex C.1.by dL_law_783 (by decide) ?_
    exact kk H locs ls h (lv_sub hl [2, 3, 4, 5, 6] rfl)
theorem hdL_best : yL_best.cls ≠ "java/lang/invoke/MethodHandle" ∧ yL_best.cls ≠ "java/lang/invoke/VarHandle" ∧ (parseMethodDescriptor yL_best.desc).map (fun d => d.parameters.length) = some 3 := by decide +kernel
set_option maxRecDepth 20000 in
set_option maxHeartbeats 4000000 in
theorem lk_best {p : Program} {l : Launch} {e : Env} {s : State} {m : MethodId} {args : Array Value} {below : List Frame} {meth : Method} {c : Code} {H : Heap} {locs : List Loc} {cells slots : Nat} {Q : State → Prop} {κ : zG} {A : Nat → Prop} {b L n : Nat} {xs : Nat → Int32} {σ σ' τ τ' : zS} {o o' : Nat → Int64} {ls : Array Slot} {i : Int32} {r1 : String ⊕ Int32} {k : Int32} {rb : Int32} (C : zCL κ A b L xs p l s m args meth c) (h : zH wL κ A s ((σ, o), τ) H locs) (hl : lv_has ls 8 [(0, .ref b), (1, .ref (κ.2.1 0)), (2, .ref (κ.2.1 100)), (3, .ref (κ.2.1 60)), (4, .int i)]) (hi : ∀ d : Int32, d ∈ ([1, 2, 3, 4, 5, 6, 7, 8] : List Int32) → zin (i + d) L = true) (hcs : cells + 3 ≤ room_1.cells ∧ slots + 6 * 3 ≤ room_1.slots) (hf : fX9_best_0 n (κ.2.2.2 0) (κ.2.2.2 1) (κ.2.2.2 2) σ (xs (i + 1).toNatClampNeg) = some (r1, σ')) (hg : fL_best r1 o = some (k, o')) (hm : fX10_best_0 n τ (xs (i + 1).toNatClampNeg) = some (rb, τ')) (ht : fX10_thrown_0 n τ' = some k) (hb : k = 0 → o' (Int32.toNatClampNeg 0) = rb.toInt64)
    (kk : ∀ (H1 : Heap) (locs1 : List Loc) (ls1 : Array Slot), zH wL κ A s ((σ', o'), τ') H1 locs1 → lv_has ls1 8 [(0, .ref b), (1, .ref (κ.2.1 0)), (2, .ref (κ.2.1 100)), (3, .ref (κ.2.1 60)), (4, .int i)] → W p l e room_1 s m args below meth c H1 locs1 (cells + 3) (slots + 6 * 3) Q (F0 m 1462 ls1 [])) : W p l e room_1 s m args below meth c H locs cells slots Q (F0 m 786 ls []) := by
  refine lv_aload_n C.1.ex C.1.by dL_law_786 rfl (lv_at hl 1 rfl) ?_
  refine lv_aload_n C.1.ex C.1.by dL_law_787 rfl (lv_at hl 0 rfl) ?_
  refine lv_iload C.1.ex C.1.by dL_law_788 (lv_at hl 4 rfl) ?_
  refine lv_iconst (v := 1) C.1.ex C.1.by dL_law_790 (by decide) ?_
  refine lv_iadd C.1.ex C.1.by dL_law_791 ?_
  refine z_sld C h (hi 1 (by decide)) dL_law_792 ?_
  refine lv_aload_n C.1.ex C.1.by dL_law_793 rfl (lv_at hl 3 rfl) ?_
  refine z_lawW (rest := []) C h (wr_best C.2.1 hf hg) (zgSW lkZ56 lkZ57 lkZ2 lkZ58) ⟨rfl, rfl⟩ hdL_best ⟨Nat.le_of_ble_eq_true rfl, Nat.le_of_ble_eq_true rfl⟩ hl rfl rfl (Nat.le_of_ble_eq_true rfl) dL_law_794 hcs (fun H locs h => ?_)
  refine lv_istore (lv' := [(5, .int k), (0, .ref b), (1, .ref (κ.2.1 0)), (2, .ref (κ.2.1 100)), (3, .ref (κ.2.1 60)), (4, .int i)]) C.1.ex C.1.by dL_law_797 hl (by decide) rfl (fun ls hl => ?_)
  refine lv_aload_n C.1.ex C.1.by dL_law_799 rfl (lv_at hl 3 rfl) ?_
  refine lv_aload_n C.1.ex C.1.by dL_law_800 rfl (lv_at hl 1 rfl) ?_
  refine lv_iload C.1.ex C.1.by dL_law_801 (lv_at hl 5 rfl) ?_
  refine lv_iconst (v := 1) C.1.ex C.1.by dL_law_803 (by decide) ?_
  refine lv_iadd C.1.ex C.1.by dL_law_804 ?_
  refine z_sld C h (hi 1 (by decide)) dL_law_805 ?_
  refine z_lawMi (rest := []) C h (ctX10_best (κ := zκM κ) hm) (zgV lkZ59 lkZ60 lkZ61 lkZ7 lkZ62) ⟨rfl, rfl⟩ hdX10_best ⟨Nat.le_of_ble_eq_true rfl, Nat.le_of_ble_eq_true rfl⟩ hl rfl rfl (Nat.le_of_ble_eq_true rfl) dL_law_806 hcs (fun H locs h => ?_)
  refine lv_istore (lv' := [(6, .int rb), (5, .int k), (0, .ref b), (1, .ref (κ.2.1 0)), (2, .ref (κ.2.1 100)), (3, .ref (κ.2.1 60)), (4, .int i)]) C.1.ex C.1.by dL_law_809 hl (by decide) rfl (fun ls hl => ?_)
  refine lv_aload_n C.1.ex C.1.by dL_law_811 rfl (lv_at hl 4 rfl) ?_
  refine z_lawMi (rest := []) C h (ctX10_thrown (κ := zκM κ) ht) (zgV lkZ9 lkZ10 lkZ11 lkZ7 lkZ12) ⟨rfl, rfl⟩ hdX10_thrown ⟨Nat.le_of_ble_eq_true rfl, Nat.le_of_ble_eq_true rfl⟩ hl rfl rfl (Nat.le_of_ble_eq_true rfl) dL_law_812 hcs (fun H locs h => ?_)
  refine lv_iload C.1.ex C.1.by dL_law_815 (lv_at hl 1 rfl) ?_
  refine lv_icmp_eq (tgt := 822) C.1.ex C.1.by dL_law_817 (by decide) (fun _ => ?_) (fun q => absurd rfl q)
  refine lv_iload C.1.ex C.1.by dL_law_822 (lv_at hl 1 rfl) ?_
  refine lv_if_ne (tgt := 839) C.1.ex C.1.by dL_law_824 (by decide) (fun c1 => ?_) (fun c1 => ?_)
  · skip
    refine lv_goto (tgt := 1462) C.1.ex C.1.by dL_law_839 (by decide) ?_
    exact kk H locs ls h (lv_sub hl [2, 3, 4, 5, 6] rfl)
  · skip
    refine lv_aload_n C.1.ex C.1.by dL_law_827 rfl (lv_at hl 5 rfl) ?_
    refine lv_iconst (v := 0) C.1.ex C.1.by dL_law_828 (by decide) ?_
    refine z_lald (w := wL) C.1 h 52 (wL_at52 κ _) (by decide) dL_law_829 ?_
    refine lv_iload C.1.ex C.1.by dL_law_830 (lv_at hl 0 rfl) ?_
    refine lv_i2l (v := Int32.toInt64 rb) C.1.ex C.1.by dL_law_832 rfl ?_
    refine W.lcmp C.1.ex C.1.by dL_law_833 ?_
    refine lv_if_eq (tgt := 839) C.1.ex C.1.by dL_law_834 (by decide) (fun _ => ?_) (fun q => absurd (z_lcmp0 (hb c1)) q)
    refine lv_goto (tgt := 1462) C.1.ex C.1.by dL_law_839 (by decide) ?_
    exact kk H locs ls h (lv_sub hl [2, 3, 4, 5, 6] rfl)
theorem hdL_poly : yL_poly.cls ≠ "java/lang/invoke/MethodHandle" ∧ yL_poly.cls ≠ "java/lang/invoke/VarHandle" ∧ (parseMethodDescriptor yL_poly.desc).map (fun d => d.parameters.length) = some 3 := by decide +kernel
set_option maxRecDepth 20000 in
set_option maxHeartbeats 4000000 in
theorem lk_poly {p : Program} {l : Launch} {e : Env} {s : State} {m : MethodId} {args : Array Value} {below : List Frame} {meth : Method} {c : Code} {H : Heap} {locs : List Loc} {cells slots : Nat} {Q : State → Prop} {κ : zG} {A : Nat → Prop} {b L n : Nat} {xs : Nat → Int32} {σ σ' τ τ' : zS} {o o' : Nat → Int64} {ls : Array Slot} {i : Int32} {r1 : String ⊕ Int32} {k : Int32} {rb : Int32} (C : zCL κ A b L xs p l s m args meth c) (h : zH wL κ A s ((σ, o), τ) H locs) (hl : lv_has ls 8 [(0, .ref b), (1, .ref (κ.2.1 0)), (2, .ref (κ.2.1 100)), (3, .ref (κ.2.1 60)), (4, .int i)]) (hi : ∀ d : Int32, d ∈ ([1, 2, 3, 4, 5, 6, 7, 8] : List Int32) → zin (i + d) L = true) (hcs : cells + 2 ≤ room_1.cells ∧ slots + 6 * 2 ≤ room_1.slots) (hf : fX9_poly_0 n (κ.2.2.2 0) (κ.2.2.2 1) (κ.2.2.2 2) σ (xs (i + 1).toNatClampNeg) = some (r1, σ')) (hg : fL_poly r1 o = some (k, o')) (hm : fX10_poly_0 n τ (xs (i + 1).toNatClampNeg) = some (rb, τ')) (ht : fX10_thrown_0 n τ' = some k) (hb : k = 0 → o' (Int32.toNatClampNeg 0) = rb.toInt64)
    (kk : ∀ (H1 : Heap) (locs1 : List Loc) (ls1 : Array Slot), zH wL κ A s ((σ', o'), τ') H1 locs1 → lv_has ls1 8 [(0, .ref b), (1, .ref (κ.2.1 0)), (2, .ref (κ.2.1 100)), (3, .ref (κ.2.1 60)), (4, .int i)] → W p l e room_1 s m args below meth c H1 locs1 (cells + 2) (slots + 6 * 2) Q (F0 m 1462 ls1 [])) : W p l e room_1 s m args below meth c H locs cells slots Q (F0 m 842 ls []) := by
  refine lv_aload_n C.1.ex C.1.by dL_law_842 rfl (lv_at hl 1 rfl) ?_
  refine lv_aload_n C.1.ex C.1.by dL_law_843 rfl (lv_at hl 0 rfl) ?_
  refine lv_iload C.1.ex C.1.by dL_law_844 (lv_at hl 4 rfl) ?_
  refine lv_iconst (v := 1) C.1.ex C.1.by dL_law_846 (by decide) ?_
  refine lv_iadd C.1.ex C.1.by dL_law_847 ?_
  refine z_sld C h (hi 1 (by decide)) dL_law_848 ?_
  refine lv_aload_n C.1.ex C.1.by dL_law_849 rfl (lv_at hl 3 rfl) ?_
  refine z_lawW (rest := []) C h (wr_poly C.2.1 hf hg) (zgSW lkZ63 lkZ64 lkZ2 lkZ65) ⟨rfl, rfl⟩ hdL_poly ⟨Nat.le_of_ble_eq_true rfl, Nat.le_of_ble_eq_true rfl⟩ hl rfl rfl (Nat.le_of_ble_eq_true rfl) dL_law_850 hcs (fun H locs h => ?_)
  refine lv_istore (lv' := [(5, .int k), (0, .ref b), (1, .ref (κ.2.1 0)), (2, .ref (κ.2.1 100)), (3, .ref (κ.2.1 60)), (4, .int i)]) C.1.ex C.1.by dL_law_853 hl (by decide) rfl (fun ls hl => ?_)
  refine lv_aload_n C.1.ex C.1.by dL_law_855 rfl (lv_at hl 3 rfl) ?_
  refine lv_aload_n C.1.ex C.1.by dL_law_856 rfl (lv_at hl 1 rfl) ?_
  refine lv_iload C.1.ex C.1.by dL_law_857 (lv_at hl 5 rfl) ?_
  refine lv_iconst (v := 1) C.1.ex C.1.by dL_law_859 (by decide) ?_
  refine lv_iadd C.1.ex C.1.by dL_law_860 ?_
  refine z_sld C h (hi 1 (by decide)) dL_law_861 ?_
  refine z_lawMi (rest := []) C h (ctX10_poly (κ := zκM κ) hm) (zgV lkZ66 lkZ67 lkZ68 lkZ7 lkZ69) ⟨rfl, rfl⟩ hdX10_poly ⟨Nat.le_of_ble_eq_true rfl, Nat.le_of_ble_eq_true rfl⟩ hl rfl rfl (Nat.le_of_ble_eq_true rfl) dL_law_862 hcs (fun H locs h => ?_)
  refine lv_istore (lv' := [(6, .int rb), (5, .int k), (0, .ref b), (1, .ref (κ.2.1 0)), (2, .ref (κ.2.1 100)), (3, .ref (κ.2.1 60)), (4, .int i)]) C.1.ex C.1.by dL_law_865 hl (by decide) rfl (fun ls hl => ?_)
  refine lv_aload_n C.1.ex C.1.by dL_law_867 rfl (lv_at hl 4 rfl) ?_
  refine z_lawMi (rest := []) C h (ctX10_thrown (κ := zκM κ) ht) (zgV lkZ9 lkZ10 lkZ11 lkZ7 lkZ12) ⟨rfl, rfl⟩ hdX10_thrown ⟨Nat.le_of_ble_eq_true rfl, Nat.le_of_ble_eq_true rfl⟩ hl rfl rfl (Nat.le_of_ble_eq_true rfl) dL_law_868 hcs (fun H locs h => ?_)
  refine lv_iload C.1.ex C.1.by dL_law_871 (lv_at hl 1 rfl) ?_
  refine lv_icmp_eq (tgt := 878) C.1.ex C.1.by dL_law_873 (by decide) (fun _ => ?_) (fun q => absurd rfl q)
  refine lv_iload C.1.ex C.1.by dL_law_878 (lv_at hl 1 rfl) ?_
  refine lv_if_ne (tgt := 895) C.1.ex C.1.by dL_law_880 (by decide) (fun c1 => ?_) (fun c1 => ?_)
  · skip
    refine lv_goto (tgt := 1462) C.1.ex C.1.by dL_law_895 (by decide) ?_
    exact kk H locs ls h (lv_sub hl [2, 3, 4, 5, 6] rfl)
  · skip
    refine lv_aload_n C.1.ex C.1.by dL_law_883 rfl (lv_at hl 5 rfl) ?_
    refine lv_iconst (v := 0) C.1.ex C.1.by dL_law_884 (by decide) ?_
    refine z_lald (w := wL) C.1 h 52 (wL_at52 κ _) (by decide) dL_law_885 ?_
    refine lv_iload C.1.ex C.1.by dL_law_886 (lv_at hl 0 rfl) ?_
    refine lv_i2l (v := Int32.toInt64 rb) C.1.ex C.1.by dL_law_888 rfl ?_
    refine W.lcmp C.1.ex C.1.by dL_law_889 ?_
    refine lv_if_eq (tgt := 895) C.1.ex C.1.by dL_law_890 (by decide) (fun _ => ?_) (fun q => absurd (z_lcmp0 (hb c1)) q)
    refine lv_goto (tgt := 1462) C.1.ex C.1.by dL_law_895 (by decide) ?_
    exact kk H locs ls h (lv_sub hl [2, 3, 4, 5, 6] rfl)
theorem hdL_plan : yL_plan.cls ≠ "java/lang/invoke/MethodHandle" ∧ yL_plan.cls ≠ "java/lang/invoke/VarHandle" ∧ (parseMethodDescriptor yL_plan.desc).map (fun d => d.parameters.length) = some 3 := by decide +kernel
set_option maxRecDepth 20000 in
set_option maxHeartbeats 4000000 in
theorem lk_plan {p : Program} {l : Launch} {e : Env} {s : State} {m : MethodId} {args : Array Value} {below : List Frame} {meth : Method} {c : Code} {H : Heap} {locs : List Loc} {cells slots : Nat} {Q : State → Prop} {κ : zG} {A : Nat → Prop} {b L n : Nat} {xs : Nat → Int32} {σ σ' τ τ' : zS} {o o' : Nat → Int64} {ls : Array Slot} {i : Int32} {r1 : String ⊕ Int32} {k : Int32} {rb : Int32} (C : zCL κ A b L xs p l s m args meth c) (h : zH wL κ A s ((σ, o), τ) H locs) (hl : lv_has ls 8 [(0, .ref b), (1, .ref (κ.2.1 0)), (2, .ref (κ.2.1 100)), (3, .ref (κ.2.1 60)), (4, .int i)]) (hi : ∀ d : Int32, d ∈ ([1, 2, 3, 4, 5, 6, 7, 8] : List Int32) → zin (i + d) L = true) (hcs : cells + 1 ≤ room_1.cells ∧ slots + 6 * 1 ≤ room_1.slots) (hf : fX9_plan_0 n (κ.2.2.2 0) (κ.2.2.2 1) (κ.2.2.2 2) σ (xs (i + 1).toNatClampNeg) = some (r1, σ')) (hg : fL_plan r1 o = some (k, o')) (hm : fX10_plan_0 n τ (xs (i + 1).toNatClampNeg) = some (rb, τ')) (ht : fX10_thrown_0 n τ' = some k) (hb : k = 0 → o' (Int32.toNatClampNeg 0) = rb.toInt64)
    (kk : ∀ (H1 : Heap) (locs1 : List Loc) (ls1 : Array Slot), zH wL κ A s ((σ', o'), τ') H1 locs1 → lv_has ls1 8 [(0, .ref b), (1, .ref (κ.2.1 0)), (2, .ref (κ.2.1 100)), (3, .ref (κ.2.1 60)), (4, .int i)] → W p l e room_1 s m args below meth c H1 locs1 (cells + 1) (slots + 6 * 1) Q (F0 m 1462 ls1 [])) : W p l e room_1 s m args below meth c H locs cells slots Q (F0 m 898 ls []) := by
  refine lv_aload_n C.1.ex C.1.by dL_law_898 rfl (lv_at hl 1 rfl) ?_
  refine lv_aload_n C.1.ex C.1.by dL_law_899 rfl (lv_at hl 0 rfl) ?_
  refine lv_iload C.1.ex C.1.by dL_law_900 (lv_at hl 4 rfl) ?_
  refine lv_iconst (v := 1) C.1.ex C.1.by dL_law_902 (by decide) ?_
  refine lv_iadd C.1.ex C.1.by dL_law_903 ?_
  refine z_sld C h (hi 1 (by decide)) dL_law_904 ?_
  refine lv_aload_n C.1.ex C.1.by dL_law_905 rfl (lv_at hl 3 rfl) ?_
  refine z_lawW (rest := []) C h (wr_plan C.2.1 hf hg) (zgSW lkZ70 lkZ71 lkZ2 lkZ72) ⟨rfl, rfl⟩ hdL_plan ⟨Nat.le_of_ble_eq_true rfl, Nat.le_of_ble_eq_true rfl⟩ hl rfl rfl (Nat.le_of_ble_eq_true rfl) dL_law_906 hcs (fun H locs h => ?_)
  refine lv_istore (lv' := [(5, .int k), (0, .ref b), (1, .ref (κ.2.1 0)), (2, .ref (κ.2.1 100)), (3, .ref (κ.2.1 60)), (4, .int i)]) C.1.ex C.1.by dL_law_909 hl (by decide) rfl (fun ls hl => ?_)
  refine lv_aload_n C.1.ex C.1.by dL_law_911 rfl (lv_at hl 3 rfl) ?_
  refine lv_aload_n C.1.ex C.1.by dL_law_912 rfl (lv_at hl 1 rfl) ?_
  refine lv_iload C.1.ex C.1.by dL_law_913 (lv_at hl 5 rfl) ?_
  refine lv_iconst (v := 1) C.1.ex C.1.by dL_law_915 (by decide) ?_
  refine lv_iadd C.1.ex C.1.by dL_law_916 ?_
  refine z_sld C h (hi 1 (by decide)) dL_law_917 ?_
  refine z_lawMi (rest := []) C h (ctX10_plan (κ := zκM κ) hm) (zgV lkZ73 lkZ74 lkZ75 lkZ7 lkZ76) ⟨rfl, rfl⟩ hdX10_plan ⟨Nat.le_of_ble_eq_true rfl, Nat.le_of_ble_eq_true rfl⟩ hl rfl rfl (Nat.le_of_ble_eq_true rfl) dL_law_918 hcs (fun H locs h => ?_)
  refine lv_istore (lv' := [(6, .int rb), (5, .int k), (0, .ref b), (1, .ref (κ.2.1 0)), (2, .ref (κ.2.1 100)), (3, .ref (κ.2.1 60)), (4, .int i)]) C.1.ex C.1.by dL_law_921 hl (by decide) rfl (fun ls hl => ?_)
  refine lv_aload_n C.1.ex C.1.by dL_law_923 rfl (lv_at hl 4 rfl) ?_
  refine z_lawMi (rest := []) C h (ctX10_thrown (κ := zκM κ) ht) (zgV lkZ9 lkZ10 lkZ11 lkZ7 lkZ12) ⟨rfl, rfl⟩ hdX10_thrown ⟨Nat.le_of_ble_eq_true rfl, Nat.le_of_ble_eq_true rfl⟩ hl rfl rfl (Nat.le_of_ble_eq_true rfl) dL_law_924 hcs (fun H locs h => ?_)
  refine lv_iload C.1.ex C.1.by dL_law_927 (lv_at hl 1 rfl) ?_
  refine lv_icmp_eq (tgt := 934) C.1.ex C.1.by dL_law_929 (by decide) (fun _ => ?_) (fun q => absurd rfl q)
  refine lv_iload C.1.ex C.1.by dL_law_934 (lv_at hl 1 rfl) ?_
  refine lv_if_ne (tgt := 951) C.1.ex C.1.by dL_law_936 (by decide) (fun c1 => ?_) (fun c1 => ?_)
  · skip
    refine lv_goto (tgt := 1462) C.1.ex C.1.by dL_law_951 (by decide) ?_
    exact kk H locs ls h (lv_sub hl [2, 3, 4, 5, 6] rfl)
  · skip
    refine lv_aload_n C.1.ex C.1.by dL_law_939 rfl (lv_at hl 5 rfl) ?_
    refine lv_iconst (v := 0) C.1.ex C.1.by dL_law_940 (by decide) ?_
    refine z_lald (w := wL) C.1 h 52 (wL_at52 κ _) (by decide) dL_law_941 ?_
    refine lv_iload C.1.ex C.1.by dL_law_942 (lv_at hl 0 rfl) ?_
    refine lv_i2l (v := Int32.toInt64 rb) C.1.ex C.1.by dL_law_944 rfl ?_
    refine W.lcmp C.1.ex C.1.by dL_law_945 ?_
    refine lv_if_eq (tgt := 951) C.1.ex C.1.by dL_law_946 (by decide) (fun _ => ?_) (fun q => absurd (z_lcmp0 (hb c1)) q)
    refine lv_goto (tgt := 1462) C.1.ex C.1.by dL_law_951 (by decide) ?_
    exact kk H locs ls h (lv_sub hl [2, 3, 4, 5, 6] rfl)
set_option maxRecDepth 20000 in
set_option maxHeartbeats 4000000 in
theorem lk_runs {p : Program} {l : Launch} {e : Env} {s : State} {m : MethodId} {args : Array Value} {below : List Frame} {meth : Method} {c : Code} {H : Heap} {locs : List Loc} {cells slots : Nat} {Q : State → Prop} {κ : zG} {A : Nat → Prop} {b L n : Nat} {xs : Nat → Int32} {σ τ τ' : zS} {o : Nat → Int64} {ls : Array Slot} {i : Int32} {k : Int32} (C : zCL κ A b L xs p l s m args meth c) (h : zH wL κ A s ((σ, o), τ) H locs) (hl : lv_has ls 8 [(0, .ref b), (1, .ref (κ.2.1 0)), (2, .ref (κ.2.1 100)), (3, .ref (κ.2.1 60)), (4, .int i)]) (hi : ∀ d : Int32, d ∈ ([1, 2, 3, 4, 5, 6, 7, 8] : List Int32) → zin (i + d) L = true) (hcs : cells ≤ room_1.cells ∧ slots ≤ room_1.slots) (hf : fX9_runs_0 n (κ.2.2.2 0) (κ.2.2.2 1) (κ.2.2.2 2) σ = some k) (hm : fX10_runs_0 n τ = some (k, τ'))
    (kk : ∀ (H1 : Heap) (locs1 : List Loc) (ls1 : Array Slot), zH wL κ A s ((σ, o), τ') H1 locs1 → lv_has ls1 8 [(0, .ref b), (1, .ref (κ.2.1 0)), (2, .ref (κ.2.1 100)), (3, .ref (κ.2.1 60)), (4, .int i)] → W p l e room_1 s m args below meth c H1 locs1 cells slots Q (F0 m 1462 ls1 [])) : W p l e room_1 s m args below meth c H locs cells slots Q (F0 m 954 ls []) := by
  refine lv_aload_n C.1.ex C.1.by dL_law_954 rfl (lv_at hl 1 rfl) ?_
  refine z_lawC (As := []) (rest := []) C h (ctX9_runs hf) (zgV lkZ77 lkZ78 lkZ79 lkZ80 lkZ81) ⟨rfl, rfl⟩ hdX9_runs ⟨Nat.le_of_ble_eq_true rfl, Nat.le_of_ble_eq_true rfl⟩ hl rfl rfl (Nat.le_of_ble_eq_true rfl) dL_law_955 hcs (fun H locs h => ?_)
  refine lv_aload_n C.1.ex C.1.by dL_law_958 rfl (lv_at hl 2 rfl) ?_
  refine z_lawMi (rest := [.int k]) C h (ctX10_runs (κ := zκM κ) hm) (zgV lkZ82 lkZ83 lkZ84 lkZ7 lkZ85) ⟨rfl, rfl⟩ hdX10_runs ⟨Nat.le_of_ble_eq_true rfl, Nat.le_of_ble_eq_true rfl⟩ hl rfl rfl (Nat.le_of_ble_eq_true rfl) dL_law_959 hcs (fun H locs h => ?_)
  refine lv_icmp_eq (tgt := 1462) C.1.ex C.1.by dL_law_962 (by decide) (fun _ => ?_) (fun q => absurd rfl q)
  exact kk H locs ls h (lv_sub hl [0, 1, 2, 3, 4] rfl)
theorem hdL_records : yL_records.cls ≠ "java/lang/invoke/MethodHandle" ∧ yL_records.cls ≠ "java/lang/invoke/VarHandle" ∧ (parseMethodDescriptor yL_records.desc).map (fun d => d.parameters.length) = some 3 := by decide +kernel
set_option maxRecDepth 20000 in
set_option maxHeartbeats 4000000 in
theorem lk_records {p : Program} {l : Launch} {e : Env} {s : State} {m : MethodId} {args : Array Value} {below : List Frame} {meth : Method} {c : Code} {H : Heap} {locs : List Loc} {cells slots : Nat} {Q : State → Prop} {κ : zG} {A : Nat → Prop} {b L n : Nat} {xs : Nat → Int32} {σ τ τ' : zS} {o o' : Nat → Int64} {ls : Array Slot} {i : Int32} {r1 : String ⊕ Int32} {k : Int32} {rb : Int32} (C : zCL κ A b L xs p l s m args meth c) (h : zH wL κ A s ((σ, o), τ) H locs) (hl : lv_has ls 8 [(0, .ref b), (1, .ref (κ.2.1 0)), (2, .ref (κ.2.1 100)), (3, .ref (κ.2.1 60)), (4, .int i)]) (hi : ∀ d : Int32, d ∈ ([1, 2, 3, 4, 5, 6, 7, 8] : List Int32) → zin (i + d) L = true) (hcs : cells + 1 ≤ room_1.cells ∧ slots + 6 * 1 ≤ room_1.slots) (hf : fX9_records_0 n (κ.2.2.2 0) (κ.2.2.2 1) (κ.2.2.2 2) σ (xs (i + 1).toNatClampNeg) = some r1) (hg : fL_records r1 o = some (k, o')) (hm : fX10_records_0 n τ (xs (i + 1).toNatClampNeg) = some (rb, τ')) (ht : fX10_thrown_0 n τ' = some k) (hb : k = 0 → o' (Int32.toNatClampNeg 0) = rb.toInt64)
    (kk : ∀ (H1 : Heap) (locs1 : List Loc) (ls1 : Array Slot), zH wL κ A s ((σ, o'), τ') H1 locs1 → lv_has ls1 8 [(0, .ref b), (1, .ref (κ.2.1 0)), (2, .ref (κ.2.1 100)), (3, .ref (κ.2.1 60)), (4, .int i)] → W p l e room_1 s m args below meth c H1 locs1 (cells + 1) (slots + 6 * 1) Q (F0 m 1462 ls1 [])) : W p l e room_1 s m args below meth c H locs cells slots Q (F0 m 967 ls []) := by
  refine lv_aload_n C.1.ex C.1.by dL_law_967 rfl (lv_at hl 1 rfl) ?_
  refine lv_aload_n C.1.ex C.1.by dL_law_968 rfl (lv_at hl 0 rfl) ?_
  refine lv_iload C.1.ex C.1.by dL_law_969 (lv_at hl 4 rfl) ?_
  refine lv_iconst (v := 1) C.1.ex C.1.by dL_law_971 (by decide) ?_
  refine lv_iadd C.1.ex C.1.by dL_law_972 ?_
  refine z_sld C h (hi 1 (by decide)) dL_law_973 ?_
  refine lv_aload_n C.1.ex C.1.by dL_law_974 rfl (lv_at hl 3 rfl) ?_
  refine z_lawW (rest := []) C h (wr_records C.2.1 hf hg) (zgSW lkZ86 lkZ87 lkZ2 lkZ88) ⟨rfl, rfl⟩ hdL_records ⟨Nat.le_of_ble_eq_true rfl, Nat.le_of_ble_eq_true rfl⟩ hl rfl rfl (Nat.le_of_ble_eq_true rfl) dL_law_975 hcs (fun H locs h => ?_)
  refine lv_istore (lv' := [(5, .int k), (0, .ref b), (1, .ref (κ.2.1 0)), (2, .ref (κ.2.1 100)), (3, .ref (κ.2.1 60)), (4, .int i)]) C.1.ex C.1.by dL_law_978 hl (by decide) rfl (fun ls hl => ?_)
  refine lv_aload_n C.1.ex C.1.by dL_law_980 rfl (lv_at hl 3 rfl) ?_
  refine lv_aload_n C.1.ex C.1.by dL_law_981 rfl (lv_at hl 1 rfl) ?_
  refine lv_iload C.1.ex C.1.by dL_law_982 (lv_at hl 5 rfl) ?_
  refine lv_iconst (v := 1) C.1.ex C.1.by dL_law_984 (by decide) ?_
  refine lv_iadd C.1.ex C.1.by dL_law_985 ?_
  refine z_sld C h (hi 1 (by decide)) dL_law_986 ?_
  refine z_lawMi (rest := []) C h (ctX10_records (κ := zκM κ) hm) (zgV lkZ89 lkZ90 lkZ91 lkZ7 lkZ92) ⟨rfl, rfl⟩ hdX10_records ⟨Nat.le_of_ble_eq_true rfl, Nat.le_of_ble_eq_true rfl⟩ hl rfl rfl (Nat.le_of_ble_eq_true rfl) dL_law_987 hcs (fun H locs h => ?_)
  refine lv_istore (lv' := [(6, .int rb), (5, .int k), (0, .ref b), (1, .ref (κ.2.1 0)), (2, .ref (κ.2.1 100)), (3, .ref (κ.2.1 60)), (4, .int i)]) C.1.ex C.1.by dL_law_990 hl (by decide) rfl (fun ls hl => ?_)
  refine lv_aload_n C.1.ex C.1.by dL_law_992 rfl (lv_at hl 4 rfl) ?_
  refine z_lawMi (rest := []) C h (ctX10_thrown (κ := zκM κ) ht) (zgV lkZ9 lkZ10 lkZ11 lkZ7 lkZ12) ⟨rfl, rfl⟩ hdX10_thrown ⟨Nat.le_of_ble_eq_true rfl, Nat.le_of_ble_eq_true rfl⟩ hl rfl rfl (Nat.le_of_ble_eq_true rfl) dL_law_993 hcs (fun H locs h => ?_)
  refine lv_iload C.1.ex C.1.by dL_law_996 (lv_at hl 1 rfl) ?_
  refine lv_icmp_eq (tgt := 1003) C.1.ex C.1.by dL_law_998 (by decide) (fun _ => ?_) (fun q => absurd rfl q)
  refine lv_iload C.1.ex C.1.by dL_law_1003 (lv_at hl 1 rfl) ?_
  refine lv_if_ne (tgt := 1020) C.1.ex C.1.by dL_law_1005 (by decide) (fun c1 => ?_) (fun c1 => ?_)
  · skip
    refine lv_goto (tgt := 1462) C.1.ex C.1.by dL_law_1020 (by decide) ?_
    exact kk H locs ls h (lv_sub hl [2, 3, 4, 5, 6] rfl)
  · skip
    refine lv_aload_n C.1.ex C.1.by dL_law_1008 rfl (lv_at hl 5 rfl) ?_
    refine lv_iconst (v := 0) C.1.ex C.1.by dL_law_1009 (by decide) ?_
    refine z_lald (w := wL) C.1 h 52 (wL_at52 κ _) (by decide) dL_law_1010 ?_
    refine lv_iload C.1.ex C.1.by dL_law_1011 (lv_at hl 0 rfl) ?_
    refine lv_i2l (v := Int32.toInt64 rb) C.1.ex C.1.by dL_law_1013 rfl ?_
    refine W.lcmp C.1.ex C.1.by dL_law_1014 ?_
    refine lv_if_eq (tgt := 1020) C.1.ex C.1.by dL_law_1015 (by decide) (fun _ => ?_) (fun q => absurd (z_lcmp0 (hb c1)) q)
    refine lv_goto (tgt := 1462) C.1.ex C.1.by dL_law_1020 (by decide) ?_
    exact kk H locs ls h (lv_sub hl [2, 3, 4, 5, 6] rfl)
theorem hdL_block : yL_block.cls ≠ "java/lang/invoke/MethodHandle" ∧ yL_block.cls ≠ "java/lang/invoke/VarHandle" ∧ (parseMethodDescriptor yL_block.desc).map (fun d => d.parameters.length) = some 4 := by decide +kernel
set_option maxRecDepth 20000 in
set_option maxHeartbeats 4000000 in
theorem lk_block {p : Program} {l : Launch} {e : Env} {s : State} {m : MethodId} {args : Array Value} {below : List Frame} {meth : Method} {c : Code} {H : Heap} {locs : List Loc} {cells slots : Nat} {Q : State → Prop} {κ : zG} {A : Nat → Prop} {b L n : Nat} {xs : Nat → Int32} {σ τ τ' : zS} {o o' : Nat → Int64} {ls : Array Slot} {i : Int32} {r1 : String ⊕ Int32} {k : Int32} {rb : Int32} (C : zCL κ A b L xs p l s m args meth c) (h : zH wL κ A s ((σ, o), τ) H locs) (hl : lv_has ls 8 [(0, .ref b), (1, .ref (κ.2.1 0)), (2, .ref (κ.2.1 100)), (3, .ref (κ.2.1 60)), (4, .int i)]) (hi : ∀ d : Int32, d ∈ ([1, 2, 3, 4, 5, 6, 7, 8] : List Int32) → zin (i + d) L = true) (hcs : cells + 2 ≤ room_1.cells ∧ slots + 6 * 2 ≤ room_1.slots) (hf : fX9_block_0 n (κ.2.2.2 0) (κ.2.2.2 1) (κ.2.2.2 2) σ (xs (i + 1).toNatClampNeg) (xs (i + 2).toNatClampNeg) = some r1) (hg : fL_block r1 o = some (k, o')) (hm : fX10_block_0 n τ (xs (i + 1).toNatClampNeg) (xs (i + 2).toNatClampNeg) = some (rb, τ')) (ht : fX10_thrown_0 n τ' = some k) (hb : k = 0 → o' (Int32.toNatClampNeg 0) = rb.toInt64)
    (kk : ∀ (H1 : Heap) (locs1 : List Loc) (ls1 : Array Slot), zH wL κ A s ((σ, o'), τ') H1 locs1 → lv_has ls1 8 [(0, .ref b), (1, .ref (κ.2.1 0)), (2, .ref (κ.2.1 100)), (3, .ref (κ.2.1 60)), (4, .int i)] → W p l e room_1 s m args below meth c H1 locs1 (cells + 2) (slots + 6 * 2) Q (F0 m 1462 ls1 [])) : W p l e room_1 s m args below meth c H locs cells slots Q (F0 m 1023 ls []) := by
  refine lv_aload_n C.1.ex C.1.by dL_law_1023 rfl (lv_at hl 1 rfl) ?_
  refine lv_aload_n C.1.ex C.1.by dL_law_1024 rfl (lv_at hl 0 rfl) ?_
  refine lv_iload C.1.ex C.1.by dL_law_1025 (lv_at hl 4 rfl) ?_
  refine lv_iconst (v := 1) C.1.ex C.1.by dL_law_1027 (by decide) ?_
  refine lv_iadd C.1.ex C.1.by dL_law_1028 ?_
  refine z_sld C h (hi 1 (by decide)) dL_law_1029 ?_
  refine lv_aload_n C.1.ex C.1.by dL_law_1030 rfl (lv_at hl 0 rfl) ?_
  refine lv_iload C.1.ex C.1.by dL_law_1031 (lv_at hl 4 rfl) ?_
  refine lv_iconst (v := 2) C.1.ex C.1.by dL_law_1033 (by decide) ?_
  refine lv_iadd C.1.ex C.1.by dL_law_1034 ?_
  refine z_sld C h (hi 2 (by decide)) dL_law_1035 ?_
  refine lv_aload_n C.1.ex C.1.by dL_law_1036 rfl (lv_at hl 3 rfl) ?_
  refine z_lawW (rest := []) C h (wr_block C.2.1 hf hg) (zgSW lkZ93 lkZ94 lkZ2 lkZ95) ⟨rfl, rfl⟩ hdL_block ⟨Nat.le_of_ble_eq_true rfl, Nat.le_of_ble_eq_true rfl⟩ hl rfl rfl (Nat.le_of_ble_eq_true rfl) dL_law_1037 hcs (fun H locs h => ?_)
  refine lv_istore (lv' := [(5, .int k), (0, .ref b), (1, .ref (κ.2.1 0)), (2, .ref (κ.2.1 100)), (3, .ref (κ.2.1 60)), (4, .int i)]) C.1.ex C.1.by dL_law_1040 hl (by decide) rfl (fun ls hl => ?_)
  refine lv_aload_n C.1.ex C.1.by dL_law_1042 rfl (lv_at hl 3 rfl) ?_
  refine lv_aload_n C.1.ex C.1.by dL_law_1043 rfl (lv_at hl 1 rfl) ?_
  refine lv_iload C.1.ex C.1.by dL_law_1044 (lv_at hl 5 rfl) ?_
  refine lv_iconst (v := 1) C.1.ex C.1.by dL_law_1046 (by decide) ?_
  refine lv_iadd C.1.ex C.1.by dL_law_1047 ?_
  refine z_sld C h (hi 1 (by decide)) dL_law_1048 ?_
  refine lv_aload_n C.1.ex C.1.by dL_law_1049 rfl (lv_at hl 1 rfl) ?_
  refine lv_iload C.1.ex C.1.by dL_law_1050 (lv_at hl 5 rfl) ?_
  refine lv_iconst (v := 2) C.1.ex C.1.by dL_law_1052 (by decide) ?_
  refine lv_iadd C.1.ex C.1.by dL_law_1053 ?_
  refine z_sld C h (hi 2 (by decide)) dL_law_1054 ?_
  refine z_lawMi (rest := []) C h (ctX10_block (κ := zκM κ) hm) (zgV lkZ96 lkZ97 lkZ98 lkZ7 lkZ99) ⟨rfl, rfl⟩ hdX10_block ⟨Nat.le_of_ble_eq_true rfl, Nat.le_of_ble_eq_true rfl⟩ hl rfl rfl (Nat.le_of_ble_eq_true rfl) dL_law_1055 hcs (fun H locs h => ?_)
  refine lv_istore (lv' := [(6, .int rb), (5, .int k), (0, .ref b), (1, .ref (κ.2.1 0)), (2, .ref (κ.2.1 100)), (3, .ref (κ.2.1 60)), (4, .int i)]) C.1.ex C.1.by dL_law_1058 hl (by decide) rfl (fun ls hl => ?_)
  refine lv_aload_n C.1.ex C.1.by dL_law_1060 rfl (lv_at hl 4 rfl) ?_
  refine z_lawMi (rest := []) C h (ctX10_thrown (κ := zκM κ) ht) (zgV lkZ9 lkZ10 lkZ11 lkZ7 lkZ12) ⟨rfl, rfl⟩ hdX10_thrown ⟨Nat.le_of_ble_eq_true rfl, Nat.le_of_ble_eq_true rfl⟩ hl rfl rfl (Nat.le_of_ble_eq_true rfl) dL_law_1061 hcs (fun H locs h => ?_)
  refine lv_iload C.1.ex C.1.by dL_law_1064 (lv_at hl 1 rfl) ?_
  refine lv_icmp_eq (tgt := 1071) C.1.ex C.1.by dL_law_1066 (by decide) (fun _ => ?_) (fun q => absurd rfl q)
  refine lv_iload C.1.ex C.1.by dL_law_1071 (lv_at hl 1 rfl) ?_
  refine lv_if_ne (tgt := 1088) C.1.ex C.1.by dL_law_1073 (by decide) (fun c1 => ?_) (fun c1 => ?_)
  · skip
    refine lv_goto (tgt := 1462) C.1.ex C.1.by dL_law_1088 (by decide) ?_
    exact kk H locs ls h (lv_sub hl [2, 3, 4, 5, 6] rfl)
  · skip
    refine lv_aload_n C.1.ex C.1.by dL_law_1076 rfl (lv_at hl 5 rfl) ?_
    refine lv_iconst (v := 0) C.1.ex C.1.by dL_law_1077 (by decide) ?_
    refine z_lald (w := wL) C.1 h 52 (wL_at52 κ _) (by decide) dL_law_1078 ?_
    refine lv_iload C.1.ex C.1.by dL_law_1079 (lv_at hl 0 rfl) ?_
    refine lv_i2l (v := Int32.toInt64 rb) C.1.ex C.1.by dL_law_1081 rfl ?_
    refine W.lcmp C.1.ex C.1.by dL_law_1082 ?_
    refine lv_if_eq (tgt := 1088) C.1.ex C.1.by dL_law_1083 (by decide) (fun _ => ?_) (fun q => absurd (z_lcmp0 (hb c1)) q)
    refine lv_goto (tgt := 1462) C.1.ex C.1.by dL_law_1088 (by decide) ?_
    exact kk H locs ls h (lv_sub hl [2, 3, 4, 5, 6] rfl)
theorem hdL_told : yL_told.cls ≠ "java/lang/invoke/MethodHandle" ∧ yL_told.cls ≠ "java/lang/invoke/VarHandle" ∧ (parseMethodDescriptor yL_told.desc).map (fun d => d.parameters.length) = some 5 := by decide +kernel
set_option maxRecDepth 20000 in
set_option maxHeartbeats 4000000 in
theorem lk_told {p : Program} {l : Launch} {e : Env} {s : State} {m : MethodId} {args : Array Value} {below : List Frame} {meth : Method} {c : Code} {H : Heap} {locs : List Loc} {cells slots : Nat} {Q : State → Prop} {κ : zG} {A : Nat → Prop} {b L n : Nat} {xs : Nat → Int32} {σ σ' τ τ' : zS} {o o' : Nat → Int64} {ls : Array Slot} {i : Int32} {r1 : String ⊕ Int64} {k : Int32} {rb : Int64} (C : zCL κ A b L xs p l s m args meth c) (h : zH wL κ A s ((σ, o), τ) H locs) (hl : lv_has ls 8 [(0, .ref b), (1, .ref (κ.2.1 0)), (2, .ref (κ.2.1 100)), (3, .ref (κ.2.1 60)), (4, .int i)]) (hi : ∀ d : Int32, d ∈ ([1, 2, 3, 4, 5, 6, 7, 8] : List Int32) → zin (i + d) L = true) (hcs : cells + 2 ≤ room_1.cells ∧ slots + 6 * 2 ≤ room_1.slots) (hf : fX9_told_0 n (κ.2.2.2 0) (κ.2.2.2 1) (κ.2.2.2 2) σ (xs (i + 1).toNatClampNeg) (xs (i + 2).toNatClampNeg) (xs (i + 3).toNatClampNeg) = some (r1, σ')) (hg : fL_told r1 o = some (k, o')) (hm : fX10_told_0 n τ (xs (i + 1).toNatClampNeg) (xs (i + 2).toNatClampNeg) (xs (i + 3).toNatClampNeg) = some (rb, τ')) (ht : fX10_thrown_0 n τ' = some k) (hb : k = 0 → o' (Int32.toNatClampNeg 0) = rb)
    (kk : ∀ (H1 : Heap) (locs1 : List Loc) (ls1 : Array Slot), zH wL κ A s ((σ', o'), τ') H1 locs1 → lv_has ls1 8 [(0, .ref b), (1, .ref (κ.2.1 0)), (2, .ref (κ.2.1 100)), (3, .ref (κ.2.1 60)), (4, .int i)] → W p l e room_1 s m args below meth c H1 locs1 (cells + 2) (slots + 6 * 2) Q (F0 m 1462 ls1 [])) : W p l e room_1 s m args below meth c H locs cells slots Q (F0 m 1091 ls []) := by
  refine lv_aload_n C.1.ex C.1.by dL_law_1091 rfl (lv_at hl 1 rfl) ?_
  refine lv_aload_n C.1.ex C.1.by dL_law_1092 rfl (lv_at hl 0 rfl) ?_
  refine lv_iload C.1.ex C.1.by dL_law_1093 (lv_at hl 4 rfl) ?_
  refine lv_iconst (v := 1) C.1.ex C.1.by dL_law_1095 (by decide) ?_
  refine lv_iadd C.1.ex C.1.by dL_law_1096 ?_
  refine z_sld C h (hi 1 (by decide)) dL_law_1097 ?_
  refine lv_aload_n C.1.ex C.1.by dL_law_1098 rfl (lv_at hl 0 rfl) ?_
  refine lv_iload C.1.ex C.1.by dL_law_1099 (lv_at hl 4 rfl) ?_
  refine lv_iconst (v := 2) C.1.ex C.1.by dL_law_1101 (by decide) ?_
  refine lv_iadd C.1.ex C.1.by dL_law_1102 ?_
  refine z_sld C h (hi 2 (by decide)) dL_law_1103 ?_
  refine lv_aload_n C.1.ex C.1.by dL_law_1104 rfl (lv_at hl 0 rfl) ?_
  refine lv_iload C.1.ex C.1.by dL_law_1105 (lv_at hl 4 rfl) ?_
  refine lv_iconst (v := 3) C.1.ex C.1.by dL_law_1107 (by decide) ?_
  refine lv_iadd C.1.ex C.1.by dL_law_1108 ?_
  refine z_sld C h (hi 3 (by decide)) dL_law_1109 ?_
  refine lv_aload_n C.1.ex C.1.by dL_law_1110 rfl (lv_at hl 3 rfl) ?_
  refine z_lawW (rest := []) C h (wr_told C.2.1 hf hg) (zgSW lkZ100 lkZ101 lkZ2 lkZ102) ⟨rfl, rfl⟩ hdL_told ⟨Nat.le_of_ble_eq_true rfl, Nat.le_of_ble_eq_true rfl⟩ hl rfl rfl (Nat.le_of_ble_eq_true rfl) dL_law_1111 hcs (fun H locs h => ?_)
  refine lv_istore (lv' := [(5, .int k), (0, .ref b), (1, .ref (κ.2.1 0)), (2, .ref (κ.2.1 100)), (3, .ref (κ.2.1 60)), (4, .int i)]) C.1.ex C.1.by dL_law_1114 hl (by decide) rfl (fun ls hl => ?_)
  refine lv_aload_n C.1.ex C.1.by dL_law_1116 rfl (lv_at hl 3 rfl) ?_
  refine lv_aload_n C.1.ex C.1.by dL_law_1117 rfl (lv_at hl 1 rfl) ?_
  refine lv_iload C.1.ex C.1.by dL_law_1118 (lv_at hl 5 rfl) ?_
  refine lv_iconst (v := 1) C.1.ex C.1.by dL_law_1120 (by decide) ?_
  refine lv_iadd C.1.ex C.1.by dL_law_1121 ?_
  refine z_sld C h (hi 1 (by decide)) dL_law_1122 ?_
  refine lv_aload_n C.1.ex C.1.by dL_law_1123 rfl (lv_at hl 1 rfl) ?_
  refine lv_iload C.1.ex C.1.by dL_law_1124 (lv_at hl 5 rfl) ?_
  refine lv_iconst (v := 2) C.1.ex C.1.by dL_law_1126 (by decide) ?_
  refine lv_iadd C.1.ex C.1.by dL_law_1127 ?_
  refine z_sld C h (hi 2 (by decide)) dL_law_1128 ?_
  refine lv_aload_n C.1.ex C.1.by dL_law_1129 rfl (lv_at hl 1 rfl) ?_
  refine lv_iload C.1.ex C.1.by dL_law_1130 (lv_at hl 5 rfl) ?_
  refine lv_iconst (v := 3) C.1.ex C.1.by dL_law_1132 (by decide) ?_
  refine lv_iadd C.1.ex C.1.by dL_law_1133 ?_
  refine z_sld C h (hi 3 (by decide)) dL_law_1134 ?_
  refine z_lawMl (rest := []) C h (ctX10_told (κ := zκM κ) hm) (zgV lkZ103 lkZ104 lkZ105 lkZ7 lkZ106) ⟨rfl, rfl⟩ hdX10_told ⟨Nat.le_of_ble_eq_true rfl, Nat.le_of_ble_eq_true rfl⟩ hl rfl rfl (Nat.le_of_ble_eq_true rfl) dL_law_1135 hcs (fun H locs h => ?_)
  refine lv_lstore (lv' := [(6, .long rb), (5, .int k), (0, .ref b), (1, .ref (κ.2.1 0)), (2, .ref (κ.2.1 100)), (3, .ref (κ.2.1 60)), (4, .int i)]) C.1.ex C.1.by dL_law_1138 hl (by decide) rfl (fun ls hl => ?_)
  refine lv_aload_n C.1.ex C.1.by dL_law_1140 rfl (lv_at hl 4 rfl) ?_
  refine z_lawMi (rest := []) C h (ctX10_thrown (κ := zκM κ) ht) (zgV lkZ9 lkZ10 lkZ11 lkZ7 lkZ12) ⟨rfl, rfl⟩ hdX10_thrown ⟨Nat.le_of_ble_eq_true rfl, Nat.le_of_ble_eq_true rfl⟩ hl rfl rfl (Nat.le_of_ble_eq_true rfl) dL_law_1141 hcs (fun H locs h => ?_)
  refine lv_iload C.1.ex C.1.by dL_law_1144 (lv_at hl 1 rfl) ?_
  refine lv_icmp_eq (tgt := 1151) C.1.ex C.1.by dL_law_1146 (by decide) (fun _ => ?_) (fun q => absurd rfl q)
  refine lv_iload C.1.ex C.1.by dL_law_1151 (lv_at hl 1 rfl) ?_
  refine lv_if_ne (tgt := 1167) C.1.ex C.1.by dL_law_1153 (by decide) (fun c1 => ?_) (fun c1 => ?_)
  · skip
    refine lv_goto (tgt := 1462) C.1.ex C.1.by dL_law_1167 (by decide) ?_
    exact kk H locs ls h (lv_sub hl [2, 3, 4, 5, 6] rfl)
  · skip
    refine lv_aload_n C.1.ex C.1.by dL_law_1156 rfl (lv_at hl 5 rfl) ?_
    refine lv_iconst (v := 0) C.1.ex C.1.by dL_law_1157 (by decide) ?_
    refine z_lald (w := wL) C.1 h 52 (wL_at52 κ _) (by decide) dL_law_1158 ?_
    refine lv_lload C.1.ex C.1.by dL_law_1159 (lv_at hl 0 rfl) ?_
    refine W.lcmp C.1.ex C.1.by dL_law_1161 ?_
    refine lv_if_eq (tgt := 1167) C.1.ex C.1.by dL_law_1162 (by decide) (fun _ => ?_) (fun q => absurd (z_lcmp0 (hb c1)) q)
    refine lv_goto (tgt := 1462) C.1.ex C.1.by dL_law_1167 (by decide) ?_
    exact kk H locs ls h (lv_sub hl [2, 3, 4, 5, 6] rfl)
theorem hdL_rank : yL_rank.cls ≠ "java/lang/invoke/MethodHandle" ∧ yL_rank.cls ≠ "java/lang/invoke/VarHandle" ∧ (parseMethodDescriptor yL_rank.desc).map (fun d => d.parameters.length) = some 4 := by decide +kernel
set_option maxRecDepth 20000 in
set_option maxHeartbeats 4000000 in
theorem lk_rank {p : Program} {l : Launch} {e : Env} {s : State} {m : MethodId} {args : Array Value} {below : List Frame} {meth : Method} {c : Code} {H : Heap} {locs : List Loc} {cells slots : Nat} {Q : State → Prop} {κ : zG} {A : Nat → Prop} {b L n : Nat} {xs : Nat → Int32} {σ σ' τ τ' : zS} {o o' : Nat → Int64} {ls : Array Slot} {i : Int32} {r1 : String ⊕ Int32} {k : Int32} {rb : Int32} (C : zCL κ A b L xs p l s m args meth c) (h : zH wL κ A s ((σ, o), τ) H locs) (hl : lv_has ls 8 [(0, .ref b), (1, .ref (κ.2.1 0)), (2, .ref (κ.2.1 100)), (3, .ref (κ.2.1 60)), (4, .int i)]) (hi : ∀ d : Int32, d ∈ ([1, 2, 3, 4, 5, 6, 7, 8] : List Int32) → zin (i + d) L = true) (hcs : cells + 2 ≤ room_1.cells ∧ slots + 6 * 2 ≤ room_1.slots) (hf : fX9_rank_0 n (κ.2.2.2 0) (κ.2.2.2 1) (κ.2.2.2 2) σ (xs (i + 1).toNatClampNeg) (zJ (xs (i + 2).toNatClampNeg) (xs (i + 3).toNatClampNeg)) = some (r1, σ')) (hg : fL_rank r1 o = some (k, o')) (hm : fX10_rank_0 n τ (xs (i + 1).toNatClampNeg) (zJ (xs (i + 2).toNatClampNeg) (xs (i + 3).toNatClampNeg)) = some (rb, τ')) (ht : fX10_thrown_0 n τ' = some k) (hb : k = 0 → o' (Int32.toNatClampNeg 0) = rb.toInt64)
    (kk : ∀ (H1 : Heap) (locs1 : List Loc) (ls1 : Array Slot), zH wL κ A s ((σ', o'), τ') H1 locs1 → lv_has ls1 8 [(0, .ref b), (1, .ref (κ.2.1 0)), (2, .ref (κ.2.1 100)), (3, .ref (κ.2.1 60)), (4, .int i)] → W p l e room_1 s m args below meth c H1 locs1 (cells + 2) (slots + 6 * 2) Q (F0 m 1462 ls1 [])) : W p l e room_1 s m args below meth c H locs cells slots Q (F0 m 1170 ls []) := by
  refine lv_aload_n C.1.ex C.1.by dL_law_1170 rfl (lv_at hl 1 rfl) ?_
  refine lv_aload_n C.1.ex C.1.by dL_law_1171 rfl (lv_at hl 0 rfl) ?_
  refine lv_iload C.1.ex C.1.by dL_law_1172 (lv_at hl 4 rfl) ?_
  refine lv_iconst (v := 1) C.1.ex C.1.by dL_law_1174 (by decide) ?_
  refine lv_iadd C.1.ex C.1.by dL_law_1175 ?_
  refine z_sld C h (hi 1 (by decide)) dL_law_1176 ?_
  refine lv_aload_n C.1.ex C.1.by dL_law_1177 rfl (lv_at hl 0 rfl) ?_
  refine lv_iload C.1.ex C.1.by dL_law_1178 (lv_at hl 4 rfl) ?_
  refine lv_iconst (v := 2) C.1.ex C.1.by dL_law_1180 (by decide) ?_
  refine lv_iadd C.1.ex C.1.by dL_law_1181 ?_
  refine z_sld C h (hi 2 (by decide)) dL_law_1182 ?_
  refine lv_i2l (v := Int32.toInt64 (xs (i + 2).toNatClampNeg)) C.1.ex C.1.by dL_law_1183 rfl ?_
  refine lv_bipush (v := 32) C.1.ex C.1.by dL_law_1184 (by decide) ?_
  refine lv_lshl (v := ((Int32.toInt64 (xs (i + 2).toNatClampNeg)) <<< ((32 : Int32).toInt64 &&& 63))) C.1.ex C.1.by dL_law_1186 rfl ?_
  refine lv_aload_n C.1.ex C.1.by dL_law_1187 rfl (lv_at hl 0 rfl) ?_
  refine lv_iload C.1.ex C.1.by dL_law_1188 (lv_at hl 4 rfl) ?_
  refine lv_iconst (v := 3) C.1.ex C.1.by dL_law_1190 (by decide) ?_
  refine lv_iadd C.1.ex C.1.by dL_law_1191 ?_
  refine z_sld C h (hi 3 (by decide)) dL_law_1192 ?_
  refine lv_i2l (v := Int32.toInt64 (xs (i + 3).toNatClampNeg)) C.1.ex C.1.by dL_law_1193 rfl ?_
  refine lv_ldc2 (v := 4294967295) C.1.ex C.1.by C.1.ow (C.1.ts _ lkZ27) dL_law_1194 ?_
  refine lv_land C.1.ex C.1.by dL_law_1197 ?_
  refine lv_lor C.1.ex C.1.by dL_law_1198 ?_
  refine lv_aload_n C.1.ex C.1.by dL_law_1199 rfl (lv_at hl 3 rfl) ?_
  refine z_lawW (rest := []) C h (wr_rank C.2.1 hf hg) (zgSW lkZ107 lkZ108 lkZ2 lkZ109) ⟨rfl, rfl⟩ hdL_rank ⟨Nat.le_of_ble_eq_true rfl, Nat.le_of_ble_eq_true rfl⟩ hl rfl rfl (Nat.le_of_ble_eq_true rfl) dL_law_1200 hcs (fun H locs h => ?_)
  refine lv_istore (lv' := [(5, .int k), (0, .ref b), (1, .ref (κ.2.1 0)), (2, .ref (κ.2.1 100)), (3, .ref (κ.2.1 60)), (4, .int i)]) C.1.ex C.1.by dL_law_1203 hl (by decide) rfl (fun ls hl => ?_)
  refine lv_aload_n C.1.ex C.1.by dL_law_1205 rfl (lv_at hl 3 rfl) ?_
  refine lv_aload_n C.1.ex C.1.by dL_law_1206 rfl (lv_at hl 1 rfl) ?_
  refine lv_iload C.1.ex C.1.by dL_law_1207 (lv_at hl 5 rfl) ?_
  refine lv_iconst (v := 1) C.1.ex C.1.by dL_law_1209 (by decide) ?_
  refine lv_iadd C.1.ex C.1.by dL_law_1210 ?_
  refine z_sld C h (hi 1 (by decide)) dL_law_1211 ?_
  refine lv_aload_n C.1.ex C.1.by dL_law_1212 rfl (lv_at hl 1 rfl) ?_
  refine lv_iload C.1.ex C.1.by dL_law_1213 (lv_at hl 5 rfl) ?_
  refine lv_iconst (v := 2) C.1.ex C.1.by dL_law_1215 (by decide) ?_
  refine lv_iadd C.1.ex C.1.by dL_law_1216 ?_
  refine z_sld C h (hi 2 (by decide)) dL_law_1217 ?_
  refine lv_i2l (v := Int32.toInt64 (xs (i + 2).toNatClampNeg)) C.1.ex C.1.by dL_law_1218 rfl ?_
  refine lv_bipush (v := 32) C.1.ex C.1.by dL_law_1219 (by decide) ?_
  refine lv_lshl (v := ((Int32.toInt64 (xs (i + 2).toNatClampNeg)) <<< ((32 : Int32).toInt64 &&& 63))) C.1.ex C.1.by dL_law_1221 rfl ?_
  refine lv_aload_n C.1.ex C.1.by dL_law_1222 rfl (lv_at hl 1 rfl) ?_
  refine lv_iload C.1.ex C.1.by dL_law_1223 (lv_at hl 5 rfl) ?_
  refine lv_iconst (v := 3) C.1.ex C.1.by dL_law_1225 (by decide) ?_
  refine lv_iadd C.1.ex C.1.by dL_law_1226 ?_
  refine z_sld C h (hi 3 (by decide)) dL_law_1227 ?_
  refine lv_i2l (v := Int32.toInt64 (xs (i + 3).toNatClampNeg)) C.1.ex C.1.by dL_law_1228 rfl ?_
  refine lv_ldc2 (v := 4294967295) C.1.ex C.1.by C.1.ow (C.1.ts _ lkZ27) dL_law_1229 ?_
  refine lv_land C.1.ex C.1.by dL_law_1232 ?_
  refine lv_lor C.1.ex C.1.by dL_law_1233 ?_
  refine z_lawMi (rest := []) C h (ctX10_rank (κ := zκM κ) hm) (zgV lkZ110 lkZ111 lkZ112 lkZ7 lkZ113) ⟨rfl, rfl⟩ hdX10_rank ⟨Nat.le_of_ble_eq_true rfl, Nat.le_of_ble_eq_true rfl⟩ hl rfl rfl (Nat.le_of_ble_eq_true rfl) dL_law_1234 hcs (fun H locs h => ?_)
  refine lv_istore (lv' := [(6, .int rb), (5, .int k), (0, .ref b), (1, .ref (κ.2.1 0)), (2, .ref (κ.2.1 100)), (3, .ref (κ.2.1 60)), (4, .int i)]) C.1.ex C.1.by dL_law_1237 hl (by decide) rfl (fun ls hl => ?_)
  refine lv_aload_n C.1.ex C.1.by dL_law_1239 rfl (lv_at hl 4 rfl) ?_
  refine z_lawMi (rest := []) C h (ctX10_thrown (κ := zκM κ) ht) (zgV lkZ9 lkZ10 lkZ11 lkZ7 lkZ12) ⟨rfl, rfl⟩ hdX10_thrown ⟨Nat.le_of_ble_eq_true rfl, Nat.le_of_ble_eq_true rfl⟩ hl rfl rfl (Nat.le_of_ble_eq_true rfl) dL_law_1240 hcs (fun H locs h => ?_)
  refine lv_iload C.1.ex C.1.by dL_law_1243 (lv_at hl 1 rfl) ?_
  refine lv_icmp_eq (tgt := 1250) C.1.ex C.1.by dL_law_1245 (by decide) (fun _ => ?_) (fun q => absurd rfl q)
  refine lv_iload C.1.ex C.1.by dL_law_1250 (lv_at hl 1 rfl) ?_
  refine lv_if_ne (tgt := 1267) C.1.ex C.1.by dL_law_1252 (by decide) (fun c1 => ?_) (fun c1 => ?_)
  · skip
    refine lv_goto (tgt := 1462) C.1.ex C.1.by dL_law_1267 (by decide) ?_
    exact kk H locs ls h (lv_sub hl [2, 3, 4, 5, 6] rfl)
  · skip
    refine lv_aload_n C.1.ex C.1.by dL_law_1255 rfl (lv_at hl 5 rfl) ?_
    refine lv_iconst (v := 0) C.1.ex C.1.by dL_law_1256 (by decide) ?_
    refine z_lald (w := wL) C.1 h 52 (wL_at52 κ _) (by decide) dL_law_1257 ?_
    refine lv_iload C.1.ex C.1.by dL_law_1258 (lv_at hl 0 rfl) ?_
    refine lv_i2l (v := Int32.toInt64 rb) C.1.ex C.1.by dL_law_1260 rfl ?_
    refine W.lcmp C.1.ex C.1.by dL_law_1261 ?_
    refine lv_if_eq (tgt := 1267) C.1.ex C.1.by dL_law_1262 (by decide) (fun _ => ?_) (fun q => absurd (z_lcmp0 (hb c1)) q)
    refine lv_goto (tgt := 1462) C.1.ex C.1.by dL_law_1267 (by decide) ?_
    exact kk H locs ls h (lv_sub hl [2, 3, 4, 5, 6] rfl)
theorem hdL_drop : yL_drop.cls ≠ "java/lang/invoke/MethodHandle" ∧ yL_drop.cls ≠ "java/lang/invoke/VarHandle" ∧ (parseMethodDescriptor yL_drop.desc).map (fun d => d.parameters.length) = some 3 := by decide +kernel
set_option maxRecDepth 20000 in
set_option maxHeartbeats 4000000 in
theorem lk_drop {p : Program} {l : Launch} {e : Env} {s : State} {m : MethodId} {args : Array Value} {below : List Frame} {meth : Method} {c : Code} {H : Heap} {locs : List Loc} {cells slots : Nat} {Q : State → Prop} {κ : zG} {A : Nat → Prop} {b L n : Nat} {xs : Nat → Int32} {σ σ' τ τ' : zS} {o o' : Nat → Int64} {ls : Array Slot} {i : Int32} {r1 : String ⊕ Int32} {k : Int32} {rb : Int32} (C : zCL κ A b L xs p l s m args meth c) (h : zH wL κ A s ((σ, o), τ) H locs) (hl : lv_has ls 8 [(0, .ref b), (1, .ref (κ.2.1 0)), (2, .ref (κ.2.1 100)), (3, .ref (κ.2.1 60)), (4, .int i)]) (hi : ∀ d : Int32, d ∈ ([1, 2, 3, 4, 5, 6, 7, 8] : List Int32) → zin (i + d) L = true) (hcs : cells + 2 ≤ room_1.cells ∧ slots + 6 * 2 ≤ room_1.slots) (hf : fX9_drop_0 n (κ.2.2.2 0) (κ.2.2.2 1) (κ.2.2.2 2) σ (xs (i + 1).toNatClampNeg) = some (r1, σ')) (hg : fL_drop r1 o = some (k, o')) (hm : fX10_drop_0 n τ (xs (i + 1).toNatClampNeg) = some (rb, τ')) (ht : fX10_thrown_0 n τ' = some k) (hb : k = 0 → o' (Int32.toNatClampNeg 0) = rb.toInt64)
    (kk : ∀ (H1 : Heap) (locs1 : List Loc) (ls1 : Array Slot), zH wL κ A s ((σ', o'), τ') H1 locs1 → lv_has ls1 8 [(0, .ref b), (1, .ref (κ.2.1 0)), (2, .ref (κ.2.1 100)), (3, .ref (κ.2.1 60)), (4, .int i)] → W p l e room_1 s m args below meth c H1 locs1 (cells + 2) (slots + 6 * 2) Q (F0 m 1462 ls1 [])) : W p l e room_1 s m args below meth c H locs cells slots Q (F0 m 1270 ls []) := by
  refine lv_aload_n C.1.ex C.1.by dL_law_1270 rfl (lv_at hl 1 rfl) ?_
  refine lv_aload_n C.1.ex C.1.by dL_law_1271 rfl (lv_at hl 0 rfl) ?_
  refine lv_iload C.1.ex C.1.by dL_law_1272 (lv_at hl 4 rfl) ?_
  refine lv_iconst (v := 1) C.1.ex C.1.by dL_law_1274 (by decide) ?_
  refine lv_iadd C.1.ex C.1.by dL_law_1275 ?_
  refine z_sld C h (hi 1 (by decide)) dL_law_1276 ?_
  refine lv_aload_n C.1.ex C.1.by dL_law_1277 rfl (lv_at hl 3 rfl) ?_
  refine z_lawW (rest := []) C h (wr_drop C.2.1 hf hg) (zgSW lkZ114 lkZ115 lkZ2 lkZ116) ⟨rfl, rfl⟩ hdL_drop ⟨Nat.le_of_ble_eq_true rfl, Nat.le_of_ble_eq_true rfl⟩ hl rfl rfl (Nat.le_of_ble_eq_true rfl) dL_law_1278 hcs (fun H locs h => ?_)
  refine lv_istore (lv' := [(5, .int k), (0, .ref b), (1, .ref (κ.2.1 0)), (2, .ref (κ.2.1 100)), (3, .ref (κ.2.1 60)), (4, .int i)]) C.1.ex C.1.by dL_law_1281 hl (by decide) rfl (fun ls hl => ?_)
  refine lv_aload_n C.1.ex C.1.by dL_law_1283 rfl (lv_at hl 3 rfl) ?_
  refine lv_aload_n C.1.ex C.1.by dL_law_1284 rfl (lv_at hl 1 rfl) ?_
  refine lv_iload C.1.ex C.1.by dL_law_1285 (lv_at hl 5 rfl) ?_
  refine lv_iconst (v := 1) C.1.ex C.1.by dL_law_1287 (by decide) ?_
  refine lv_iadd C.1.ex C.1.by dL_law_1288 ?_
  refine z_sld C h (hi 1 (by decide)) dL_law_1289 ?_
  refine z_lawMi (rest := []) C h (ctX10_drop (κ := zκM κ) hm) (zgV lkZ117 lkZ118 lkZ119 lkZ7 lkZ120) ⟨rfl, rfl⟩ hdX10_drop ⟨Nat.le_of_ble_eq_true rfl, Nat.le_of_ble_eq_true rfl⟩ hl rfl rfl (Nat.le_of_ble_eq_true rfl) dL_law_1290 hcs (fun H locs h => ?_)
  refine lv_istore (lv' := [(6, .int rb), (5, .int k), (0, .ref b), (1, .ref (κ.2.1 0)), (2, .ref (κ.2.1 100)), (3, .ref (κ.2.1 60)), (4, .int i)]) C.1.ex C.1.by dL_law_1293 hl (by decide) rfl (fun ls hl => ?_)
  refine lv_aload_n C.1.ex C.1.by dL_law_1295 rfl (lv_at hl 4 rfl) ?_
  refine z_lawMi (rest := []) C h (ctX10_thrown (κ := zκM κ) ht) (zgV lkZ9 lkZ10 lkZ11 lkZ7 lkZ12) ⟨rfl, rfl⟩ hdX10_thrown ⟨Nat.le_of_ble_eq_true rfl, Nat.le_of_ble_eq_true rfl⟩ hl rfl rfl (Nat.le_of_ble_eq_true rfl) dL_law_1296 hcs (fun H locs h => ?_)
  refine lv_iload C.1.ex C.1.by dL_law_1299 (lv_at hl 1 rfl) ?_
  refine lv_icmp_eq (tgt := 1306) C.1.ex C.1.by dL_law_1301 (by decide) (fun _ => ?_) (fun q => absurd rfl q)
  refine lv_iload C.1.ex C.1.by dL_law_1306 (lv_at hl 1 rfl) ?_
  refine lv_if_ne (tgt := 1323) C.1.ex C.1.by dL_law_1308 (by decide) (fun c1 => ?_) (fun c1 => ?_)
  · skip
    refine lv_goto (tgt := 1462) C.1.ex C.1.by dL_law_1323 (by decide) ?_
    exact kk H locs ls h (lv_sub hl [2, 3, 4, 5, 6] rfl)
  · skip
    refine lv_aload_n C.1.ex C.1.by dL_law_1311 rfl (lv_at hl 5 rfl) ?_
    refine lv_iconst (v := 0) C.1.ex C.1.by dL_law_1312 (by decide) ?_
    refine z_lald (w := wL) C.1 h 52 (wL_at52 κ _) (by decide) dL_law_1313 ?_
    refine lv_iload C.1.ex C.1.by dL_law_1314 (lv_at hl 0 rfl) ?_
    refine lv_i2l (v := Int32.toInt64 rb) C.1.ex C.1.by dL_law_1316 rfl ?_
    refine W.lcmp C.1.ex C.1.by dL_law_1317 ?_
    refine lv_if_eq (tgt := 1323) C.1.ex C.1.by dL_law_1318 (by decide) (fun _ => ?_) (fun q => absurd (z_lcmp0 (hb c1)) q)
    refine lv_goto (tgt := 1462) C.1.ex C.1.by dL_law_1323 (by decide) ?_
    exact kk H locs ls h (lv_sub hl [2, 3, 4, 5, 6] rfl)
theorem hdL_count : yL_count.cls ≠ "java/lang/invoke/MethodHandle" ∧ yL_count.cls ≠ "java/lang/invoke/VarHandle" ∧ (parseMethodDescriptor yL_count.desc).map (fun d => d.parameters.length) = some 3 := by decide +kernel
set_option maxRecDepth 20000 in
set_option maxHeartbeats 4000000 in
theorem lk_count {p : Program} {l : Launch} {e : Env} {s : State} {m : MethodId} {args : Array Value} {below : List Frame} {meth : Method} {c : Code} {H : Heap} {locs : List Loc} {cells slots : Nat} {Q : State → Prop} {κ : zG} {A : Nat → Prop} {b L n : Nat} {xs : Nat → Int32} {σ τ τ' : zS} {o o' : Nat → Int64} {ls : Array Slot} {i : Int32} {r1 : String ⊕ Int32} {k : Int32} {rb : Int32} (C : zCL κ A b L xs p l s m args meth c) (h : zH wL κ A s ((σ, o), τ) H locs) (hl : lv_has ls 8 [(0, .ref b), (1, .ref (κ.2.1 0)), (2, .ref (κ.2.1 100)), (3, .ref (κ.2.1 60)), (4, .int i)]) (hi : ∀ d : Int32, d ∈ ([1, 2, 3, 4, 5, 6, 7, 8] : List Int32) → zin (i + d) L = true) (hcs : cells + 1 ≤ room_1.cells ∧ slots + 6 * 1 ≤ room_1.slots) (hf : fX9_count_0 n (κ.2.2.2 0) (κ.2.2.2 1) (κ.2.2.2 2) σ (xs (i + 1).toNatClampNeg) = some r1) (hg : fL_count r1 o = some (k, o')) (hm : fX10_count_0 n τ (xs (i + 1).toNatClampNeg) = some (rb, τ')) (ht : fX10_thrown_0 n τ' = some k) (hb : k = 0 → o' (Int32.toNatClampNeg 0) = rb.toInt64)
    (kk : ∀ (H1 : Heap) (locs1 : List Loc) (ls1 : Array Slot), zH wL κ A s ((σ, o'), τ') H1 locs1 → lv_has ls1 8 [(0, .ref b), (1, .ref (κ.2.1 0)), (2, .ref (κ.2.1 100)), (3, .ref (κ.2.1 60)), (4, .int i)] → W p l e room_1 s m args below meth c H1 locs1 (cells + 1) (slots + 6 * 1) Q (F0 m 1462 ls1 [])) : W p l e room_1 s m args below meth c H locs cells slots Q (F0 m 1326 ls []) := by
  refine lv_aload_n C.1.ex C.1.by dL_law_1326 rfl (lv_at hl 1 rfl) ?_
  refine lv_aload_n C.1.ex C.1.by dL_law_1327 rfl (lv_at hl 0 rfl) ?_
  refine lv_iload C.1.ex C.1.by dL_law_1328 (lv_at hl 4 rfl) ?_
  refine lv_iconst (v := 1) C.1.ex C.1.by dL_law_1330 (by decide) ?_
  refine lv_iadd C.1.ex C.1.by dL_law_1331 ?_
  refine z_sld C h (hi 1 (by decide)) dL_law_1332 ?_
  refine lv_aload_n C.1.ex C.1.by dL_law_1333 rfl (lv_at hl 3 rfl) ?_
  refine z_lawW (rest := []) C h (wr_count C.2.1 hf hg) (zgSW lkZ121 lkZ122 lkZ2 lkZ123) ⟨rfl, rfl⟩ hdL_count ⟨Nat.le_of_ble_eq_true rfl, Nat.le_of_ble_eq_true rfl⟩ hl rfl rfl (Nat.le_of_ble_eq_true rfl) dL_law_1334 hcs (fun H locs h => ?_)
  refine lv_istore (lv' := [(5, .int k), (0, .ref b), (1, .ref (κ.2.1 0)), (2, .ref (κ.2.1 100)), (3, .ref (κ.2.1 60)), (4, .int i)]) C.1.ex C.1.by dL_law_1337 hl (by decide) rfl (fun ls hl => ?_)
  refine lv_aload_n C.1.ex C.1.by dL_law_1339 rfl (lv_at hl 3 rfl) ?_
  refine lv_aload_n C.1.ex C.1.by dL_law_1340 rfl (lv_at hl 1 rfl) ?_
  refine lv_iload C.1.ex C.1.by dL_law_1341 (lv_at hl 5 rfl) ?_
  refine lv_iconst (v := 1) C.1.ex C.1.by dL_law_1343 (by decide) ?_
  refine lv_iadd C.1.ex C.1.by dL_law_1344 ?_
  refine z_sld C h (hi 1 (by decide)) dL_law_1345 ?_
  refine z_lawMi (rest := []) C h (ctX10_count (κ := zκM κ) hm) (zgV lkZ124 lkZ125 lkZ126 lkZ7 lkZ127) ⟨rfl, rfl⟩ hdX10_count ⟨Nat.le_of_ble_eq_true rfl, Nat.le_of_ble_eq_true rfl⟩ hl rfl rfl (Nat.le_of_ble_eq_true rfl) dL_law_1346 hcs (fun H locs h => ?_)
  refine lv_istore (lv' := [(6, .int rb), (5, .int k), (0, .ref b), (1, .ref (κ.2.1 0)), (2, .ref (κ.2.1 100)), (3, .ref (κ.2.1 60)), (4, .int i)]) C.1.ex C.1.by dL_law_1349 hl (by decide) rfl (fun ls hl => ?_)
  refine lv_aload_n C.1.ex C.1.by dL_law_1351 rfl (lv_at hl 4 rfl) ?_
  refine z_lawMi (rest := []) C h (ctX10_thrown (κ := zκM κ) ht) (zgV lkZ9 lkZ10 lkZ11 lkZ7 lkZ12) ⟨rfl, rfl⟩ hdX10_thrown ⟨Nat.le_of_ble_eq_true rfl, Nat.le_of_ble_eq_true rfl⟩ hl rfl rfl (Nat.le_of_ble_eq_true rfl) dL_law_1352 hcs (fun H locs h => ?_)
  refine lv_iload C.1.ex C.1.by dL_law_1355 (lv_at hl 1 rfl) ?_
  refine lv_icmp_eq (tgt := 1362) C.1.ex C.1.by dL_law_1357 (by decide) (fun _ => ?_) (fun q => absurd rfl q)
  refine lv_iload C.1.ex C.1.by dL_law_1362 (lv_at hl 1 rfl) ?_
  refine lv_if_ne (tgt := 1379) C.1.ex C.1.by dL_law_1364 (by decide) (fun c1 => ?_) (fun c1 => ?_)
  · skip
    refine lv_goto (tgt := 1462) C.1.ex C.1.by dL_law_1379 (by decide) ?_
    exact kk H locs ls h (lv_sub hl [2, 3, 4, 5, 6] rfl)
  · skip
    refine lv_aload_n C.1.ex C.1.by dL_law_1367 rfl (lv_at hl 5 rfl) ?_
    refine lv_iconst (v := 0) C.1.ex C.1.by dL_law_1368 (by decide) ?_
    refine z_lald (w := wL) C.1 h 52 (wL_at52 κ _) (by decide) dL_law_1369 ?_
    refine lv_iload C.1.ex C.1.by dL_law_1370 (lv_at hl 0 rfl) ?_
    refine lv_i2l (v := Int32.toInt64 rb) C.1.ex C.1.by dL_law_1372 rfl ?_
    refine W.lcmp C.1.ex C.1.by dL_law_1373 ?_
    refine lv_if_eq (tgt := 1379) C.1.ex C.1.by dL_law_1374 (by decide) (fun _ => ?_) (fun q => absurd (z_lcmp0 (hb c1)) q)
    refine lv_goto (tgt := 1462) C.1.ex C.1.by dL_law_1379 (by decide) ?_
    exact kk H locs ls h (lv_sub hl [2, 3, 4, 5, 6] rfl)
theorem hdL_crash : yL_crash.cls ≠ "java/lang/invoke/MethodHandle" ∧ yL_crash.cls ≠ "java/lang/invoke/VarHandle" ∧ (parseMethodDescriptor yL_crash.desc).map (fun d => d.parameters.length) = some 2 := by decide +kernel
set_option maxRecDepth 20000 in
set_option maxHeartbeats 4000000 in
theorem lk_crash {p : Program} {l : Launch} {e : Env} {s : State} {m : MethodId} {args : Array Value} {below : List Frame} {meth : Method} {c : Code} {H : Heap} {locs : List Loc} {cells slots : Nat} {Q : State → Prop} {κ : zG} {A : Nat → Prop} {b L n : Nat} {xs : Nat → Int32} {σ σ' τ τ' : zS} {o o' : Nat → Int64} {ls : Array Slot} {i : Int32} {r1 : String ⊕ Unit} {k : Int32} (C : zCL κ A b L xs p l s m args meth c) (h : zH wL κ A s ((σ, o), τ) H locs) (hl : lv_has ls 8 [(0, .ref b), (1, .ref (κ.2.1 0)), (2, .ref (κ.2.1 100)), (3, .ref (κ.2.1 60)), (4, .int i)]) (hi : ∀ d : Int32, d ∈ ([1, 2, 3, 4, 5, 6, 7, 8] : List Int32) → zin (i + d) L = true) (hcs : cells + 1 ≤ room_1.cells ∧ slots + 6 * 1 ≤ room_1.slots) (hf : fX9_crash_0 n (κ.2.2.2 0) (κ.2.2.2 1) (κ.2.2.2 2) σ (xs (i + 1).toNatClampNeg) = some (r1, σ')) (hg : fL_crash r1 o = some (k, o')) (hm : fX10_crash_0 n τ (xs (i + 1).toNatClampNeg) = some τ') (ht : fX10_thrown_0 n τ' = some k)
    (kk : ∀ (H1 : Heap) (locs1 : List Loc) (ls1 : Array Slot), zH wL κ A s ((σ', o'), τ') H1 locs1 → lv_has ls1 8 [(0, .ref b), (1, .ref (κ.2.1 0)), (2, .ref (κ.2.1 100)), (3, .ref (κ.2.1 60)), (4, .int i)] → W p l e room_1 s m args below meth c H1 locs1 (cells + 1) (slots + 6 * 1) Q (F0 m 1462 ls1 [])) : W p l e room_1 s m args below meth c H locs cells slots Q (F0 m 1382 ls []) := by
  refine lv_aload_n C.1.ex C.1.by dL_law_1382 rfl (lv_at hl 1 rfl) ?_
  refine lv_aload_n C.1.ex C.1.by dL_law_1383 rfl (lv_at hl 0 rfl) ?_
  refine lv_iload C.1.ex C.1.by dL_law_1384 (lv_at hl 4 rfl) ?_
  refine lv_iconst (v := 1) C.1.ex C.1.by dL_law_1386 (by decide) ?_
  refine lv_iadd C.1.ex C.1.by dL_law_1387 ?_
  refine z_sld C h (hi 1 (by decide)) dL_law_1388 ?_
  refine z_lawW (rest := []) C h (wr_crash C.2.1 hf hg) (zgSW lkZ128 lkZ129 lkZ2 lkZ130) ⟨rfl, rfl⟩ hdL_crash ⟨Nat.le_of_ble_eq_true rfl, Nat.le_of_ble_eq_true rfl⟩ hl rfl rfl (Nat.le_of_ble_eq_true rfl) dL_law_1389 hcs (fun H locs h => ?_)
  refine lv_istore (lv' := [(5, .int k), (0, .ref b), (1, .ref (κ.2.1 0)), (2, .ref (κ.2.1 100)), (3, .ref (κ.2.1 60)), (4, .int i)]) C.1.ex C.1.by dL_law_1392 hl (by decide) rfl (fun ls hl => ?_)
  refine lv_aload_n C.1.ex C.1.by dL_law_1394 rfl (lv_at hl 3 rfl) ?_
  refine lv_aload_n C.1.ex C.1.by dL_law_1395 rfl (lv_at hl 1 rfl) ?_
  refine lv_iload C.1.ex C.1.by dL_law_1396 (lv_at hl 5 rfl) ?_
  refine lv_iconst (v := 1) C.1.ex C.1.by dL_law_1398 (by decide) ?_
  refine lv_iadd C.1.ex C.1.by dL_law_1399 ?_
  refine z_sld C h (hi 1 (by decide)) dL_law_1400 ?_
  refine z_lawMv (rest := []) C h (ctX10_crash (κ := zκM κ) hm) (zgV lkZ131 lkZ132 lkZ133 lkZ7 lkZ134) ⟨rfl, rfl⟩ hdX10_crash ⟨Nat.le_of_ble_eq_true rfl, Nat.le_of_ble_eq_true rfl⟩ hl rfl rfl (Nat.le_of_ble_eq_true rfl) dL_law_1401 hcs (fun H locs h => ?_)
  refine lv_aload_n C.1.ex C.1.by dL_law_1404 rfl (lv_at hl 3 rfl) ?_
  refine z_lawMi (rest := []) C h (ctX10_thrown (κ := zκM κ) ht) (zgV lkZ9 lkZ10 lkZ11 lkZ7 lkZ12) ⟨rfl, rfl⟩ hdX10_thrown ⟨Nat.le_of_ble_eq_true rfl, Nat.le_of_ble_eq_true rfl⟩ hl rfl rfl (Nat.le_of_ble_eq_true rfl) dL_law_1405 hcs (fun H locs h => ?_)
  refine lv_iload C.1.ex C.1.by dL_law_1408 (lv_at hl 0 rfl) ?_
  refine lv_icmp_eq (tgt := 1415) C.1.ex C.1.by dL_law_1410 (by decide) (fun _ => ?_) (fun q => absurd rfl q)
  refine lv_goto (tgt := 1462) C.1.ex C.1.by dL_law_1415 (by decide) ?_
  exact kk H locs ls h (lv_sub hl [1, 2, 3, 4, 5] rfl)
theorem hdL_up : yL_up.cls ≠ "java/lang/invoke/MethodHandle" ∧ yL_up.cls ≠ "java/lang/invoke/VarHandle" ∧ (parseMethodDescriptor yL_up.desc).map (fun d => d.parameters.length) = some 2 := by decide +kernel
set_option maxRecDepth 20000 in
set_option maxHeartbeats 4000000 in
theorem lk_up {p : Program} {l : Launch} {e : Env} {s : State} {m : MethodId} {args : Array Value} {below : List Frame} {meth : Method} {c : Code} {H : Heap} {locs : List Loc} {cells slots : Nat} {Q : State → Prop} {κ : zG} {A : Nat → Prop} {b L n : Nat} {xs : Nat → Int32} {σ σ' τ τ' : zS} {o o' : Nat → Int64} {ls : Array Slot} {i : Int32} {r1 : String ⊕ Int32} {k : Int32} {rb : Int32} (C : zCL κ A b L xs p l s m args meth c) (h : zH wL κ A s ((σ, o), τ) H locs) (hl : lv_has ls 8 [(0, .ref b), (1, .ref (κ.2.1 0)), (2, .ref (κ.2.1 100)), (3, .ref (κ.2.1 60)), (4, .int i)]) (hi : ∀ d : Int32, d ∈ ([1, 2, 3, 4, 5, 6, 7, 8] : List Int32) → zin (i + d) L = true) (hcs : cells + 1 ≤ room_1.cells ∧ slots + 6 * 1 ≤ room_1.slots) (hf : fX9_up_0 n (κ.2.2.2 0) (κ.2.2.2 1) (κ.2.2.2 2) σ = some (r1, σ')) (hg : fL_up r1 o = some (k, o')) (hm : fX10_up_0 n τ = some (rb, τ')) (ht : fX10_thrown_0 n τ' = some k) (hb : k = 0 → o' (Int32.toNatClampNeg 0) = rb.toInt64)
    (kk : ∀ (H1 : Heap) (locs1 : List Loc) (ls1 : Array Slot), zH wL κ A s ((σ', o'), τ') H1 locs1 → lv_has ls1 8 [(0, .ref b), (1, .ref (κ.2.1 0)), (2, .ref (κ.2.1 100)), (3, .ref (κ.2.1 60)), (4, .int i)] → W p l e room_1 s m args below meth c H1 locs1 (cells + 1) (slots + 6 * 1) Q (F0 m 1462 ls1 [])) : W p l e room_1 s m args below meth c H locs cells slots Q (F0 m 1418 ls []) := by
  refine lv_aload_n C.1.ex C.1.by dL_law_1418 rfl (lv_at hl 1 rfl) ?_
  refine lv_aload_n C.1.ex C.1.by dL_law_1419 rfl (lv_at hl 3 rfl) ?_
  refine z_lawW (rest := []) C h (wr_up C.2.1 hf hg) (zgSW lkZ135 lkZ136 lkZ2 lkZ137) ⟨rfl, rfl⟩ hdL_up ⟨Nat.le_of_ble_eq_true rfl, Nat.le_of_ble_eq_true rfl⟩ hl rfl rfl (Nat.le_of_ble_eq_true rfl) dL_law_1420 hcs (fun H locs h => ?_)
  refine lv_istore (lv' := [(5, .int k), (0, .ref b), (1, .ref (κ.2.1 0)), (2, .ref (κ.2.1 100)), (3, .ref (κ.2.1 60)), (4, .int i)]) C.1.ex C.1.by dL_law_1423 hl (by decide) rfl (fun ls hl => ?_)
  refine lv_aload_n C.1.ex C.1.by dL_law_1425 rfl (lv_at hl 3 rfl) ?_
  refine z_lawMi (rest := []) C h (ctX10_up (κ := zκM κ) hm) (zgV lkZ138 lkZ139 lkZ140 lkZ7 lkZ141) ⟨rfl, rfl⟩ hdX10_up ⟨Nat.le_of_ble_eq_true rfl, Nat.le_of_ble_eq_true rfl⟩ hl rfl rfl (Nat.le_of_ble_eq_true rfl) dL_law_1426 hcs (fun H locs h => ?_)
  refine lv_istore (lv' := [(6, .int rb), (5, .int k), (0, .ref b), (1, .ref (κ.2.1 0)), (2, .ref (κ.2.1 100)), (3, .ref (κ.2.1 60)), (4, .int i)]) C.1.ex C.1.by dL_law_1429 hl (by decide) rfl (fun ls hl => ?_)
  refine lv_aload_n C.1.ex C.1.by dL_law_1431 rfl (lv_at hl 4 rfl) ?_
  refine z_lawMi (rest := []) C h (ctX10_thrown (κ := zκM κ) ht) (zgV lkZ9 lkZ10 lkZ11 lkZ7 lkZ12) ⟨rfl, rfl⟩ hdX10_thrown ⟨Nat.le_of_ble_eq_true rfl, Nat.le_of_ble_eq_true rfl⟩ hl rfl rfl (Nat.le_of_ble_eq_true rfl) dL_law_1432 hcs (fun H locs h => ?_)
  refine lv_iload C.1.ex C.1.by dL_law_1435 (lv_at hl 1 rfl) ?_
  refine lv_icmp_eq (tgt := 1442) C.1.ex C.1.by dL_law_1437 (by decide) (fun _ => ?_) (fun q => absurd rfl q)
  refine lv_iload C.1.ex C.1.by dL_law_1442 (lv_at hl 1 rfl) ?_
  refine lv_if_ne (tgt := 1459) C.1.ex C.1.by dL_law_1444 (by decide) (fun c1 => ?_) (fun c1 => ?_)
  · skip
    refine lv_goto (tgt := 1462) C.1.ex C.1.by dL_law_1459 (by decide) ?_
    exact kk H locs ls h (lv_sub hl [2, 3, 4, 5, 6] rfl)
  · skip
    refine lv_aload_n C.1.ex C.1.by dL_law_1447 rfl (lv_at hl 5 rfl) ?_
    refine lv_iconst (v := 0) C.1.ex C.1.by dL_law_1448 (by decide) ?_
    refine z_lald (w := wL) C.1 h 52 (wL_at52 κ _) (by decide) dL_law_1449 ?_
    refine lv_iload C.1.ex C.1.by dL_law_1450 (lv_at hl 0 rfl) ?_
    refine lv_i2l (v := Int32.toInt64 rb) C.1.ex C.1.by dL_law_1452 rfl ?_
    refine W.lcmp C.1.ex C.1.by dL_law_1453 ?_
    refine lv_if_eq (tgt := 1459) C.1.ex C.1.by dL_law_1454 (by decide) (fun _ => ?_) (fun q => absurd (z_lcmp0 (hb c1)) q)
    refine lv_goto (tgt := 1462) C.1.ex C.1.by dL_law_1459 (by decide) ?_
    exact kk H locs ls h (lv_sub hl [2, 3, 4, 5, 6] rfl)
