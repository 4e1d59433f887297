theorem sk_0 : e_sk[0]? = some (.inr (9, [.ref 1, .ref 11, .ref 133, .ref 149, .ref 165, .ref 169, .ref 173, .ref 177, .ref 179, .ref 182])) := rfl
theorem sk_1 : e_sk[1]? = some (.inr (3, [.int 0, .int 0, .int 0, .ref 2, .ref 3, .ref 4, .ref 5, .ref 6, .ref 7, .ref 8, .ref 9, .ref 10])) := rfl
theorem si_2 : e_isI 2 48 := rfl
theorem si_3 : e_isI 3 96 := rfl
theorem si_4 : e_isI 4 64 := rfl
theorem si_5 : e_isI 5 30 := rfl
theorem si_6 : e_isI 6 3 := rfl
theorem si_7 : e_isI 7 2 := rfl
theorem si_8 : e_isI 8 16 := rfl
theorem si_9 : e_isI 9 3 := rfl
theorem si_10 : e_isI 10 48 := rfl
theorem sk_11 : e_sk[11]? = some (.inr (0, [.ref 12, .int 0, .int 0])) := rfl
theorem sk_133 : e_sk[133]? = some (.inr (6, [.int 0, .int 0, .int 0, .ref 134, .ref 135, .ref 136, .ref 137, .ref 138, .ref 139, .ref 140, .ref 141, .ref 142, .ref 143, .ref 144, .ref 145, .ref 146, .ref 147, .ref 148])) := rfl
theorem si_134 : e_isI 134 16 := rfl
theorem si_135 : e_isI 135 16 := rfl
theorem si_136 : e_isI 136 16 := rfl
theorem si_137 : e_isI 137 16 := rfl
theorem si_138 : e_isI 138 16 := rfl
theorem si_139 : e_isI 139 16 := rfl
theorem si_140 : e_isI 140 16 := rfl
theorem si_141 : e_isI 141 16 := rfl
theorem si_142 : e_isI 142 16 := rfl
theorem si_143 : e_isI 143 32 := rfl
theorem si_144 : e_isI 144 8 := rfl
theorem si_145 : e_isI 145 4 := rfl
theorem si_146 : e_isI 146 3 := rfl
theorem si_147 : e_isI 147 8 := rfl
theorem si_148 : e_isI 148 2000 := rfl
theorem sk_149 : e_sk[149]? = some (.inr (6, [.int 0, .int 0, .int 0, .ref 150, .ref 151, .ref 152, .ref 153, .ref 154, .ref 155, .ref 156, .ref 157, .ref 158, .ref 159, .ref 160, .ref 161, .ref 162, .ref 163, .ref 164])) := rfl
theorem si_150 : e_isI 150 16 := rfl
theorem si_151 : e_isI 151 16 := rfl
theorem si_152 : e_isI 152 16 := rfl
theorem si_153 : e_isI 153 16 := rfl
theorem si_154 : e_isI 154 16 := rfl
theorem si_155 : e_isI 155 16 := rfl
theorem si_156 : e_isI 156 16 := rfl
theorem si_157 : e_isI 157 16 := rfl
theorem si_158 : e_isI 158 16 := rfl
theorem si_159 : e_isI 159 32 := rfl
theorem si_160 : e_isI 160 8 := rfl
theorem si_161 : e_isI 161 4 := rfl
theorem si_162 : e_isI 162 3 := rfl
theorem si_163 : e_isI 163 8 := rfl
theorem si_164 : e_isI 164 2000 := rfl
theorem sk_165 : e_sk[165]? = some (.inr (1, [.ref 166, .ref 167, .ref 168, .int 0, .int 0, .long 0])) := rfl
theorem si_166 : e_isI 166 16 := rfl
theorem si_167 : e_isI 167 16 := rfl
theorem si_168 : e_isI 168 4 := rfl
theorem sk_169 : e_sk[169]? = some (.inr (2, [.ref 170, .ref 171, .ref 172, .int 0, .int 0])) := rfl
theorem si_170 : e_isI 170 8 := rfl
theorem si_171 : e_isI 171 8 := rfl
theorem si_172 : e_isI 172 8 := rfl
theorem sk_173 : e_sk[173]? = some (.inr (7, [.ref 174, .ref 175, .ref 176, .int 0])) := rfl
theorem si_174 : e_isI 174 8 := rfl
theorem si_175 : e_isI 175 8 := rfl
theorem si_176 : e_isI 176 8 := rfl
theorem sk_177 : e_sk[177]? = some (.inr (5, [.ref 178])) := rfl
theorem si_178 : e_isI 178 64 := rfl
theorem sk_179 : e_sk[179]? = some (.inr (4, [.int 0, .int 0, .ref 180, .ref 181])) := rfl
theorem si_180 : e_isI 180 60 := rfl
theorem si_181 : e_isI 181 8 := rfl
theorem sk_182 : e_sk[182]? = some (.inr (8, [.int 0, .ref 183])) := rfl
theorem sk_184 : e_sk[184]? = some (.inr (10, [.int 0, .ref 0, .ref 185, .ref 186, .ref 187, .ref 188, .ref 189, .ref 190, .ref 191, .ref 192, .ref 193, .ref 194, .ref 195, .ref 196, .ref 197, .ref 198, .int 0, .int 0, .int 0, .int 0, .int 0, .ref 199, .ref 200, .ref 201, .ref 202, .ref 203, .ref 204, .int 0, .ref 205, .int 0, .int 0, .int 0, .int 0, .int 0])) := rfl
theorem si_185 : e_isI 185 8 := rfl
theorem si_186 : e_isI 186 8 := rfl
theorem si_187 : e_isI 187 8 := rfl
theorem si_188 : e_isI 188 8 := rfl
theorem si_189 : e_isI 189 8 := rfl
theorem si_190 : e_isI 190 8 := rfl
theorem si_191 : e_isI 191 32 := rfl
theorem si_192 : e_isI 192 32 := rfl
theorem si_193 : e_isI 193 32 := rfl
theorem si_194 : e_isI 194 64 := rfl
theorem si_195 : e_isI 195 3 := rfl
theorem si_196 : e_isI 196 10 := rfl
theorem si_197 : e_isI 197 10 := rfl
theorem si_198 : e_isI 198 10 := rfl
theorem si_199 : e_isI 199 16 := rfl
theorem si_200 : e_isI 200 16 := rfl
theorem si_201 : e_isI 201 16 := rfl
theorem si_202 : e_isI 202 16 := rfl
theorem si_203 : e_isI 203 16 := rfl
theorem si_204 : e_isI 204 16 := rfl
theorem si_205 : e_isI 205 8 := rfl
theorem ecy_0 : e_cy 0 = 0 := by decide +kernel
theorem ekd_0 : e_kd 0 = 2 := rfl
theorem enp_0 : e_np 0 = 0 := rfl
theorem enm_0 : e_cn 0 = (e_nm 0).cls := by decide +kernel
theorem ecy_1 : e_cy 1 = 0 := by decide +kernel
theorem ekd_1 : e_kd 1 = 1 := rfl
theorem enp_1 : e_np 1 = 1 := rfl
theorem enm_1 : e_cn 0 = (e_nm 1).cls := by decide +kernel
theorem ecy_2 : e_cy 2 = 0 := by decide +kernel
theorem ekd_2 : e_kd 2 = 1 := rfl
theorem enp_2 : e_np 2 = 1 := rfl
theorem enm_2 : e_cn 0 = (e_nm 2).cls := by decide +kernel
theorem ecy_3 : e_cy 3 = 0 := by decide +kernel
theorem ekd_3 : e_kd 3 = 1 := rfl
theorem enp_3 : e_np 3 = 1 := rfl
theorem enm_3 : e_cn 0 = (e_nm 3).cls := by decide +kernel
theorem ecy_4 : e_cy 4 = 1 := by decide +kernel
theorem ekd_4 : e_kd 4 = 2 := rfl
theorem enp_4 : e_np 4 = 0 := rfl
theorem enm_4 : e_cn 1 = (e_nm 4).cls := by decide +kernel
theorem ecy_5 : e_cy 5 = 1 := by decide +kernel
theorem ekd_5 : e_kd 5 = 1 := rfl
theorem enp_5 : e_np 5 = 3 := rfl
theorem enm_5 : e_cn 1 = (e_nm 5).cls := by decide +kernel
theorem ecy_6 : e_cy 6 = 1 := by decide +kernel
theorem ekd_6 : e_kd 6 = 1 := rfl
theorem enp_6 : e_np 6 = 3 := rfl
theorem enm_6 : e_cn 1 = (e_nm 6).cls := by decide +kernel
theorem ecy_7 : e_cy 7 = 1 := by decide +kernel
theorem ekd_7 : e_kd 7 = 0 := rfl
theorem enp_7 : e_np 7 = 4 := rfl
theorem enm_7 : e_cn 1 = (e_nm 7).cls := by decide +kernel
theorem ecy_8 : e_cy 8 = 1 := by decide +kernel
theorem ekd_8 : e_kd 8 = 1 := rfl
theorem enp_8 : e_np 8 = 3 := rfl
theorem enm_8 : e_cn 1 = (e_nm 8).cls := by decide +kernel
theorem ecy_9 : e_cy 9 = 1 := by decide +kernel
theorem ekd_9 : e_kd 9 = 1 := rfl
theorem enp_9 : e_np 9 = 4 := rfl
theorem enm_9 : e_cn 1 = (e_nm 9).cls := by decide +kernel
theorem ecy_10 : e_cy 10 = 1 := by decide +kernel
theorem ekd_10 : e_kd 10 = 1 := rfl
theorem enp_10 : e_np 10 = 5 := rfl
theorem enm_10 : e_cn 1 = (e_nm 10).cls := by decide +kernel
theorem ecy_11 : e_cy 11 = 1 := by decide +kernel
theorem ekd_11 : e_kd 11 = 1 := rfl
theorem enp_11 : e_np 11 = 3 := rfl
theorem enm_11 : e_cn 1 = (e_nm 11).cls := by decide +kernel
theorem ecy_12 : e_cy 12 = 1 := by decide +kernel
theorem ekd_12 : e_kd 12 = 1 := rfl
theorem enp_12 : e_np 12 = 2 := rfl
theorem enm_12 : e_cn 1 = (e_nm 12).cls := by decide +kernel
theorem ecy_13 : e_cy 13 = 1 := by decide +kernel
theorem ekd_13 : e_kd 13 = 1 := rfl
theorem enp_13 : e_np 13 = 4 := rfl
theorem enm_13 : e_cn 1 = (e_nm 13).cls := by decide +kernel
theorem ecy_14 : e_cy 14 = 1 := by decide +kernel
theorem ekd_14 : e_kd 14 = 1 := rfl
theorem enp_14 : e_np 14 = 2 := rfl
theorem enm_14 : e_cn 1 = (e_nm 14).cls := by decide +kernel
theorem ecy_15 : e_cy 15 = 2 := by decide +kernel
theorem ekd_15 : e_kd 15 = 2 := rfl
theorem enp_15 : e_np 15 = 0 := rfl
theorem enm_15 : e_cn 2 = (e_nm 15).cls := by decide +kernel
theorem ecy_16 : e_cy 16 = 2 := by decide +kernel
theorem ekd_16 : e_kd 16 = 1 := rfl
theorem enp_16 : e_np 16 = 3 := rfl
theorem enm_16 : e_cn 2 = (e_nm 16).cls := by decide +kernel
theorem ecy_17 : e_cy 17 = 2 := by decide +kernel
theorem ekd_17 : e_kd 17 = 1 := rfl
theorem enp_17 : e_np 17 = 1 := rfl
theorem enm_17 : e_cn 2 = (e_nm 17).cls := by decide +kernel
theorem ecy_18 : e_cy 18 = 2 := by decide +kernel
theorem ekd_18 : e_kd 18 = 1 := rfl
theorem enp_18 : e_np 18 = 3 := rfl
theorem enm_18 : e_cn 2 = (e_nm 18).cls := by decide +kernel
theorem ecy_19 : e_cy 19 = 2 := by decide +kernel
theorem ekd_19 : e_kd 19 = 1 := rfl
theorem enp_19 : e_np 19 = 4 := rfl
theorem enm_19 : e_cn 2 = (e_nm 19).cls := by decide +kernel
theorem ecy_20 : e_cy 20 = 2 := by decide +kernel
theorem ekd_20 : e_kd 20 = 1 := rfl
theorem enp_20 : e_np 20 = 1 := rfl
theorem enm_20 : e_cn 2 = (e_nm 20).cls := by decide +kernel
theorem ecy_21 : e_cy 21 = 2 := by decide +kernel
theorem ekd_21 : e_kd 21 = 1 := rfl
theorem enp_21 : e_np 21 = 1 := rfl
theorem enm_21 : e_cn 2 = (e_nm 21).cls := by decide +kernel
theorem ecy_22 : e_cy 22 = 2 := by decide +kernel
theorem ekd_22 : e_kd 22 = 1 := rfl
theorem enp_22 : e_np 22 = 2 := rfl
theorem enm_22 : e_cn 2 = (e_nm 22).cls := by decide +kernel
theorem ecy_23 : e_cy 23 = 2 := by decide +kernel
theorem ekd_23 : e_kd 23 = 1 := rfl
theorem enp_23 : e_np 23 = 1 := rfl
theorem enm_23 : e_cn 2 = (e_nm 23).cls := by decide +kernel
theorem ecy_24 : e_cy 24 = 2 := by decide +kernel
theorem ekd_24 : e_kd 24 = 1 := rfl
theorem enp_24 : e_np 24 = 1 := rfl
theorem enm_24 : e_cn 2 = (e_nm 24).cls := by decide +kernel
theorem ecy_25 : e_cy 25 = 3 := by decide +kernel
theorem ekd_25 : e_kd 25 = 2 := rfl
theorem enp_25 : e_np 25 = 0 := rfl
theorem enm_25 : e_cn 3 = (e_nm 25).cls := by decide +kernel
theorem ecy_26 : e_cy 26 = 3 := by decide +kernel
theorem ekd_26 : e_kd 26 = 1 := rfl
theorem enp_26 : e_np 26 = 1 := rfl
theorem enm_26 : e_cn 3 = (e_nm 26).cls := by decide +kernel
theorem ecy_27 : e_cy 27 = 3 := by decide +kernel
theorem ekd_27 : e_kd 27 = 1 := rfl
theorem enp_27 : e_np 27 = 2 := rfl
theorem enm_27 : e_cn 3 = (e_nm 27).cls := by decide +kernel
theorem ecy_28 : e_cy 28 = 3 := by decide +kernel
theorem ekd_28 : e_kd 28 = 1 := rfl
theorem enp_28 : e_np 28 = 3 := rfl
theorem enm_28 : e_cn 3 = (e_nm 28).cls := by decide +kernel
theorem ecy_29 : e_cy 29 = 3 := by decide +kernel
theorem ekd_29 : e_kd 29 = 1 := rfl
theorem enp_29 : e_np 29 = 1 := rfl
theorem enm_29 : e_cn 3 = (e_nm 29).cls := by decide +kernel
theorem ecy_30 : e_cy 30 = 3 := by decide +kernel
theorem ekd_30 : e_kd 30 = 1 := rfl
theorem enp_30 : e_np 30 = 3 := rfl
theorem enm_30 : e_cn 3 = (e_nm 30).cls := by decide +kernel
theorem ecy_31 : e_cy 31 = 3 := by decide +kernel
theorem ekd_31 : e_kd 31 = 1 := rfl
theorem enp_31 : e_np 31 = 2 := rfl
theorem enm_31 : e_cn 3 = (e_nm 31).cls := by decide +kernel
theorem ecy_32 : e_cy 32 = 3 := by decide +kernel
theorem ekd_32 : e_kd 32 = 1 := rfl
theorem enp_32 : e_np 32 = 2 := rfl
theorem enm_32 : e_cn 3 = (e_nm 32).cls := by decide +kernel
theorem ecy_33 : e_cy 33 = 3 := by decide +kernel
theorem ekd_33 : e_kd 33 = 1 := rfl
theorem enp_33 : e_np 33 = 2 := rfl
theorem enm_33 : e_cn 3 = (e_nm 33).cls := by decide +kernel
theorem ecy_34 : e_cy 34 = 3 := by decide +kernel
theorem ekd_34 : e_kd 34 = 1 := rfl
theorem enp_34 : e_np 34 = 1 := rfl
theorem enm_34 : e_cn 3 = (e_nm 34).cls := by decide +kernel
theorem ecy_35 : e_cy 35 = 3 := by decide +kernel
theorem ekd_35 : e_kd 35 = 1 := rfl
theorem enp_35 : e_np 35 = 5 := rfl
theorem enm_35 : e_cn 3 = (e_nm 35).cls := by decide +kernel
theorem ecy_36 : e_cy 36 = 3 := by decide +kernel
theorem ekd_36 : e_kd 36 = 1 := rfl
theorem enp_36 : e_np 36 = 4 := rfl
theorem enm_36 : e_cn 3 = (e_nm 36).cls := by decide +kernel
theorem ecy_37 : e_cy 37 = 3 := by decide +kernel
theorem ekd_37 : e_kd 37 = 1 := rfl
theorem enp_37 : e_np 37 = 3 := rfl
theorem enm_37 : e_cn 3 = (e_nm 37).cls := by decide +kernel
theorem ecy_38 : e_cy 38 = 3 := by decide +kernel
theorem ekd_38 : e_kd 38 = 1 := rfl
theorem enp_38 : e_np 38 = 4 := rfl
theorem enm_38 : e_cn 3 = (e_nm 38).cls := by decide +kernel
theorem ecy_39 : e_cy 39 = 3 := by decide +kernel
theorem ekd_39 : e_kd 39 = 1 := rfl
theorem enp_39 : e_np 39 = 3 := rfl
theorem enm_39 : e_cn 3 = (e_nm 39).cls := by decide +kernel
theorem ecy_40 : e_cy 40 = 3 := by decide +kernel
theorem ekd_40 : e_kd 40 = 1 := rfl
theorem enp_40 : e_np 40 = 3 := rfl
theorem enm_40 : e_cn 3 = (e_nm 40).cls := by decide +kernel
theorem ecy_41 : e_cy 41 = 3 := by decide +kernel
theorem ekd_41 : e_kd 41 = 1 := rfl
theorem enp_41 : e_np 41 = 0 := rfl
theorem enm_41 : e_cn 3 = (e_nm 41).cls := by decide +kernel
theorem ecy_42 : e_cy 42 = 3 := by decide +kernel
theorem ekd_42 : e_kd 42 = 1 := rfl
theorem enp_42 : e_np 42 = 0 := rfl
theorem enm_42 : e_cn 3 = (e_nm 42).cls := by decide +kernel
theorem ecy_43 : e_cy 43 = 3 := by decide +kernel
theorem ekd_43 : e_kd 43 = 1 := rfl
theorem enp_43 : e_np 43 = 0 := rfl
theorem enm_43 : e_cn 3 = (e_nm 43).cls := by decide +kernel
theorem ecy_44 : e_cy 44 = 3 := by decide +kernel
theorem ekd_44 : e_kd 44 = 1 := rfl
theorem enp_44 : e_np 44 = 1 := rfl
theorem enm_44 : e_cn 3 = (e_nm 44).cls := by decide +kernel
theorem ecy_45 : e_cy 45 = 3 := by decide +kernel
theorem ekd_45 : e_kd 45 = 1 := rfl
theorem enp_45 : e_np 45 = 2 := rfl
theorem enm_45 : e_cn 3 = (e_nm 45).cls := by decide +kernel
theorem ecy_46 : e_cy 46 = 3 := by decide +kernel
theorem ekd_46 : e_kd 46 = 1 := rfl
theorem enp_46 : e_np 46 = 0 := rfl
theorem enm_46 : e_cn 3 = (e_nm 46).cls := by decide +kernel
theorem ecy_47 : e_cy 47 = 3 := by decide +kernel
theorem ekd_47 : e_kd 47 = 1 := rfl
theorem enp_47 : e_np 47 = 1 := rfl
theorem enm_47 : e_cn 3 = (e_nm 47).cls := by decide +kernel
theorem ecy_48 : e_cy 48 = 4 := by decide +kernel
theorem ekd_48 : e_kd 48 = 2 := rfl
theorem enp_48 : e_np 48 = 0 := rfl
theorem enm_48 : e_cn 4 = (e_nm 48).cls := by decide +kernel
theorem ecy_49 : e_cy 49 = 4 := by decide +kernel
theorem ekd_49 : e_kd 49 = 0 := rfl
theorem enp_49 : e_np 49 = 1 := rfl
theorem enm_49 : e_cn 4 = (e_nm 49).cls := by decide +kernel
theorem ecy_50 : e_cy 50 = 4 := by decide +kernel
theorem ekd_50 : e_kd 50 = 1 := rfl
theorem enp_50 : e_np 50 = 1 := rfl
theorem enm_50 : e_cn 4 = (e_nm 50).cls := by decide +kernel
theorem ecy_51 : e_cy 51 = 4 := by decide +kernel
theorem ekd_51 : e_kd 51 = 1 := rfl
theorem enp_51 : e_np 51 = 2 := rfl
theorem enm_51 : e_cn 4 = (e_nm 51).cls := by decide +kernel
theorem ecy_52 : e_cy 52 = 5 := by decide +kernel
theorem ekd_52 : e_kd 52 = 2 := rfl
theorem enp_52 : e_np 52 = 0 := rfl
theorem enm_52 : e_cn 5 = (e_nm 52).cls := by decide +kernel
theorem ecy_53 : e_cy 53 = 5 := by decide +kernel
theorem ekd_53 : e_kd 53 = 1 := rfl
theorem enp_53 : e_np 53 = 2 := rfl
theorem enm_53 : e_cn 5 = (e_nm 53).cls := by decide +kernel
theorem ecy_54 : e_cy 54 = 5 := by decide +kernel
theorem ekd_54 : e_kd 54 = 1 := rfl
theorem enp_54 : e_np 54 = 3 := rfl
theorem enm_54 : e_cn 5 = (e_nm 54).cls := by decide +kernel
theorem ecy_55 : e_cy 55 = 5 := by decide +kernel
theorem ekd_55 : e_kd 55 = 1 := rfl
theorem enp_55 : e_np 55 = 4 := rfl
theorem enm_55 : e_cn 5 = (e_nm 55).cls := by decide +kernel
theorem ecy_56 : e_cy 56 = 5 := by decide +kernel
theorem ekd_56 : e_kd 56 = 0 := rfl
theorem enp_56 : e_np 56 = 5 := rfl
theorem enm_56 : e_cn 5 = (e_nm 56).cls := by decide +kernel
theorem ecy_57 : e_cy 57 = 5 := by decide +kernel
theorem ekd_57 : e_kd 57 = 1 := rfl
theorem enp_57 : e_np 57 = 2 := rfl
theorem enm_57 : e_cn 5 = (e_nm 57).cls := by decide +kernel
theorem ecy_58 : e_cy 58 = 5 := by decide +kernel
theorem ekd_58 : e_kd 58 = 1 := rfl
theorem enp_58 : e_np 58 = 1 := rfl
theorem enm_58 : e_cn 5 = (e_nm 58).cls := by decide +kernel
theorem ecy_59 : e_cy 59 = 5 := by decide +kernel
theorem ekd_59 : e_kd 59 = 1 := rfl
theorem enp_59 : e_np 59 = 2 := rfl
theorem enm_59 : e_cn 5 = (e_nm 59).cls := by decide +kernel
theorem ecy_60 : e_cy 60 = 5 := by decide +kernel
theorem ekd_60 : e_kd 60 = 0 := rfl
theorem enp_60 : e_np 60 = 2 := rfl
theorem enm_60 : e_cn 5 = (e_nm 60).cls := by decide +kernel
theorem ecy_61 : e_cy 61 = 6 := by decide +kernel
theorem ekd_61 : e_kd 61 = 2 := rfl
theorem enp_61 : e_np 61 = 0 := rfl
theorem enm_61 : e_cn 6 = (e_nm 61).cls := by decide +kernel
theorem ecy_62 : e_cy 62 = 6 := by decide +kernel
theorem ekd_62 : e_kd 62 = 1 := rfl
theorem enp_62 : e_np 62 = 1 := rfl
theorem enm_62 : e_cn 6 = (e_nm 62).cls := by decide +kernel
theorem ecy_63 : e_cy 63 = 6 := by decide +kernel
theorem ekd_63 : e_kd 63 = 1 := rfl
theorem enp_63 : e_np 63 = 3 := rfl
theorem enm_63 : e_cn 6 = (e_nm 63).cls := by decide +kernel
theorem ecy_64 : e_cy 64 = 6 := by decide +kernel
theorem ekd_64 : e_kd 64 = 1 := rfl
theorem enp_64 : e_np 64 = 1 := rfl
theorem enm_64 : e_cn 6 = (e_nm 64).cls := by decide +kernel
theorem ecy_65 : e_cy 65 = 6 := by decide +kernel
theorem ekd_65 : e_kd 65 = 1 := rfl
theorem enp_65 : e_np 65 = 2 := rfl
theorem enm_65 : e_cn 6 = (e_nm 65).cls := by decide +kernel
theorem ecy_66 : e_cy 66 = 6 := by decide +kernel
theorem ekd_66 : e_kd 66 = 1 := rfl
theorem enp_66 : e_np 66 = 2 := rfl
theorem enm_66 : e_cn 6 = (e_nm 66).cls := by decide +kernel
theorem ecy_67 : e_cy 67 = 6 := by decide +kernel
theorem ekd_67 : e_kd 67 = 1 := rfl
theorem enp_67 : e_np 67 = 2 := rfl
theorem enm_67 : e_cn 6 = (e_nm 67).cls := by decide +kernel
theorem ecy_68 : e_cy 68 = 6 := by decide +kernel
theorem ekd_68 : e_kd 68 = 1 := rfl
theorem enp_68 : e_np 68 = 1 := rfl
theorem enm_68 : e_cn 6 = (e_nm 68).cls := by decide +kernel
theorem ecy_69 : e_cy 69 = 6 := by decide +kernel
theorem ekd_69 : e_kd 69 = 1 := rfl
theorem enp_69 : e_np 69 = 4 := rfl
theorem enm_69 : e_cn 6 = (e_nm 69).cls := by decide +kernel
theorem ecy_70 : e_cy 70 = 6 := by decide +kernel
theorem ekd_70 : e_kd 70 = 1 := rfl
theorem enp_70 : e_np 70 = 4 := rfl
theorem enm_70 : e_cn 6 = (e_nm 70).cls := by decide +kernel
theorem ecy_71 : e_cy 71 = 6 := by decide +kernel
theorem ekd_71 : e_kd 71 = 1 := rfl
theorem enp_71 : e_np 71 = 3 := rfl
theorem enm_71 : e_cn 6 = (e_nm 71).cls := by decide +kernel
theorem ecy_72 : e_cy 72 = 6 := by decide +kernel
theorem ekd_72 : e_kd 72 = 1 := rfl
theorem enp_72 : e_np 72 = 3 := rfl
theorem enm_72 : e_cn 6 = (e_nm 72).cls := by decide +kernel
theorem ecy_73 : e_cy 73 = 6 := by decide +kernel
theorem ekd_73 : e_kd 73 = 1 := rfl
theorem enp_73 : e_np 73 = 3 := rfl
theorem enm_73 : e_cn 6 = (e_nm 73).cls := by decide +kernel
theorem ecy_74 : e_cy 74 = 6 := by decide +kernel
theorem ekd_74 : e_kd 74 = 1 := rfl
theorem enp_74 : e_np 74 = 0 := rfl
theorem enm_74 : e_cn 6 = (e_nm 74).cls := by decide +kernel
theorem ecy_75 : e_cy 75 = 6 := by decide +kernel
theorem ekd_75 : e_kd 75 = 1 := rfl
theorem enp_75 : e_np 75 = 2 := rfl
theorem enm_75 : e_cn 6 = (e_nm 75).cls := by decide +kernel
theorem ecy_76 : e_cy 76 = 6 := by decide +kernel
theorem ekd_76 : e_kd 76 = 1 := rfl
theorem enp_76 : e_np 76 = 1 := rfl
theorem enm_76 : e_cn 6 = (e_nm 76).cls := by decide +kernel
theorem ecy_77 : e_cy 77 = 6 := by decide +kernel
theorem ekd_77 : e_kd 77 = 1 := rfl
theorem enp_77 : e_np 77 = 2 := rfl
theorem enm_77 : e_cn 6 = (e_nm 77).cls := by decide +kernel
theorem ecy_78 : e_cy 78 = 6 := by decide +kernel
theorem ekd_78 : e_kd 78 = 1 := rfl
theorem enp_78 : e_np 78 = 2 := rfl
theorem enm_78 : e_cn 6 = (e_nm 78).cls := by decide +kernel
theorem ecy_79 : e_cy 79 = 6 := by decide +kernel
theorem ekd_79 : e_kd 79 = 1 := rfl
theorem enp_79 : e_np 79 = 0 := rfl
theorem enm_79 : e_cn 6 = (e_nm 79).cls := by decide +kernel
theorem ecy_80 : e_cy 80 = 6 := by decide +kernel
theorem ekd_80 : e_kd 80 = 1 := rfl
theorem enp_80 : e_np 80 = 1 := rfl
theorem enm_80 : e_cn 6 = (e_nm 80).cls := by decide +kernel
theorem ecy_81 : e_cy 81 = 6 := by decide +kernel
theorem ekd_81 : e_kd 81 = 1 := rfl
theorem enp_81 : e_np 81 = 2 := rfl
theorem enm_81 : e_cn 6 = (e_nm 81).cls := by decide +kernel
theorem ecy_82 : e_cy 82 = 6 := by decide +kernel
theorem ekd_82 : e_kd 82 = 1 := rfl
theorem enp_82 : e_np 82 = 1 := rfl
theorem enm_82 : e_cn 6 = (e_nm 82).cls := by decide +kernel
theorem ecy_83 : e_cy 83 = 6 := by decide +kernel
theorem ekd_83 : e_kd 83 = 1 := rfl
theorem enp_83 : e_np 83 = 2 := rfl
theorem enm_83 : e_cn 6 = (e_nm 83).cls := by decide +kernel
theorem ecy_84 : e_cy 84 = 6 := by decide +kernel
theorem ekd_84 : e_kd 84 = 1 := rfl
theorem enp_84 : e_np 84 = 1 := rfl
theorem enm_84 : e_cn 6 = (e_nm 84).cls := by decide +kernel
theorem ecy_85 : e_cy 85 = 6 := by decide +kernel
theorem ekd_85 : e_kd 85 = 1 := rfl
theorem enp_85 : e_np 85 = 1 := rfl
theorem enm_85 : e_cn 6 = (e_nm 85).cls := by decide +kernel
theorem ecy_86 : e_cy 86 = 6 := by decide +kernel
theorem ekd_86 : e_kd 86 = 1 := rfl
theorem enp_86 : e_np 86 = 0 := rfl
theorem enm_86 : e_cn 6 = (e_nm 86).cls := by decide +kernel
theorem ecy_87 : e_cy 87 = 6 := by decide +kernel
theorem ekd_87 : e_kd 87 = 1 := rfl
theorem enp_87 : e_np 87 = 2 := rfl
theorem enm_87 : e_cn 6 = (e_nm 87).cls := by decide +kernel
theorem ecy_88 : e_cy 88 = 6 := by decide +kernel
theorem ekd_88 : e_kd 88 = 1 := rfl
theorem enp_88 : e_np 88 = 1 := rfl
theorem enm_88 : e_cn 6 = (e_nm 88).cls := by decide +kernel
theorem ecy_89 : e_cy 89 = 6 := by decide +kernel
theorem ekd_89 : e_kd 89 = 1 := rfl
theorem enp_89 : e_np 89 = 2 := rfl
theorem enm_89 : e_cn 6 = (e_nm 89).cls := by decide +kernel
theorem ecy_90 : e_cy 90 = 6 := by decide +kernel
theorem ekd_90 : e_kd 90 = 1 := rfl
theorem enp_90 : e_np 90 = 1 := rfl
theorem enm_90 : e_cn 6 = (e_nm 90).cls := by decide +kernel
theorem ecy_91 : e_cy 91 = 6 := by decide +kernel
theorem ekd_91 : e_kd 91 = 1 := rfl
theorem enp_91 : e_np 91 = 2 := rfl
theorem enm_91 : e_cn 6 = (e_nm 91).cls := by decide +kernel
theorem ecy_92 : e_cy 92 = 6 := by decide +kernel
theorem ekd_92 : e_kd 92 = 1 := rfl
theorem enp_92 : e_np 92 = 2 := rfl
theorem enm_92 : e_cn 6 = (e_nm 92).cls := by decide +kernel
theorem ecy_93 : e_cy 93 = 6 := by decide +kernel
theorem ekd_93 : e_kd 93 = 1 := rfl
theorem enp_93 : e_np 93 = 1 := rfl
theorem enm_93 : e_cn 6 = (e_nm 93).cls := by decide +kernel
theorem ecy_94 : e_cy 94 = 6 := by decide +kernel
theorem ekd_94 : e_kd 94 = 1 := rfl
theorem enp_94 : e_np 94 = 3 := rfl
theorem enm_94 : e_cn 6 = (e_nm 94).cls := by decide +kernel
theorem ecy_95 : e_cy 95 = 7 := by decide +kernel
theorem ekd_95 : e_kd 95 = 2 := rfl
theorem enp_95 : e_np 95 = 0 := rfl
theorem enm_95 : e_cn 7 = (e_nm 95).cls := by decide +kernel
theorem ecy_96 : e_cy 96 = 7 := by decide +kernel
theorem ekd_96 : e_kd 96 = 1 := rfl
theorem enp_96 : e_np 96 = 3 := rfl
theorem enm_96 : e_cn 7 = (e_nm 96).cls := by decide +kernel
theorem ecy_97 : e_cy 97 = 7 := by decide +kernel
theorem ekd_97 : e_kd 97 = 1 := rfl
theorem enp_97 : e_np 97 = 1 := rfl
theorem enm_97 : e_cn 7 = (e_nm 97).cls := by decide +kernel
theorem ecy_98 : e_cy 98 = 7 := by decide +kernel
theorem ekd_98 : e_kd 98 = 1 := rfl
theorem enp_98 : e_np 98 = 2 := rfl
theorem enm_98 : e_cn 7 = (e_nm 98).cls := by decide +kernel
theorem ecy_99 : e_cy 99 = 7 := by decide +kernel
theorem ekd_99 : e_kd 99 = 1 := rfl
theorem enp_99 : e_np 99 = 0 := rfl
theorem enm_99 : e_cn 7 = (e_nm 99).cls := by decide +kernel
theorem ecy_100 : e_cy 100 = 8 := by decide +kernel
theorem ekd_100 : e_kd 100 = 2 := rfl
theorem enp_100 : e_np 100 = 0 := rfl
theorem enm_100 : e_cn 8 = (e_nm 100).cls := by decide +kernel
theorem ecy_101 : e_cy 101 = 8 := by decide +kernel
theorem ekd_101 : e_kd 101 = 1 := rfl
theorem enp_101 : e_np 101 = 1 := rfl
theorem enm_101 : e_cn 8 = (e_nm 101).cls := by decide +kernel
theorem ecy_102 : e_cy 102 = 8 := by decide +kernel
theorem ekd_102 : e_kd 102 = 1 := rfl
theorem enp_102 : e_np 102 = 1 := rfl
theorem enm_102 : e_cn 8 = (e_nm 102).cls := by decide +kernel
theorem ecy_103 : e_cy 103 = 9 := by decide +kernel
theorem ekd_103 : e_kd 103 = 2 := rfl
theorem enp_103 : e_np 103 = 0 := rfl
theorem enm_103 : e_cn 9 = (e_nm 103).cls := by decide +kernel
theorem ecy_104 : e_cy 104 = 9 := by decide +kernel
theorem ekd_104 : e_kd 104 = 1 := rfl
theorem enp_104 : e_np 104 = 5 := rfl
theorem enm_104 : e_cn 9 = (e_nm 104).cls := by decide +kernel
theorem ecy_105 : e_cy 105 = 9 := by decide +kernel
theorem ekd_105 : e_kd 105 = 1 := rfl
theorem enp_105 : e_np 105 = 4 := rfl
theorem enm_105 : e_cn 9 = (e_nm 105).cls := by decide +kernel
theorem ecy_106 : e_cy 106 = 9 := by decide +kernel
theorem ekd_106 : e_kd 106 = 1 := rfl
theorem enp_106 : e_np 106 = 0 := rfl
theorem enm_106 : e_cn 9 = (e_nm 106).cls := by decide +kernel
theorem ecy_107 : e_cy 107 = 9 := by decide +kernel
theorem ekd_107 : e_kd 107 = 1 := rfl
theorem enp_107 : e_np 107 = 0 := rfl
theorem enm_107 : e_cn 9 = (e_nm 107).cls := by decide +kernel
theorem ecy_108 : e_cy 108 = 9 := by decide +kernel
theorem ekd_108 : e_kd 108 = 1 := rfl
theorem enp_108 : e_np 108 = 4 := rfl
theorem enm_108 : e_cn 9 = (e_nm 108).cls := by decide +kernel
theorem ecy_109 : e_cy 109 = 9 := by decide +kernel
theorem ekd_109 : e_kd 109 = 1 := rfl
theorem enp_109 : e_np 109 = 3 := rfl
theorem enm_109 : e_cn 9 = (e_nm 109).cls := by decide +kernel
theorem ecy_110 : e_cy 110 = 9 := by decide +kernel
theorem ekd_110 : e_kd 110 = 1 := rfl
theorem enp_110 : e_np 110 = 2 := rfl
theorem enm_110 : e_cn 9 = (e_nm 110).cls := by decide +kernel
theorem ecy_111 : e_cy 111 = 9 := by decide +kernel
theorem ekd_111 : e_kd 111 = 1 := rfl
theorem enp_111 : e_np 111 = 2 := rfl
theorem enm_111 : e_cn 9 = (e_nm 111).cls := by decide +kernel
theorem ecy_112 : e_cy 112 = 9 := by decide +kernel
theorem ekd_112 : e_kd 112 = 1 := rfl
theorem enp_112 : e_np 112 = 1 := rfl
theorem enm_112 : e_cn 9 = (e_nm 112).cls := by decide +kernel
theorem ecy_113 : e_cy 113 = 9 := by decide +kernel
theorem ekd_113 : e_kd 113 = 1 := rfl
theorem enp_113 : e_np 113 = 1 := rfl
theorem enm_113 : e_cn 9 = (e_nm 113).cls := by decide +kernel
theorem ecy_114 : e_cy 114 = 9 := by decide +kernel
theorem ekd_114 : e_kd 114 = 1 := rfl
theorem enp_114 : e_np 114 = 0 := rfl
theorem enm_114 : e_cn 9 = (e_nm 114).cls := by decide +kernel
theorem ecy_115 : e_cy 115 = 9 := by decide +kernel
theorem ekd_115 : e_kd 115 = 1 := rfl
theorem enp_115 : e_np 115 = 2 := rfl
theorem enm_115 : e_cn 9 = (e_nm 115).cls := by decide +kernel
theorem ecy_116 : e_cy 116 = 9 := by decide +kernel
theorem ekd_116 : e_kd 116 = 1 := rfl
theorem enp_116 : e_np 116 = 1 := rfl
theorem enm_116 : e_cn 9 = (e_nm 116).cls := by decide +kernel
theorem ecy_117 : e_cy 117 = 9 := by decide +kernel
theorem ekd_117 : e_kd 117 = 1 := rfl
theorem enp_117 : e_np 117 = 0 := rfl
theorem enm_117 : e_cn 9 = (e_nm 117).cls := by decide +kernel
theorem ecy_118 : e_cy 118 = 9 := by decide +kernel
theorem ekd_118 : e_kd 118 = 1 := rfl
theorem enp_118 : e_np 118 = 1 := rfl
theorem enm_118 : e_cn 9 = (e_nm 118).cls := by decide +kernel
theorem ecy_119 : e_cy 119 = 9 := by decide +kernel
theorem ekd_119 : e_kd 119 = 1 := rfl
theorem enp_119 : e_np 119 = 2 := rfl
theorem enm_119 : e_cn 9 = (e_nm 119).cls := by decide +kernel
theorem ecy_120 : e_cy 120 = 9 := by decide +kernel
theorem ekd_120 : e_kd 120 = 1 := rfl
theorem enp_120 : e_np 120 = 1 := rfl
theorem enm_120 : e_cn 9 = (e_nm 120).cls := by decide +kernel
theorem ecy_121 : e_cy 121 = 9 := by decide +kernel
theorem ekd_121 : e_kd 121 = 1 := rfl
theorem enp_121 : e_np 121 = 0 := rfl
theorem enm_121 : e_cn 9 = (e_nm 121).cls := by decide +kernel
theorem ecy_122 : e_cy 122 = 9 := by decide +kernel
theorem ekd_122 : e_kd 122 = 1 := rfl
theorem enp_122 : e_np 122 = 0 := rfl
theorem enm_122 : e_cn 9 = (e_nm 122).cls := by decide +kernel
theorem ecy_123 : e_cy 123 = 9 := by decide +kernel
theorem ekd_123 : e_kd 123 = 1 := rfl
theorem enp_123 : e_np 123 = 0 := rfl
theorem enm_123 : e_cn 9 = (e_nm 123).cls := by decide +kernel
theorem ecy_124 : e_cy 124 = 9 := by decide +kernel
theorem ekd_124 : e_kd 124 = 1 := rfl
theorem enp_124 : e_np 124 = 1 := rfl
theorem enm_124 : e_cn 9 = (e_nm 124).cls := by decide +kernel
theorem ecy_125 : e_cy 125 = 9 := by decide +kernel
theorem ekd_125 : e_kd 125 = 1 := rfl
theorem enp_125 : e_np 125 = 1 := rfl
theorem enm_125 : e_cn 9 = (e_nm 125).cls := by decide +kernel
theorem ecy_126 : e_cy 126 = 9 := by decide +kernel
theorem ekd_126 : e_kd 126 = 1 := rfl
theorem enp_126 : e_np 126 = 1 := rfl
theorem enm_126 : e_cn 9 = (e_nm 126).cls := by decide +kernel
theorem ecy_127 : e_cy 127 = 9 := by decide +kernel
theorem ekd_127 : e_kd 127 = 1 := rfl
theorem enp_127 : e_np 127 = 1 := rfl
theorem enm_127 : e_cn 9 = (e_nm 127).cls := by decide +kernel
theorem ecy_128 : e_cy 128 = 9 := by decide +kernel
theorem ekd_128 : e_kd 128 = 1 := rfl
theorem enp_128 : e_np 128 = 3 := rfl
theorem enm_128 : e_cn 9 = (e_nm 128).cls := by decide +kernel
theorem ecy_129 : e_cy 129 = 9 := by decide +kernel
theorem ekd_129 : e_kd 129 = 1 := rfl
theorem enp_129 : e_np 129 = 2 := rfl
theorem enm_129 : e_cn 9 = (e_nm 129).cls := by decide +kernel
theorem ecy_130 : e_cy 130 = 9 := by decide +kernel
theorem ekd_130 : e_kd 130 = 1 := rfl
theorem enp_130 : e_np 130 = 2 := rfl
theorem enm_130 : e_cn 9 = (e_nm 130).cls := by decide +kernel
theorem ecy_131 : e_cy 131 = 9 := by decide +kernel
theorem ekd_131 : e_kd 131 = 1 := rfl
theorem enp_131 : e_np 131 = 0 := rfl
theorem enm_131 : e_cn 9 = (e_nm 131).cls := by decide +kernel
theorem ecy_132 : e_cy 132 = 9 := by decide +kernel
theorem ekd_132 : e_kd 132 = 1 := rfl
theorem enp_132 : e_np 132 = 0 := rfl
theorem enm_132 : e_cn 9 = (e_nm 132).cls := by decide +kernel
theorem ecy_133 : e_cy 133 = 9 := by decide +kernel
theorem ekd_133 : e_kd 133 = 1 := rfl
theorem enp_133 : e_np 133 = 2 := rfl
theorem enm_133 : e_cn 9 = (e_nm 133).cls := by decide +kernel
theorem ecy_134 : e_cy 134 = 9 := by decide +kernel
theorem ekd_134 : e_kd 134 = 1 := rfl
theorem enp_134 : e_np 134 = 0 := rfl
theorem enm_134 : e_cn 9 = (e_nm 134).cls := by decide +kernel
theorem ecy_135 : e_cy 135 = 9 := by decide +kernel
theorem ekd_135 : e_kd 135 = 1 := rfl
theorem enp_135 : e_np 135 = 1 := rfl
theorem enm_135 : e_cn 9 = (e_nm 135).cls := by decide +kernel
theorem ecy_136 : e_cy 136 = 9 := by decide +kernel
theorem ekd_136 : e_kd 136 = 1 := rfl
theorem enp_136 : e_np 136 = 1 := rfl
theorem enm_136 : e_cn 9 = (e_nm 136).cls := by decide +kernel
theorem ecy_137 : e_cy 137 = 9 := by decide +kernel
theorem ekd_137 : e_kd 137 = 1 := rfl
theorem enp_137 : e_np 137 = 1 := rfl
theorem enm_137 : e_cn 9 = (e_nm 137).cls := by decide +kernel
theorem ecy_138 : e_cy 138 = 9 := by decide +kernel
theorem ekd_138 : e_kd 138 = 1 := rfl
theorem enp_138 : e_np 138 = 1 := rfl
theorem enm_138 : e_cn 9 = (e_nm 138).cls := by decide +kernel
theorem ecy_139 : e_cy 139 = 9 := by decide +kernel
theorem ekd_139 : e_kd 139 = 1 := rfl
theorem enp_139 : e_np 139 = 5 := rfl
theorem enm_139 : e_cn 9 = (e_nm 139).cls := by decide +kernel
theorem ecy_140 : e_cy 140 = 9 := by decide +kernel
theorem ekd_140 : e_kd 140 = 1 := rfl
theorem enp_140 : e_np 140 = 0 := rfl
theorem enm_140 : e_cn 9 = (e_nm 140).cls := by decide +kernel
theorem ecy_141 : e_cy 141 = 9 := by decide +kernel
theorem ekd_141 : e_kd 141 = 1 := rfl
theorem enp_141 : e_np 141 = 0 := rfl
theorem enm_141 : e_cn 9 = (e_nm 141).cls := by decide +kernel
theorem ecy_142 : e_cy 142 = 9 := by decide +kernel
theorem ekd_142 : e_kd 142 = 1 := rfl
theorem enp_142 : e_np 142 = 0 := rfl
theorem enm_142 : e_cn 9 = (e_nm 142).cls := by decide +kernel
theorem ecy_143 : e_cy 143 = 9 := by decide +kernel
theorem ekd_143 : e_kd 143 = 1 := rfl
theorem enp_143 : e_np 143 = 1 := rfl
theorem enm_143 : e_cn 9 = (e_nm 143).cls := by decide +kernel
theorem ecy_144 : e_cy 144 = 9 := by decide +kernel
theorem ekd_144 : e_kd 144 = 1 := rfl
theorem enp_144 : e_np 144 = 0 := rfl
theorem enm_144 : e_cn 9 = (e_nm 144).cls := by decide +kernel
theorem ecy_145 : e_cy 145 = 9 := by decide +kernel
theorem ekd_145 : e_kd 145 = 1 := rfl
theorem enp_145 : e_np 145 = 0 := rfl
theorem enm_145 : e_cn 9 = (e_nm 145).cls := by decide +kernel
theorem ecy_146 : e_cy 146 = 9 := by decide +kernel
theorem ekd_146 : e_kd 146 = 1 := rfl
theorem enp_146 : e_np 146 = 0 := rfl
theorem enm_146 : e_cn 9 = (e_nm 146).cls := by decide +kernel
theorem ecy_147 : e_cy 147 = 9 := by decide +kernel
theorem ekd_147 : e_kd 147 = 1 := rfl
theorem enp_147 : e_np 147 = 0 := rfl
theorem enm_147 : e_cn 9 = (e_nm 147).cls := by decide +kernel
theorem ecy_148 : e_cy 148 = 9 := by decide +kernel
theorem ekd_148 : e_kd 148 = 1 := rfl
theorem enp_148 : e_np 148 = 1 := rfl
theorem enm_148 : e_cn 9 = (e_nm 148).cls := by decide +kernel
theorem ecy_149 : e_cy 149 = 9 := by decide +kernel
theorem ekd_149 : e_kd 149 = 1 := rfl
theorem enp_149 : e_np 149 = 1 := rfl
theorem enm_149 : e_cn 9 = (e_nm 149).cls := by decide +kernel
theorem ecy_150 : e_cy 150 = 9 := by decide +kernel
theorem ekd_150 : e_kd 150 = 1 := rfl
theorem enp_150 : e_np 150 = 2 := rfl
theorem enm_150 : e_cn 9 = (e_nm 150).cls := by decide +kernel
theorem ecy_151 : e_cy 151 = 9 := by decide +kernel
theorem ekd_151 : e_kd 151 = 1 := rfl
theorem enp_151 : e_np 151 = 1 := rfl
theorem enm_151 : e_cn 9 = (e_nm 151).cls := by decide +kernel
theorem ecy_152 : e_cy 152 = 9 := by decide +kernel
theorem ekd_152 : e_kd 152 = 0 := rfl
theorem enp_152 : e_np 152 = 1 := rfl
theorem enm_152 : e_cn 9 = (e_nm 152).cls := by decide +kernel
theorem ecy_153 : e_cy 153 = 9 := by decide +kernel
theorem ekd_153 : e_kd 153 = 0 := rfl
theorem enp_153 : e_np 153 = 1 := rfl
theorem enm_153 : e_cn 9 = (e_nm 153).cls := by decide +kernel
theorem ecy_154 : e_cy 154 = 9 := by decide +kernel
theorem ekd_154 : e_kd 154 = 0 := rfl
theorem enp_154 : e_np 154 = 1 := rfl
theorem enm_154 : e_cn 9 = (e_nm 154).cls := by decide +kernel
theorem ecy_155 : e_cy 155 = 9 := by decide +kernel
theorem ekd_155 : e_kd 155 = 0 := rfl
theorem enp_155 : e_np 155 = 3 := rfl
theorem enm_155 : e_cn 9 = (e_nm 155).cls := by decide +kernel
theorem ecy_156 : e_cy 156 = 9 := by decide +kernel
theorem ekd_156 : e_kd 156 = 0 := rfl
theorem enp_156 : e_np 156 = 1 := rfl
theorem enm_156 : e_cn 9 = (e_nm 156).cls := by decide +kernel
theorem ecy_157 : e_cy 157 = 9 := by decide +kernel
theorem ekd_157 : e_kd 157 = 0 := rfl
theorem enp_157 : e_np 157 = 1 := rfl
theorem enm_157 : e_cn 9 = (e_nm 157).cls := by decide +kernel
theorem ecy_158 : e_cy 158 = 9 := by decide +kernel
theorem ekd_158 : e_kd 158 = 0 := rfl
theorem enp_158 : e_np 158 = 1 := rfl
theorem enm_158 : e_cn 9 = (e_nm 158).cls := by decide +kernel
theorem ecy_159 : e_cy 159 = 9 := by decide +kernel
theorem ekd_159 : e_kd 159 = 0 := rfl
theorem enp_159 : e_np 159 = 1 := rfl
theorem enm_159 : e_cn 9 = (e_nm 159).cls := by decide +kernel
theorem ecy_160 : e_cy 160 = 9 := by decide +kernel
theorem ekd_160 : e_kd 160 = 0 := rfl
theorem enp_160 : e_np 160 = 2 := rfl
theorem enm_160 : e_cn 9 = (e_nm 160).cls := by decide +kernel
theorem ecy_161 : e_cy 161 = 9 := by decide +kernel
theorem ekd_161 : e_kd 161 = 0 := rfl
theorem enp_161 : e_np 161 = 3 := rfl
theorem enm_161 : e_cn 9 = (e_nm 161).cls := by decide +kernel
theorem ecy_162 : e_cy 162 = 9 := by decide +kernel
theorem ekd_162 : e_kd 162 = 0 := rfl
theorem enp_162 : e_np 162 = 2 := rfl
theorem enm_162 : e_cn 9 = (e_nm 162).cls := by decide +kernel
theorem ecy_163 : e_cy 163 = 9 := by decide +kernel
theorem ekd_163 : e_kd 163 = 0 := rfl
theorem enp_163 : e_np 163 = 2 := rfl
theorem enm_163 : e_cn 9 = (e_nm 163).cls := by decide +kernel
theorem ecy_164 : e_cy 164 = 10 := by decide +kernel
theorem ekd_164 : e_kd 164 = 2 := rfl
theorem enp_164 : e_np 164 = 0 := rfl
theorem enm_164 : e_cn 10 = (e_nm 164).cls := by decide +kernel
theorem ecy_165 : e_cy 165 = 10 := by decide +kernel
theorem ekd_165 : e_kd 165 = 1 := rfl
theorem enp_165 : e_np 165 = 1 := rfl
theorem enm_165 : e_cn 10 = (e_nm 165).cls := by decide +kernel
theorem ecy_166 : e_cy 166 = 10 := by decide +kernel
theorem ekd_166 : e_kd 166 = 1 := rfl
theorem enp_166 : e_np 166 = 0 := rfl
theorem enm_166 : e_cn 10 = (e_nm 166).cls := by decide +kernel
theorem ecy_167 : e_cy 167 = 10 := by decide +kernel
theorem ekd_167 : e_kd 167 = 1 := rfl
theorem enp_167 : e_np 167 = 2 := rfl
theorem enm_167 : e_cn 10 = (e_nm 167).cls := by decide +kernel
theorem ecy_168 : e_cy 168 = 10 := by decide +kernel
theorem ekd_168 : e_kd 168 = 1 := rfl
theorem enp_168 : e_np 168 = 3 := rfl
theorem enm_168 : e_cn 10 = (e_nm 168).cls := by decide +kernel
theorem ecy_169 : e_cy 169 = 10 := by decide +kernel
theorem ekd_169 : e_kd 169 = 1 := rfl
theorem enp_169 : e_np 169 = 4 := rfl
theorem enm_169 : e_cn 10 = (e_nm 169).cls := by decide +kernel
theorem ecy_170 : e_cy 170 = 10 := by decide +kernel
theorem ekd_170 : e_kd 170 = 1 := rfl
theorem enp_170 : e_np 170 = 1 := rfl
theorem enm_170 : e_cn 10 = (e_nm 170).cls := by decide +kernel
theorem ecy_171 : e_cy 171 = 10 := by decide +kernel
theorem ekd_171 : e_kd 171 = 1 := rfl
theorem enp_171 : e_np 171 = 3 := rfl
theorem enm_171 : e_cn 10 = (e_nm 171).cls := by decide +kernel
theorem ecy_172 : e_cy 172 = 10 := by decide +kernel
theorem ekd_172 : e_kd 172 = 1 := rfl
theorem enp_172 : e_np 172 = 0 := rfl
theorem enm_172 : e_cn 10 = (e_nm 172).cls := by decide +kernel
theorem ecy_173 : e_cy 173 = 10 := by decide +kernel
theorem ekd_173 : e_kd 173 = 1 := rfl
theorem enp_173 : e_np 173 = 1 := rfl
theorem enm_173 : e_cn 10 = (e_nm 173).cls := by decide +kernel
theorem ecy_174 : e_cy 174 = 10 := by decide +kernel
theorem ekd_174 : e_kd 174 = 1 := rfl
theorem enp_174 : e_np 174 = 0 := rfl
theorem enm_174 : e_cn 10 = (e_nm 174).cls := by decide +kernel
theorem ecy_175 : e_cy 175 = 10 := by decide +kernel
theorem ekd_175 : e_kd 175 = 1 := rfl
theorem enp_175 : e_np 175 = 0 := rfl
theorem enm_175 : e_cn 10 = (e_nm 175).cls := by decide +kernel
theorem ecy_176 : e_cy 176 = 10 := by decide +kernel
theorem ekd_176 : e_kd 176 = 1 := rfl
theorem enp_176 : e_np 176 = 0 := rfl
theorem enm_176 : e_cn 10 = (e_nm 176).cls := by decide +kernel
theorem ecy_177 : e_cy 177 = 10 := by decide +kernel
theorem ekd_177 : e_kd 177 = 1 := rfl
theorem enp_177 : e_np 177 = 0 := rfl
theorem enm_177 : e_cn 10 = (e_nm 177).cls := by decide +kernel
theorem ecy_178 : e_cy 178 = 10 := by decide +kernel
theorem ekd_178 : e_kd 178 = 1 := rfl
theorem enp_178 : e_np 178 = 0 := rfl
theorem enm_178 : e_cn 10 = (e_nm 178).cls := by decide +kernel
theorem ecy_179 : e_cy 179 = 10 := by decide +kernel
theorem ekd_179 : e_kd 179 = 1 := rfl
theorem enp_179 : e_np 179 = 1 := rfl
theorem enm_179 : e_cn 10 = (e_nm 179).cls := by decide +kernel
theorem ecy_180 : e_cy 180 = 10 := by decide +kernel
theorem ekd_180 : e_kd 180 = 1 := rfl
theorem enp_180 : e_np 180 = 0 := rfl
theorem enm_180 : e_cn 10 = (e_nm 180).cls := by decide +kernel
theorem ecy_181 : e_cy 181 = 10 := by decide +kernel
theorem ekd_181 : e_kd 181 = 1 := rfl
theorem enp_181 : e_np 181 = 2 := rfl
theorem enm_181 : e_cn 10 = (e_nm 181).cls := by decide +kernel
theorem ecy_182 : e_cy 182 = 10 := by decide +kernel
theorem ekd_182 : e_kd 182 = 1 := rfl
theorem enp_182 : e_np 182 = 4 := rfl
theorem enm_182 : e_cn 10 = (e_nm 182).cls := by decide +kernel
theorem ecy_183 : e_cy 183 = 10 := by decide +kernel
theorem ekd_183 : e_kd 183 = 1 := rfl
theorem enp_183 : e_np 183 = 0 := rfl
theorem enm_183 : e_cn 10 = (e_nm 183).cls := by decide +kernel
theorem ecy_184 : e_cy 184 = 10 := by decide +kernel
theorem ekd_184 : e_kd 184 = 1 := rfl
theorem enp_184 : e_np 184 = 1 := rfl
theorem enm_184 : e_cn 10 = (e_nm 184).cls := by decide +kernel
theorem ecy_185 : e_cy 185 = 10 := by decide +kernel
theorem ekd_185 : e_kd 185 = 1 := rfl
theorem enp_185 : e_np 185 = 0 := rfl
theorem enm_185 : e_cn 10 = (e_nm 185).cls := by decide +kernel
theorem ecy_186 : e_cy 186 = 10 := by decide +kernel
theorem ekd_186 : e_kd 186 = 1 := rfl
theorem enp_186 : e_np 186 = 0 := rfl
theorem enm_186 : e_cn 10 = (e_nm 186).cls := by decide +kernel
theorem ecy_187 : e_cy 187 = 10 := by decide +kernel
theorem ekd_187 : e_kd 187 = 0 := rfl
theorem enp_187 : e_np 187 = 1 := rfl
theorem enm_187 : e_cn 10 = (e_nm 187).cls := by decide +kernel
theorem ecy_188 : e_cy 188 = 10 := by decide +kernel
theorem ekd_188 : e_kd 188 = 0 := rfl
theorem enp_188 : e_np 188 = 1 := rfl
theorem enm_188 : e_cn 10 = (e_nm 188).cls := by decide +kernel
theorem ekn_0_3 : e_ir2 e_call 0 3 = none := by decide +kernel
theorem ekb_0_3 : e_ir e_blt 0 3 = some 1004 := by decide +kernel
theorem ek_0_17 : e_ir2 e_call 0 17 = some (25, 0) := by decide +kernel
theorem ek_0_22 : e_ir2 e_call 0 22 = some (3, 0) := by decide +kernel
theorem ek_0_26 : e_ir2 e_call 0 26 = some (26, 0) := by decide +kernel
theorem ekn_0_33 : e_ir2 e_call 0 33 = none := by decide +kernel
theorem ekb_0_33 : e_ir e_blt 0 33 = some 1001 := by decide +kernel
theorem ekn_1_3 : e_ir2 e_call 1 3 = none := by decide +kernel
theorem ekb_1_3 : e_ir e_blt 1 3 = some 1004 := by decide +kernel
theorem ek_1_21 : e_ir2 e_call 1 21 = some (62, 0) := by decide +kernel
theorem ek_1_33 : e_ir2 e_call 1 33 = some (6, 0) := by decide +kernel
theorem ek_1_37 : e_ir2 e_call 1 37 = some (65, 0) := by decide +kernel
theorem ek_1_41 : e_ir2 e_call 1 41 = some (73, 0) := by decide +kernel
theorem ek_1_45 : e_ir2 e_call 1 45 = some (76, 0) := by decide +kernel
theorem ek_1_52 : e_ir2 e_call 1 52 = some (64, 0) := by decide +kernel
theorem ek_1_56 : e_ir2 e_call 1 56 = some (29, 0) := by decide +kernel
theorem ek_1_59 : e_ir2 e_call 1 59 = some (7, 0) := by decide +kernel
theorem ek_1_63 : e_ir2 e_call 1 63 = some (31, 0) := by decide +kernel
theorem ek_1_67 : e_ir2 e_call 1 67 = some (27, 0) := by decide +kernel
theorem ek_1_70 : e_ir2 e_call 1 70 = some (32, 0) := by decide +kernel
theorem ek_1_73 : e_ir2 e_call 1 73 = some (34, 0) := by decide +kernel
theorem ek_1_82 : e_ir2 e_call 1 82 = some (9, 0) := by decide +kernel
theorem ek_1_86 : e_ir2 e_call 1 86 = some (67, 0) := by decide +kernel
theorem ek_1_90 : e_ir2 e_call 1 90 = some (10, 0) := by decide +kernel
theorem ek_1_94 : e_ir2 e_call 1 94 = some (30, 0) := by decide +kernel
theorem ek_1_98 : e_ir2 e_call 1 98 = some (160, 1) := by decide +kernel
theorem ekn_1_102 : e_ir2 e_call 1 102 = none := by decide +kernel
theorem ekb_1_102 : e_ir e_blt 1 102 = some 1000 := by decide +kernel
theorem ek_1_107 : e_ir2 e_call 1 107 = some (66, 0) := by decide +kernel
theorem ek_1_110 : e_ir2 e_call 1 110 = some (70, 0) := by decide +kernel
theorem ek_1_113 : e_ir2 e_call 1 113 = some (161, 1) := by decide +kernel
theorem ek_1_117 : e_ir2 e_call 1 117 = some (74, 0) := by decide +kernel
theorem ek_1_125 : e_ir2 e_call 1 125 = some (11, 0) := by decide +kernel
theorem ek_1_128 : e_ir2 e_call 1 128 = some (63, 0) := by decide +kernel
theorem ek_1_132 : e_ir2 e_call 1 132 = some (14, 0) := by decide +kernel
theorem ek_1_136 : e_ir2 e_call 1 136 = some (79, 0) := by decide +kernel
theorem ek_1_140 : e_ir2 e_call 1 140 = some (84, 0) := by decide +kernel
theorem ek_1_144 : e_ir2 e_call 1 144 = some (162, 1) := by decide +kernel
theorem ekn_2_3 : e_ir2 e_call 2 3 = none := by decide +kernel
theorem ekb_2_3 : e_ir e_blt 2 3 = some 1004 := by decide +kernel
theorem ek_2_33 : e_ir2 e_call 2 33 = some (33, 0) := by decide +kernel
theorem ek_2_37 : e_ir2 e_call 2 37 = some (161, 1) := by decide +kernel
theorem ek_2_41 : e_ir2 e_call 2 41 = some (18, 0) := by decide +kernel
theorem ek_2_45 : e_ir2 e_call 2 45 = some (20, 0) := by decide +kernel
theorem ek_2_49 : e_ir2 e_call 2 49 = some (160, 1) := by decide +kernel
theorem ek_2_53 : e_ir2 e_call 2 53 = some (19, 0) := by decide +kernel
theorem ek_2_57 : e_ir2 e_call 2 57 = some (27, 0) := by decide +kernel
theorem ek_2_60 : e_ir2 e_call 2 60 = some (17, 0) := by decide +kernel
theorem ek_2_64 : e_ir2 e_call 2 64 = some (21, 0) := by decide +kernel
theorem ek_2_67 : e_ir2 e_call 2 67 = some (22, 0) := by decide +kernel
theorem ekn_2_72 : e_ir2 e_call 2 72 = none := by decide +kernel
theorem ekb_2_72 : e_ir e_blt 2 72 = some 1000 := by decide +kernel
theorem ekn_3_3 : e_ir2 e_call 3 3 = none := by decide +kernel
theorem ekb_3_3 : e_ir e_blt 3 3 = some 1004 := by decide +kernel
theorem ek_3_49 : e_ir2 e_call 3 49 = some (162, 1) := by decide +kernel
theorem ek_3_53 : e_ir2 e_call 3 53 = some (160, 1) := by decide +kernel
theorem ek_3_57 : e_ir2 e_call 3 57 = some (161, 1) := by decide +kernel
theorem ek_3_61 : e_ir2 e_call 3 61 = some (27, 0) := by decide +kernel
theorem ek_3_65 : e_ir2 e_call 3 65 = some (30, 0) := by decide +kernel
theorem ek_3_69 : e_ir2 e_call 3 69 = some (29, 0) := by decide +kernel
theorem ek_3_73 : e_ir2 e_call 3 73 = some (33, 0) := by decide +kernel
theorem ek_3_76 : e_ir2 e_call 3 76 = some (28, 0) := by decide +kernel
theorem ek_3_84 : e_ir2 e_call 3 84 = some (163, 1) := by decide +kernel
theorem ek_3_88 : e_ir2 e_call 3 88 = some (42, 0) := by decide +kernel
theorem ek_3_91 : e_ir2 e_call 3 91 = some (32, 0) := by decide +kernel
theorem ekn_3_94 : e_ir2 e_call 3 94 = none := by decide +kernel
theorem ekb_3_94 : e_ir e_blt 3 94 = some 1000 := by decide +kernel
theorem ek_3_99 : e_ir2 e_call 3 99 = some (47, 0) := by decide +kernel
theorem ek_3_102 : e_ir2 e_call 3 102 = some (34, 0) := by decide +kernel
theorem ekn_3_106 : e_ir2 e_call 3 106 = none := by decide +kernel
theorem ekb_3_106 : e_ir e_blt 3 106 = some 1001 := by decide +kernel
theorem ekn_4_3 : e_ir2 e_call 4 3 = none := by decide +kernel
theorem ekb_4_3 : e_ir e_blt 4 3 = some 1004 := by decide +kernel
theorem ek_4_25 : e_ir2 e_call 4 25 = some (161, 1) := by decide +kernel
theorem ek_4_29 : e_ir2 e_call 4 29 = some (163, 1) := by decide +kernel
theorem ek_4_33 : e_ir2 e_call 4 33 = some (160, 1) := by decide +kernel
theorem ek_4_42 : e_ir2 e_call 4 42 = some (155, 1) := by decide +kernel
theorem ek_4_46 : e_ir2 e_call 4 46 = some (29, 0) := by decide +kernel
theorem ekn_5_3 : e_ir2 e_call 5 3 = none := by decide +kernel
theorem ekb_5_3 : e_ir e_blt 5 3 = some 1004 := by decide +kernel
theorem ek_5_15 : e_ir2 e_call 5 15 = some (16, 0) := by decide +kernel
theorem ek_5_25 : e_ir2 e_call 5 25 = some (54, 0) := by decide +kernel
theorem ek_5_29 : e_ir2 e_call 5 29 = some (23, 0) := by decide +kernel
theorem ek_5_33 : e_ir2 e_call 5 33 = some (24, 0) := by decide +kernel
theorem ek_5_40 : e_ir2 e_call 5 40 = some (161, 1) := by decide +kernel
theorem ek_5_44 : e_ir2 e_call 5 44 = some (55, 0) := by decide +kernel
theorem ek_5_48 : e_ir2 e_call 5 48 = some (160, 1) := by decide +kernel
theorem ek_5_52 : e_ir2 e_call 5 52 = some (60, 0) := by decide +kernel
theorem ek_5_59 : e_ir2 e_call 5 59 = some (17, 0) := by decide +kernel
theorem ek_5_64 : e_ir2 e_call 5 64 = some (56, 0) := by decide +kernel
theorem ekn_5_68 : e_ir2 e_call 5 68 = none := by decide +kernel
theorem ekb_5_68 : e_ir e_blt 5 68 = some 1001 := by decide +kernel
theorem ek_5_74 : e_ir2 e_call 5 74 = some (27, 0) := by decide +kernel
theorem ekn_5_79 : e_ir2 e_call 5 79 = none := by decide +kernel
theorem ekb_5_79 : e_ir e_blt 5 79 = some 1000 := by decide +kernel
theorem ek_5_82 : e_ir2 e_call 5 82 = some (96, 0) := by decide +kernel
theorem ek_5_86 : e_ir2 e_call 5 86 = some (58, 0) := by decide +kernel
theorem ek_5_90 : e_ir2 e_call 5 90 = some (99, 0) := by decide +kernel
theorem ek_5_94 : e_ir2 e_call 5 94 = some (59, 0) := by decide +kernel
theorem ekn_6_3 : e_ir2 e_call 6 3 = none := by decide +kernel
theorem ekb_6_3 : e_ir e_blt 6 3 = some 1004 := by decide +kernel
theorem ek_6_61 : e_ir2 e_call 6 61 = some (163, 1) := by decide +kernel
theorem ek_6_69 : e_ir2 e_call 6 69 = some (74, 0) := by decide +kernel
theorem ek_6_72 : e_ir2 e_call 6 72 = some (41, 0) := by decide +kernel
theorem ek_6_81 : e_ir2 e_call 6 81 = some (62, 0) := by decide +kernel
theorem ek_6_85 : e_ir2 e_call 6 85 = some (160, 1) := by decide +kernel
theorem ek_6_89 : e_ir2 e_call 6 89 = some (65, 0) := by decide +kernel
theorem ek_6_93 : e_ir2 e_call 6 93 = some (73, 0) := by decide +kernel
theorem ek_6_97 : e_ir2 e_call 6 97 = some (30, 0) := by decide +kernel
theorem ek_6_101 : e_ir2 e_call 6 101 = some (66, 0) := by decide +kernel
theorem ek_6_104 : e_ir2 e_call 6 104 = some (31, 0) := by decide +kernel
theorem ek_6_108 : e_ir2 e_call 6 108 = some (70, 0) := by decide +kernel
theorem ek_6_112 : e_ir2 e_call 6 112 = some (27, 0) := by decide +kernel
theorem ek_6_115 : e_ir2 e_call 6 115 = some (68, 0) := by decide +kernel
theorem ekn_6_119 : e_ir2 e_call 6 119 = none := by decide +kernel
theorem ekb_6_119 : e_ir e_blt 6 119 = some 1000 := by decide +kernel
theorem ek_6_124 : e_ir2 e_call 6 124 = some (69, 0) := by decide +kernel
theorem ek_6_127 : e_ir2 e_call 6 127 = some (37, 0) := by decide +kernel
theorem ek_6_130 : e_ir2 e_call 6 130 = some (40, 0) := by decide +kernel
theorem ek_6_133 : e_ir2 e_call 6 133 = some (71, 0) := by decide +kernel
theorem ek_6_140 : e_ir2 e_call 6 140 = some (154, 1) := by decide +kernel
theorem ek_6_143 : e_ir2 e_call 6 143 = some (72, 0) := by decide +kernel
theorem ekn_6_146 : e_ir2 e_call 6 146 = none := by decide +kernel
theorem ekb_6_146 : e_ir e_blt 6 146 = some 1001 := by decide +kernel
theorem ek_6_149 : e_ir2 e_call 6 149 = some (161, 1) := by decide +kernel
theorem ek_6_153 : e_ir2 e_call 6 153 = some (75, 0) := by decide +kernel
theorem ek_6_157 : e_ir2 e_call 6 157 = some (162, 1) := by decide +kernel
theorem ek_6_161 : e_ir2 e_call 6 161 = some (77, 0) := by decide +kernel
theorem ek_6_164 : e_ir2 e_call 6 164 = some (81, 0) := by decide +kernel
theorem ek_6_171 : e_ir2 e_call 6 171 = some (78, 0) := by decide +kernel
theorem ekn_6_177 : e_ir2 e_call 6 177 = none := by decide +kernel
theorem ekb_6_177 : e_ir e_blt 6 177 = some 1002 := by decide +kernel
theorem ek_6_180 : e_ir2 e_call 6 180 = some (86, 0) := by decide +kernel
theorem ek_6_184 : e_ir2 e_call 6 184 = some (87, 0) := by decide +kernel
theorem ek_6_187 : e_ir2 e_call 6 187 = some (91, 0) := by decide +kernel
theorem ek_6_191 : e_ir2 e_call 6 191 = some (79, 0) := by decide +kernel
theorem ek_6_194 : e_ir2 e_call 6 194 = some (82, 0) := by decide +kernel
theorem ek_6_197 : e_ir2 e_call 6 197 = some (93, 0) := by decide +kernel
theorem ek_6_201 : e_ir2 e_call 6 201 = some (92, 0) := by decide +kernel
theorem ek_6_204 : e_ir2 e_call 6 204 = some (94, 0) := by decide +kernel
theorem ekn_7_3 : e_ir2 e_call 7 3 = none := by decide +kernel
theorem ekb_7_3 : e_ir e_blt 7 3 = some 1004 := by decide +kernel
theorem ek_7_30 : e_ir2 e_call 7 30 = some (33, 0) := by decide +kernel
theorem ek_7_34 : e_ir2 e_call 7 34 = some (161, 1) := by decide +kernel
theorem ek_7_38 : e_ir2 e_call 7 38 = some (97, 0) := by decide +kernel
theorem ek_7_42 : e_ir2 e_call 7 42 = some (160, 1) := by decide +kernel
theorem ek_7_46 : e_ir2 e_call 7 46 = some (98, 0) := by decide +kernel
theorem ekn_7_50 : e_ir2 e_call 7 50 = none := by decide +kernel
theorem ekb_7_50 : e_ir e_blt 7 50 = some 1000 := by decide +kernel
theorem ekn_8_3 : e_ir2 e_call 8 3 = none := by decide +kernel
theorem ekb_8_3 : e_ir e_blt 8 3 = some 1004 := by decide +kernel
theorem ekn_8_21 : e_ir2 e_call 8 21 = none := by decide +kernel
theorem ekb_8_21 : e_ir e_blt 8 21 = some 1001 := by decide +kernel
theorem ek_8_34 : e_ir2 e_call 8 34 = some (160, 1) := by decide +kernel
theorem ekn_9_1 : e_ir2 e_call 9 1 = none := by decide +kernel
theorem ekb_9_1 : e_ir e_blt 9 1 = some 1004 := by decide +kernel
theorem ek_9_9 : e_ir2 e_call 9 9 = some (25, 0) := by decide +kernel
theorem ek_9_18 : e_ir2 e_call 9 18 = some (0, 0) := by decide +kernel
theorem ek_9_25 : e_ir2 e_call 9 25 = some (61, 0) := by decide +kernel
theorem ek_9_35 : e_ir2 e_call 9 35 = some (4, 1) := by decide +kernel
theorem ek_9_42 : e_ir2 e_call 9 42 = some (15, 1) := by decide +kernel
theorem ek_9_49 : e_ir2 e_call 9 49 = some (95, 1) := by decide +kernel
theorem ek_9_56 : e_ir2 e_call 9 56 = some (52, 1) := by decide +kernel
theorem ek_9_63 : e_ir2 e_call 9 63 = some (48, 1) := by decide +kernel
theorem ek_9_70 : e_ir2 e_call 9 70 = some (100, 1) := by decide +kernel
theorem ek_9_75 : e_ir2 e_call 9 75 = some (155, 0) := by decide +kernel
theorem ek_9_79 : e_ir2 e_call 9 79 = some (157, 0) := by decide +kernel
theorem ek_9_87 : e_ir2 e_call 9 87 = some (158, 0) := by decide +kernel
theorem ek_9_90 : e_ir2 e_call 9 90 = some (1, 0) := by decide +kernel
theorem ek_9_94 : e_ir2 e_call 9 94 = some (35, 0) := by decide +kernel
theorem ek_9_98 : e_ir2 e_call 9 98 = some (43, 0) := by decide +kernel
theorem ek_9_101 : e_ir2 e_call 9 101 = some (147, 0) := by decide +kernel
theorem ek_9_104 : e_ir2 e_call 9 104 = some (149, 0) := by decide +kernel
theorem ek_9_108 : e_ir2 e_call 9 108 = some (156, 0) := by decide +kernel
theorem ek_9_111 : e_ir2 e_call 9 111 = some (152, 0) := by decide +kernel
theorem ek_9_114 : e_ir2 e_call 9 114 = some (29, 0) := by decide +kernel
theorem ek_9_121 : e_ir2 e_call 9 121 = some (36, 0) := by decide +kernel
theorem ek_9_147 : e_ir2 e_call 9 147 = some (150, 0) := by decide +kernel
theorem ek_9_158 : e_ir2 e_call 9 158 = some (37, 0) := by decide +kernel
theorem ek_9_161 : e_ir2 e_call 9 161 = some (38, 0) := by decide +kernel
theorem ek_9_167 : e_ir2 e_call 9 167 = some (39, 0) := by decide +kernel
theorem ek_9_174 : e_ir2 e_call 9 174 = some (63, 0) := by decide +kernel
theorem ek_9_182 : e_ir2 e_call 9 182 = some (80, 0) := by decide +kernel
theorem ek_9_189 : e_ir2 e_call 9 189 = some (160, 0) := by decide +kernel
theorem ek_9_193 : e_ir2 e_call 9 193 = some (161, 0) := by decide +kernel
theorem ek_9_197 : e_ir2 e_call 9 197 = some (40, 0) := by decide +kernel
theorem ek_9_200 : e_ir2 e_call 9 200 = some (5, 0) := by decide +kernel
theorem ek_9_207 : e_ir2 e_call 9 207 = some (148, 0) := by decide +kernel
theorem ek_9_211 : e_ir2 e_call 9 211 = some (151, 0) := by decide +kernel
theorem ek_9_214 : e_ir2 e_call 9 214 = some (77, 0) := by decide +kernel
theorem ek_9_217 : e_ir2 e_call 9 217 = some (78, 0) := by decide +kernel
theorem ek_9_221 : e_ir2 e_call 9 221 = some (79, 0) := by decide +kernel
theorem ek_9_225 : e_ir2 e_call 9 225 = some (82, 0) := by decide +kernel
theorem ek_9_228 : e_ir2 e_call 9 228 = some (83, 0) := by decide +kernel
theorem ek_9_231 : e_ir2 e_call 9 231 = some (34, 0) := by decide +kernel
theorem ek_9_234 : e_ir2 e_call 9 234 = some (46, 0) := by decide +kernel
theorem ek_9_237 : e_ir2 e_call 9 237 = some (8, 0) := by decide +kernel
theorem ek_9_241 : e_ir2 e_call 9 241 = some (88, 0) := by decide +kernel
theorem ek_9_245 : e_ir2 e_call 9 245 = some (89, 0) := by decide +kernel
theorem ek_9_248 : e_ir2 e_call 9 248 = some (16, 0) := by decide +kernel
theorem ek_9_252 : e_ir2 e_call 9 252 = some (23, 0) := by decide +kernel
theorem ek_9_255 : e_ir2 e_call 9 255 = some (24, 0) := by decide +kernel
theorem ek_9_265 : e_ir2 e_call 9 265 = some (96, 0) := by decide +kernel
theorem ek_9_266 : e_ir2 e_call 9 266 = some (99, 0) := by decide +kernel
theorem ek_9_274 : e_ir2 e_call 9 274 = some (84, 0) := by decide +kernel
theorem ek_9_278 : e_ir2 e_call 9 278 = some (85, 0) := by decide +kernel
theorem ek_9_281 : e_ir2 e_call 9 281 = some (11, 0) := by decide +kernel
theorem ek_9_285 : e_ir2 e_call 9 285 = some (13, 0) := by decide +kernel
theorem ek_9_289 : e_ir2 e_call 9 289 = some (12, 0) := by decide +kernel
theorem ek_9_292 : e_ir2 e_call 9 292 = some (153, 0) := by decide +kernel
theorem ek_9_295 : e_ir2 e_call 9 295 = some (44, 0) := by decide +kernel
theorem ek_9_301 : e_ir2 e_call 9 301 = some (159, 0) := by decide +kernel
theorem ek_9_304 : e_ir2 e_call 9 304 = some (45, 0) := by decide +kernel
theorem ek_9_308 : e_ir2 e_call 9 308 = some (49, 0) := by decide +kernel
theorem ek_9_314 : e_ir2 e_call 9 314 = some (50, 0) := by decide +kernel
theorem ek_9_317 : e_ir2 e_call 9 317 = some (51, 0) := by decide +kernel
theorem ek_9_324 : e_ir2 e_call 9 324 = some (101, 0) := by decide +kernel
theorem ek_9_328 : e_ir2 e_call 9 328 = some (102, 0) := by decide +kernel
theorem ek_9_332 : e_ir2 e_call 9 332 = some (2, 0) := by decide +kernel
theorem ek_9_338 : e_ir2 e_call 9 338 = some (53, 0) := by decide +kernel
theorem ek_9_342 : e_ir2 e_call 9 342 = some (57, 0) := by decide +kernel
theorem ek_9_346 : e_ir2 e_call 9 346 = some (90, 0) := by decide +kernel
theorem ek_9_349 : e_ir2 e_call 9 349 = some (162, 0) := by decide +kernel
theorem ekn_9_365 : e_ir2 e_call 9 365 = none := by decide +kernel
theorem ekb_9_365 : e_ir e_blt 9 365 = some 1001 := by decide +kernel
theorem ekn_9_370 : e_ir2 e_call 9 370 = none := by decide +kernel
theorem ekb_9_370 : e_ir e_blt 9 370 = some 1003 := by decide +kernel
theorem ekn_10_3 : e_ir2 e_call 10 3 = none := by decide +kernel
theorem ekb_10_3 : e_ir e_blt 10 3 = some 1004 := by decide +kernel
theorem ek_10_9 : e_ir2 e_call 10 9 = some (103, 0) := by decide +kernel
theorem ek_10_85 : e_ir2 e_call 10 85 = some (165, 0) := by decide +kernel
theorem ek_10_92 : e_ir2 e_call 10 92 = some (104, 0) := by decide +kernel
theorem ek_10_99 : e_ir2 e_call 10 99 = some (105, 0) := by decide +kernel
theorem ek_10_102 : e_ir2 e_call 10 102 = some (108, 0) := by decide +kernel
theorem ek_10_104 : e_ir2 e_call 10 104 = some (110, 0) := by decide +kernel
theorem ek_10_113 : e_ir2 e_call 10 113 = some (130, 0) := by decide +kernel
theorem ek_10_117 : e_ir2 e_call 10 117 = some (178, 0) := by decide +kernel
theorem ek_10_121 : e_ir2 e_call 10 121 = some (106, 0) := by decide +kernel
theorem ek_10_124 : e_ir2 e_call 10 124 = some (107, 0) := by decide +kernel
theorem ekn_10_129 : e_ir2 e_call 10 129 = none := by decide +kernel
theorem ekb_10_129 : e_ir e_blt 10 129 = some 1000 := by decide +kernel
theorem ek_10_134 : e_ir2 e_call 10 134 = some (171, 0) := by decide +kernel
theorem ek_10_138 : e_ir2 e_call 10 138 = some (168, 0) := by decide +kernel
theorem ek_10_142 : e_ir2 e_call 10 142 = some (167, 0) := by decide +kernel
theorem ek_10_145 : e_ir2 e_call 10 145 = some (169, 0) := by decide +kernel
theorem ek_10_149 : e_ir2 e_call 10 149 = some (113, 0) := by decide +kernel
theorem ek_10_152 : e_ir2 e_call 10 152 = some (173, 0) := by decide +kernel
theorem ek_10_155 : e_ir2 e_call 10 155 = some (172, 0) := by decide +kernel
theorem ek_10_158 : e_ir2 e_call 10 158 = some (170, 0) := by decide +kernel
theorem ek_10_162 : e_ir2 e_call 10 162 = some (114, 0) := by decide +kernel
theorem ek_10_165 : e_ir2 e_call 10 165 = some (115, 0) := by decide +kernel
theorem ek_10_167 : e_ir2 e_call 10 167 = some (116, 0) := by decide +kernel
theorem ek_10_168 : e_ir2 e_call 10 168 = some (174, 0) := by decide +kernel
theorem ek_10_171 : e_ir2 e_call 10 171 = some (119, 0) := by decide +kernel
theorem ek_10_174 : e_ir2 e_call 10 174 = some (117, 0) := by decide +kernel
theorem ek_10_176 : e_ir2 e_call 10 176 = some (131, 0) := by decide +kernel
theorem ek_10_180 : e_ir2 e_call 10 180 = some (175, 0) := by decide +kernel
theorem ek_10_181 : e_ir2 e_call 10 181 = some (132, 0) := by decide +kernel
theorem ek_10_183 : e_ir2 e_call 10 183 = some (118, 0) := by decide +kernel
theorem ek_10_186 : e_ir2 e_call 10 186 = some (121, 0) := by decide +kernel
theorem ek_10_189 : e_ir2 e_call 10 189 = some (177, 0) := by decide +kernel
theorem ek_10_192 : e_ir2 e_call 10 192 = some (123, 0) := by decide +kernel
theorem ek_10_195 : e_ir2 e_call 10 195 = some (124, 0) := by decide +kernel
theorem ek_10_198 : e_ir2 e_call 10 198 = some (109, 0) := by decide +kernel
theorem ek_10_201 : e_ir2 e_call 10 201 = some (111, 0) := by decide +kernel
theorem ek_10_207 : e_ir2 e_call 10 207 = some (179, 0) := by decide +kernel
theorem ek_10_211 : e_ir2 e_call 10 211 = some (122, 0) := by decide +kernel
theorem ek_10_214 : e_ir2 e_call 10 214 = some (181, 0) := by decide +kernel
theorem ek_10_217 : e_ir2 e_call 10 217 = some (182, 0) := by decide +kernel
theorem ekn_10_230 : e_ir2 e_call 10 230 = none := by decide +kernel
theorem ekb_10_230 : e_ir e_blt 10 230 = some 1001 := by decide +kernel
theorem ek_10_243 : e_ir2 e_call 10 243 = some (125, 0) := by decide +kernel
theorem ek_10_246 : e_ir2 e_call 10 246 = some (127, 0) := by decide +kernel
theorem ek_10_249 : e_ir2 e_call 10 249 = some (120, 0) := by decide +kernel
theorem ek_10_252 : e_ir2 e_call 10 252 = some (126, 0) := by decide +kernel
theorem ek_10_255 : e_ir2 e_call 10 255 = some (184, 0) := by decide +kernel
theorem ek_10_258 : e_ir2 e_call 10 258 = some (129, 0) := by decide +kernel
theorem ek_10_261 : e_ir2 e_call 10 261 = some (128, 0) := by decide +kernel
theorem ek_10_264 : e_ir2 e_call 10 264 = some (176, 0) := by decide +kernel
theorem ek_10_267 : e_ir2 e_call 10 267 = some (145, 0) := by decide +kernel
theorem ek_10_270 : e_ir2 e_call 10 270 = some (134, 0) := by decide +kernel
theorem ek_10_273 : e_ir2 e_call 10 273 = some (144, 0) := by decide +kernel
theorem ek_10_276 : e_ir2 e_call 10 276 = some (136, 0) := by decide +kernel
theorem ek_10_279 : e_ir2 e_call 10 279 = some (133, 0) := by decide +kernel
theorem ek_10_282 : e_ir2 e_call 10 282 = some (137, 0) := by decide +kernel
theorem ek_10_285 : e_ir2 e_call 10 285 = some (138, 0) := by decide +kernel
theorem ek_10_288 : e_ir2 e_call 10 288 = some (142, 0) := by decide +kernel
theorem ek_10_291 : e_ir2 e_call 10 291 = some (143, 0) := by decide +kernel
theorem ek_10_295 : e_ir2 e_call 10 295 = some (139, 0) := by decide +kernel
theorem ek_10_298 : e_ir2 e_call 10 298 = some (140, 0) := by decide +kernel
theorem ek_10_301 : e_ir2 e_call 10 301 = some (141, 0) := by decide +kernel
theorem ek_10_304 : e_ir2 e_call 10 304 = some (146, 0) := by decide +kernel
theorem ek_10_307 : e_ir2 e_call 10 307 = some (135, 0) := by decide +kernel
theorem ek_10_311 : e_ir2 e_call 10 311 = some (164, 0) := by decide +kernel
theorem ek_10_312 : e_ir2 e_call 10 312 = some (187, 0) := by decide +kernel
theorem ek_10_316 : e_ir2 e_call 10 316 = some (166, 0) := by decide +kernel
theorem ek_10_319 : e_ir2 e_call 10 319 = some (183, 0) := by decide +kernel
theorem ek_10_322 : e_ir2 e_call 10 322 = some (112, 0) := by decide +kernel
theorem ek_10_325 : e_ir2 e_call 10 325 = some (186, 0) := by decide +kernel
theorem ek_10_328 : e_ir2 e_call 10 328 = some (185, 0) := by decide +kernel
theorem ek_10_331 : e_ir2 e_call 10 331 = some (180, 0) := by decide +kernel
theorem ef_0_11 : e_ir2 e_fld 0 11 = some (0, 0) := by decide +kernel
theorem ef_0_18 : e_ir2 e_fld 0 18 = some (0, 1) := by decide +kernel
theorem ef_0_30 : e_ir2 e_fld 0 30 = some (0, 2) := by decide +kernel
theorem ef_1_9 : e_ir2 e_fld 1 9 = some (1, 0) := by decide +kernel
theorem ef_1_15 : e_ir2 e_fld 1 15 = some (1, 1) := by decide +kernel
theorem ef_1_18 : e_ir2 e_fld 1 18 = some (1, 2) := by decide +kernel
theorem ef_1_27 : e_ir2 e_fld 1 27 = some (3, 1) := by decide +kernel
theorem ef_1_49 : e_ir2 e_fld 1 49 = some (3, 0) := by decide +kernel
theorem ef_1_76 : e_ir2 e_fld 1 76 = some (1, 3) := by decide +kernel
theorem ef_1_79 : e_ir2 e_fld 1 79 = some (1, 4) := by decide +kernel
theorem ef_1_120 : e_ir2 e_fld 1 120 = some (3, 9) := by decide +kernel
theorem ef_1_121 : e_ir2 e_fld 1 121 = some (1, 5) := by decide +kernel
theorem ef_2_9 : e_ir2 e_fld 2 9 = some (2, 0) := by decide +kernel
theorem ef_2_15 : e_ir2 e_fld 2 15 = some (2, 1) := by decide +kernel
theorem ef_2_18 : e_ir2 e_fld 2 18 = some (2, 2) := by decide +kernel
theorem ef_2_21 : e_ir2 e_fld 2 21 = some (2, 3) := by decide +kernel
theorem ef_2_25 : e_ir2 e_fld 2 25 = some (2, 4) := by decide +kernel
theorem ef_2_28 : e_ir2 e_fld 2 28 = some (3, 0) := by decide +kernel
theorem ef_3_9 : e_ir2 e_fld 3 9 = some (3, 3) := by decide +kernel
theorem ef_3_15 : e_ir2 e_fld 3 15 = some (3, 4) := by decide +kernel
theorem ef_3_18 : e_ir2 e_fld 3 18 = some (3, 5) := by decide +kernel
theorem ef_3_21 : e_ir2 e_fld 3 21 = some (3, 6) := by decide +kernel
theorem ef_3_24 : e_ir2 e_fld 3 24 = some (3, 7) := by decide +kernel
theorem ef_3_27 : e_ir2 e_fld 3 27 = some (3, 8) := by decide +kernel
theorem ef_3_30 : e_ir2 e_fld 3 30 = some (3, 9) := by decide +kernel
theorem ef_3_33 : e_ir2 e_fld 3 33 = some (3, 10) := by decide +kernel
theorem ef_3_36 : e_ir2 e_fld 3 36 = some (3, 11) := by decide +kernel
theorem ef_3_39 : e_ir2 e_fld 3 39 = some (3, 0) := by decide +kernel
theorem ef_3_43 : e_ir2 e_fld 3 43 = some (3, 1) := by decide +kernel
theorem ef_3_46 : e_ir2 e_fld 3 46 = some (3, 2) := by decide +kernel
theorem ef_4_9 : e_ir2 e_fld 4 9 = some (4, 1) := by decide +kernel
theorem ef_4_15 : e_ir2 e_fld 4 15 = some (4, 2) := by decide +kernel
theorem ef_4_19 : e_ir2 e_fld 4 19 = some (4, 3) := by decide +kernel
theorem ef_4_22 : e_ir2 e_fld 4 22 = some (4, 0) := by decide +kernel
theorem ef_4_37 : e_ir2 e_fld 4 37 = some (3, 0) := by decide +kernel
theorem ef_4_50 : e_ir2 e_fld 4 50 = some (3, 1) := by decide +kernel
theorem ef_5_9 : e_ir2 e_fld 5 9 = some (5, 0) := by decide +kernel
theorem ef_5_21 : e_ir2 e_fld 5 21 = some (2, 3) := by decide +kernel
theorem ef_5_36 : e_ir2 e_fld 5 36 = some (2, 4) := by decide +kernel
theorem ef_5_56 : e_ir2 e_fld 5 56 = some (2, 1) := by decide +kernel
theorem ef_5_85 : e_ir2 e_fld 5 85 = some (7, 3) := by decide +kernel
theorem ef_5_98 : e_ir2 e_fld 5 98 = some (7, 0) := by decide +kernel
theorem ef_5_101 : e_ir2 e_fld 5 101 = some (7, 2) := by decide +kernel
theorem ef_5_102 : e_ir2 e_fld 5 102 = some (7, 1) := by decide +kernel
theorem ef_6_9 : e_ir2 e_fld 6 9 = some (6, 0) := by decide +kernel
theorem ef_6_15 : e_ir2 e_fld 6 15 = some (6, 3) := by decide +kernel
theorem ef_6_19 : e_ir2 e_fld 6 19 = some (6, 4) := by decide +kernel
theorem ef_6_22 : e_ir2 e_fld 6 22 = some (6, 5) := by decide +kernel
theorem ef_6_25 : e_ir2 e_fld 6 25 = some (6, 6) := by decide +kernel
theorem ef_6_28 : e_ir2 e_fld 6 28 = some (6, 7) := by decide +kernel
theorem ef_6_31 : e_ir2 e_fld 6 31 = some (6, 8) := by decide +kernel
theorem ef_6_34 : e_ir2 e_fld 6 34 = some (6, 9) := by decide +kernel
theorem ef_6_37 : e_ir2 e_fld 6 37 = some (6, 10) := by decide +kernel
theorem ef_6_40 : e_ir2 e_fld 6 40 = some (6, 11) := by decide +kernel
theorem ef_6_43 : e_ir2 e_fld 6 43 = some (6, 12) := by decide +kernel
theorem ef_6_46 : e_ir2 e_fld 6 46 = some (6, 13) := by decide +kernel
theorem ef_6_49 : e_ir2 e_fld 6 49 = some (6, 14) := by decide +kernel
theorem ef_6_52 : e_ir2 e_fld 6 52 = some (6, 15) := by decide +kernel
theorem ef_6_55 : e_ir2 e_fld 6 55 = some (6, 16) := by decide +kernel
theorem ef_6_58 : e_ir2 e_fld 6 58 = some (6, 17) := by decide +kernel
theorem ef_6_65 : e_ir2 e_fld 6 65 = some (6, 2) := by decide +kernel
theorem ef_6_78 : e_ir2 e_fld 6 78 = some (6, 1) := by decide +kernel
theorem ef_6_137 : e_ir2 e_fld 6 137 = some (3, 7) := by decide +kernel
theorem ef_6_168 : e_ir2 e_fld 6 168 = some (3, 0) := by decide +kernel
theorem ef_6_174 : e_ir2 e_fld 6 174 = some (3, 8) := by decide +kernel
theorem ef_7_9 : e_ir2 e_fld 7 9 = some (7, 0) := by decide +kernel
theorem ef_7_15 : e_ir2 e_fld 7 15 = some (7, 1) := by decide +kernel
theorem ef_7_18 : e_ir2 e_fld 7 18 = some (7, 2) := by decide +kernel
theorem ef_7_21 : e_ir2 e_fld 7 21 = some (7, 3) := by decide +kernel
theorem ef_7_25 : e_ir2 e_fld 7 25 = some (3, 0) := by decide +kernel
theorem ef_8_9 : e_ir2 e_fld 8 9 = some (8, 1) := by decide +kernel
theorem ef_8_15 : e_ir2 e_fld 8 15 = some (3, 1) := by decide +kernel
theorem ef_8_27 : e_ir2 e_fld 8 27 = some (8, 0) := by decide +kernel
theorem ef_8_30 : e_ir2 e_fld 8 30 = some (3, 9) := by decide +kernel
theorem ef_9_10 : e_ir2 e_fld 9 10 = some (9, 0) := by decide +kernel
theorem ef_9_19 : e_ir2 e_fld 9 19 = some (9, 1) := by decide +kernel
theorem ef_9_26 : e_ir2 e_fld 9 26 = some (9, 2) := by decide +kernel
theorem ef_9_30 : e_ir2 e_fld 9 30 = some (9, 3) := by decide +kernel
theorem ef_9_36 : e_ir2 e_fld 9 36 = some (9, 4) := by decide +kernel
theorem ef_9_43 : e_ir2 e_fld 9 43 = some (9, 5) := by decide +kernel
theorem ef_9_50 : e_ir2 e_fld 9 50 = some (9, 6) := by decide +kernel
theorem ef_9_57 : e_ir2 e_fld 9 57 = some (9, 7) := by decide +kernel
theorem ef_9_64 : e_ir2 e_fld 9 64 = some (9, 8) := by decide +kernel
theorem ef_9_71 : e_ir2 e_fld 9 71 = some (9, 9) := by decide +kernel
theorem ef_9_83 : e_ir2 e_fld 9 83 = some (3, 0) := by decide +kernel
theorem ef_9_118 : e_ir2 e_fld 9 118 = some (3, 1) := by decide +kernel
theorem ef_9_164 : e_ir2 e_fld 9 164 = some (3, 2) := by decide +kernel
theorem ef_9_170 : e_ir2 e_fld 9 170 = some (3, 9) := by decide +kernel
theorem ef_9_178 : e_ir2 e_fld 9 178 = some (6, 0) := by decide +kernel
theorem ef_9_186 : e_ir2 e_fld 9 186 = some (3, 7) := by decide +kernel
theorem ef_9_204 : e_ir2 e_fld 9 204 = some (1, 1) := by decide +kernel
theorem ef_9_258 : e_ir2 e_fld 9 258 = some (2, 4) := by decide +kernel
theorem ef_9_261 : e_ir2 e_fld 9 261 = some (2, 3) := by decide +kernel
theorem ef_9_264 : e_ir2 e_fld 9 264 = some (2, 1) := by decide +kernel
theorem ef_9_271 : e_ir2 e_fld 9 271 = some (3, 8) := by decide +kernel
theorem ef_9_284 : e_ir2 e_fld 9 284 = some (1, 0) := by decide +kernel
theorem ef_9_298 : e_ir2 e_fld 9 298 = some (3, 10) := by decide +kernel
theorem ef_9_311 : e_ir2 e_fld 9 311 = some (4, 0) := by decide +kernel
theorem ef_9_321 : e_ir2 e_fld 9 321 = some (4, 1) := by decide +kernel
theorem ef_9_327 : e_ir2 e_fld 9 327 = some (8, 0) := by decide +kernel
theorem ef_9_335 : e_ir2 e_fld 9 335 = some (6, 7) := by decide +kernel
theorem ef_10_10 : e_ir2 e_fld 10 10 = some (10, 1) := by decide +kernel
theorem ef_10_16 : e_ir2 e_fld 10 16 = some (10, 2) := by decide +kernel
theorem ef_10_20 : e_ir2 e_fld 10 20 = some (10, 3) := by decide +kernel
theorem ef_10_23 : e_ir2 e_fld 10 23 = some (10, 4) := by decide +kernel
theorem ef_10_26 : e_ir2 e_fld 10 26 = some (10, 5) := by decide +kernel
theorem ef_10_29 : e_ir2 e_fld 10 29 = some (10, 6) := by decide +kernel
theorem ef_10_32 : e_ir2 e_fld 10 32 = some (10, 7) := by decide +kernel
theorem ef_10_35 : e_ir2 e_fld 10 35 = some (10, 8) := by decide +kernel
theorem ef_10_38 : e_ir2 e_fld 10 38 = some (10, 9) := by decide +kernel
theorem ef_10_41 : e_ir2 e_fld 10 41 = some (10, 10) := by decide +kernel
theorem ef_10_44 : e_ir2 e_fld 10 44 = some (10, 11) := by decide +kernel
theorem ef_10_47 : e_ir2 e_fld 10 47 = some (10, 12) := by decide +kernel
theorem ef_10_50 : e_ir2 e_fld 10 50 = some (10, 13) := by decide +kernel
theorem ef_10_53 : e_ir2 e_fld 10 53 = some (10, 14) := by decide +kernel
theorem ef_10_56 : e_ir2 e_fld 10 56 = some (10, 15) := by decide +kernel
theorem ef_10_59 : e_ir2 e_fld 10 59 = some (10, 21) := by decide +kernel
theorem ef_10_62 : e_ir2 e_fld 10 62 = some (10, 22) := by decide +kernel
theorem ef_10_65 : e_ir2 e_fld 10 65 = some (10, 23) := by decide +kernel
theorem ef_10_68 : e_ir2 e_fld 10 68 = some (10, 24) := by decide +kernel
theorem ef_10_71 : e_ir2 e_fld 10 71 = some (10, 25) := by decide +kernel
theorem ef_10_74 : e_ir2 e_fld 10 74 = some (10, 26) := by decide +kernel
theorem ef_10_77 : e_ir2 e_fld 10 77 = some (10, 28) := by decide +kernel
theorem ef_10_80 : e_ir2 e_fld 10 80 = some (10, 0) := by decide +kernel
theorem ef_10_89 : e_ir2 e_fld 10 89 = some (10, 16) := by decide +kernel
theorem ef_10_96 : e_ir2 e_fld 10 96 = some (10, 17) := by decide +kernel
theorem ef_10_107 : e_ir2 e_fld 10 107 = some (10, 19) := by decide +kernel
theorem ef_10_110 : e_ir2 e_fld 10 110 = some (10, 20) := by decide +kernel
theorem ef_10_126 : e_ir2 e_fld 10 126 = some (10, 18) := by decide +kernel
theorem ef_10_204 : e_ir2 e_fld 10 204 = some (10, 27) := by decide +kernel
theorem ef_10_224 : e_ir2 e_fld 10 224 = some (10, 29) := by decide +kernel
theorem ef_10_227 : e_ir2 e_fld 10 227 = some (10, 30) := by decide +kernel
theorem ef_10_233 : e_ir2 e_fld 10 233 = some (10, 31) := by decide +kernel
theorem ef_10_236 : e_ir2 e_fld 10 236 = some (10, 32) := by decide +kernel
theorem ef_10_239 : e_ir2 e_fld 10 239 = some (10, 33) := by decide +kernel
