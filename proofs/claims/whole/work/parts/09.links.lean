theorem mG_of {w : Cond} (h : w ∈ lw_tbl) (hg : goodWord w = true) : w ∈ mGood := List.mem_filter.mpr ⟨h, hg⟩
theorem mG1 (i : Nat) {w : Cond} (h : tables_1_1[i]? = some w) (hg : goodWord w = true) : w ∈ mGood := mG_of (List.mem_append_right _ (show w ∈ tables_1 from List.mem_append_left _ (List.mem_of_getElem? h))) hg
theorem mG2 (i : Nat) {w : Cond} (h : tables_1_2[i]? = some w) (hg : goodWord w = true) : w ∈ mGood := mG_of (List.mem_append_right _ (show w ∈ tables_1 from List.mem_append_right _ (List.mem_append_left _ (List.mem_of_getElem? h)))) hg
theorem mG3 (i : Nat) {w : Cond} (h : tables_1_3[i]? = some w) (hg : goodWord w = true) : w ∈ mGood := mG_of (List.mem_append_right _ (show w ∈ tables_1 from List.mem_append_right _ (List.mem_append_right _ (List.mem_append_left _ (List.mem_of_getElem? h))))) hg
theorem mG4 (i : Nat) {w : Cond} (h : tables_1_4[i]? = some w) (hg : goodWord w = true) : w ∈ mGood := mG_of (List.mem_append_right _ (show w ∈ tables_1 from List.mem_append_right _ (List.mem_append_right _ (List.mem_append_right _ (List.mem_append_left _ (List.mem_of_getElem? h)))))) hg
theorem mG5 (i : Nat) {w : Cond} (h : tables_1_5[i]? = some w) (hg : goodWord w = true) : w ∈ mGood := mG_of (List.mem_append_right _ (show w ∈ tables_1 from List.mem_append_right _ (List.mem_append_right _ (List.mem_append_right _ (List.mem_append_right _ (List.mem_append_left _ (List.mem_of_getElem? h))))))) hg
theorem mG6 (i : Nat) {w : Cond} (h : tables_1_6[i]? = some w) (hg : goodWord w = true) : w ∈ mGood := mG_of (List.mem_append_right _ (show w ∈ tables_1 from List.mem_append_right _ (List.mem_append_right _ (List.mem_append_right _ (List.mem_append_right _ (List.mem_append_right _ (List.mem_append_left _ (List.mem_of_getElem? h)))))))) hg
theorem mG7 (i : Nat) {w : Cond} (h : tables_1_7[i]? = some w) (hg : goodWord w = true) : w ∈ mGood := mG_of (List.mem_append_right _ (show w ∈ tables_1 from List.mem_append_right _ (List.mem_append_right _ (List.mem_append_right _ (List.mem_append_right _ (List.mem_append_right _ (List.mem_append_right _ (List.mem_append_left _ (List.mem_of_getElem? h))))))))) hg
theorem mG8 (i : Nat) {w : Cond} (h : tables_1_8[i]? = some w) (hg : goodWord w = true) : w ∈ mGood := mG_of (List.mem_append_right _ (show w ∈ tables_1 from List.mem_append_right _ (List.mem_append_right _ (List.mem_append_right _ (List.mem_append_right _ (List.mem_append_right _ (List.mem_append_right _ (List.mem_append_right _ (List.mem_append_left _ (List.mem_of_getElem? h)))))))))) hg
theorem mG9 (i : Nat) {w : Cond} (h : tables_1_9[i]? = some w) (hg : goodWord w = true) : w ∈ mGood := mG_of (List.mem_append_right _ (show w ∈ tables_1 from List.mem_append_right _ (List.mem_append_right _ (List.mem_append_right _ (List.mem_append_right _ (List.mem_append_right _ (List.mem_append_right _ (List.mem_append_right _ (List.mem_append_right _ (List.mem_of_getElem? h)))))))))) hg
theorem mGs (i : Nat) {q : MethodName × Nat} (h : lw_privs[i]? = some q) : Cond.selects q.1.cls q.1 q.1 ∈ mGood := mG_of (List.mem_append_left _ (List.mem_map.mpr ⟨q, List.mem_of_getElem? h, rfl⟩)) rfl
theorem cw_0 : ∀ w ∈ u_ws RX0 TX0 20, w ∈ mGood := by
  intro w hw
  obtain ⟨k, hk, rfl⟩ := List.mem_map.mp hw
  have hk := List.mem_range.mp hk
  match k, hk with
  | 0, _ => exact mG1 151 rfl rfl
  | 1, _ => exact mG1 153 rfl rfl
  | 2, _ => exact mG1 155 rfl rfl
  | 3, _ => exact mG1 157 rfl rfl
  | 4, _ => exact mG1 159 rfl rfl
  | 5, _ => exact mG1 161 rfl rfl
  | 6, _ => exact mG1 163 rfl rfl
  | 7, _ => exact mG1 165 rfl rfl
  | 8, _ => exact mG1 167 rfl rfl
  | 9, _ => exact mG1 169 rfl rfl
  | 10, _ => exact mG1 171 rfl rfl
  | 11, _ => exact mG1 173 rfl rfl
  | 12, _ => exact mG1 175 rfl rfl
  | 13, _ => exact mG1 177 rfl rfl
  | 14, _ => exact mG1 179 rfl rfl
  | 15, _ => exact mG1 181 rfl rfl
  | 16, _ => exact mG1 183 rfl rfl
  | 17, _ => exact mG1 185 rfl rfl
  | 18, _ => exact mG1 187 rfl rfl
  | 19, _ => exact mG1 189 rfl rfl
  | k + 20, h => omega
theorem cf_0 : mCF 0 RX0 TX0 20 tyX0 := ⟨rfl, rfl, cw_0, by decide +kernel, by decide +kernel, by decide +kernel⟩
theorem cw_1 : ∀ w ∈ u_ws RX1 TX1 1, w ∈ mGood := by
  intro w hw
  obtain ⟨k, hk, rfl⟩ := List.mem_map.mp hw
  have hk := List.mem_range.mp hk
  match k, hk with
  | 0, _ => exact mG2 173 rfl rfl
  | k + 1, h => omega
theorem cf_1 : mCF 1 RX1 TX1 1 tyX1 := ⟨rfl, rfl, cw_1, by decide +kernel, by decide +kernel, by decide +kernel⟩
theorem cw_2 : ∀ w ∈ u_ws RX2 TX2 8, w ∈ mGood := by
  intro w hw
  obtain ⟨k, hk, rfl⟩ := List.mem_map.mp hw
  have hk := List.mem_range.mp hk
  match k, hk with
  | 0, _ => exact mG1 59 rfl rfl
  | 1, _ => exact mG1 61 rfl rfl
  | 2, _ => exact mG1 63 rfl rfl
  | 3, _ => exact mG1 65 rfl rfl
  | 4, _ => exact mG1 67 rfl rfl
  | 5, _ => exact mG1 69 rfl rfl
  | 6, _ => exact mG1 71 rfl rfl
  | 7, _ => exact mG1 73 rfl rfl
  | k + 8, h => omega
theorem cf_2 : mCF 2 RX2 TX2 8 tyX2 := ⟨rfl, rfl, cw_2, by decide +kernel, by decide +kernel, by decide +kernel⟩
theorem cw_3 : ∀ w ∈ u_ws RX3 TX3 7, w ∈ mGood := by
  intro w hw
  obtain ⟨k, hk, rfl⟩ := List.mem_map.mp hw
  have hk := List.mem_range.mp hk
  match k, hk with
  | 0, _ => exact mG2 90 rfl rfl
  | 1, _ => exact mG2 92 rfl rfl
  | 2, _ => exact mG2 94 rfl rfl
  | 3, _ => exact mG2 96 rfl rfl
  | 4, _ => exact mG2 98 rfl rfl
  | 5, _ => exact mG2 100 rfl rfl
  | 6, _ => exact mG2 102 rfl rfl
  | k + 7, h => omega
theorem cf_3 : mCF 3 RX3 TX3 7 tyX3 := ⟨rfl, rfl, cw_3, by decide +kernel, by decide +kernel, by decide +kernel⟩
theorem cw_4 : ∀ w ∈ u_ws RX4 TX4 4, w ∈ mGood := by
  intro w hw
  obtain ⟨k, hk, rfl⟩ := List.mem_map.mp hw
  have hk := List.mem_range.mp hk
  match k, hk with
  | 0, _ => exact mG2 208 rfl rfl
  | 1, _ => exact mG2 210 rfl rfl
  | 2, _ => exact mG2 212 rfl rfl
  | 3, _ => exact mG2 214 rfl rfl
  | k + 4, h => omega
theorem cf_4 : mCF 4 RX4 TX4 4 tyX4 := ⟨rfl, rfl, cw_4, by decide +kernel, by decide +kernel, by decide +kernel⟩
theorem cw_5 : ∀ w ∈ u_ws RX5 TX5 7, w ∈ mGood := by
  intro w hw
  obtain ⟨k, hk, rfl⟩ := List.mem_map.mp hw
  have hk := List.mem_range.mp hk
  match k, hk with
  | 0, _ => exact mG2 112 rfl rfl
  | 1, _ => exact mG2 114 rfl rfl
  | 2, _ => exact mG2 116 rfl rfl
  | 3, _ => exact mG2 118 rfl rfl
  | 4, _ => exact mG2 120 rfl rfl
  | 5, _ => exact mG2 122 rfl rfl
  | 6, _ => exact mG2 124 rfl rfl
  | k + 7, h => omega
theorem cf_5 : mCF 5 RX5 TX5 7 tyX5 := ⟨rfl, rfl, cw_5, by decide +kernel, by decide +kernel, by decide +kernel⟩
theorem cw_6 : ∀ w ∈ u_ws RX6 TX6 9, w ∈ mGood := by
  intro w hw
  obtain ⟨k, hk, rfl⟩ := List.mem_map.mp hw
  have hk := List.mem_range.mp hk
  match k, hk with
  | 0, _ => exact mG2 51 rfl rfl
  | 1, _ => exact mG2 53 rfl rfl
  | 2, _ => exact mG2 55 rfl rfl
  | 3, _ => exact mG2 57 rfl rfl
  | 4, _ => exact mG2 59 rfl rfl
  | 5, _ => exact mG2 61 rfl rfl
  | 6, _ => exact mG2 63 rfl rfl
  | 7, _ => exact mG2 65 rfl rfl
  | 8, _ => exact mG2 67 rfl rfl
  | k + 9, h => omega
theorem cf_6 : mCF 6 RX6 TX6 9 tyX6 := ⟨rfl, rfl, cw_6, by decide +kernel, by decide +kernel, by decide +kernel⟩
theorem cw_7 : ∀ w ∈ u_ws RX7 TX7 12, w ∈ mGood := by
  intro w hw
  obtain ⟨k, hk, rfl⟩ := List.mem_map.mp hw
  have hk := List.mem_range.mp hk
  match k, hk with
  | 0, _ => exact mG3 68 rfl rfl
  | 1, _ => exact mG3 70 rfl rfl
  | 2, _ => exact mG3 72 rfl rfl
  | 3, _ => exact mG3 74 rfl rfl
  | 4, _ => exact mG3 76 rfl rfl
  | 5, _ => exact mG3 78 rfl rfl
  | 6, _ => exact mG3 80 rfl rfl
  | 7, _ => exact mG3 82 rfl rfl
  | 8, _ => exact mG3 84 rfl rfl
  | 9, _ => exact mG3 86 rfl rfl
  | 10, _ => exact mG3 88 rfl rfl
  | 11, _ => exact mG3 90 rfl rfl
  | k + 12, h => omega
theorem cf_7 : mCF 7 RX7 TX7 12 tyX7 := ⟨rfl, rfl, cw_7, by decide +kernel, by decide +kernel, by decide +kernel⟩
theorem cw_8 : ∀ w ∈ u_ws RX8 TX8 6, w ∈ mGood := by
  intro w hw
  obtain ⟨k, hk, rfl⟩ := List.mem_map.mp hw
  have hk := List.mem_range.mp hk
  match k, hk with
  | 0, _ => exact mG1 212 rfl rfl
  | 1, _ => exact mG1 214 rfl rfl
  | 2, _ => exact mG1 216 rfl rfl
  | 3, _ => exact mG1 218 rfl rfl
  | 4, _ => exact mG1 220 rfl rfl
  | 5, _ => exact mG1 222 rfl rfl
  | k + 6, h => omega
theorem cf_8 : mCF 8 RX8 TX8 6 tyX8 := ⟨rfl, rfl, cw_8, by decide +kernel, by decide +kernel, by decide +kernel⟩
theorem cw_9 : ∀ w ∈ u_ws RX9 TX9 10, w ∈ mGood := by
  intro w hw
  obtain ⟨k, hk, rfl⟩ := List.mem_map.mp hw
  have hk := List.mem_range.mp hk
  match k, hk with
  | 0, _ => exact mG2 145 rfl rfl
  | 1, _ => exact mG2 147 rfl rfl
  | 2, _ => exact mG2 149 rfl rfl
  | 3, _ => exact mG2 151 rfl rfl
  | 4, _ => exact mG2 153 rfl rfl
  | 5, _ => exact mG2 155 rfl rfl
  | 6, _ => exact mG2 157 rfl rfl
  | 7, _ => exact mG2 159 rfl rfl
  | 8, _ => exact mG2 161 rfl rfl
  | 9, _ => exact mG2 163 rfl rfl
  | k + 10, h => omega
theorem cf_9 : mCF 9 RX9 TX9 10 tyX9 := ⟨rfl, rfl, cw_9, by decide +kernel, by decide +kernel, by decide +kernel⟩
theorem cw_10 : ∀ w ∈ u_ws RX10 TX10 19, w ∈ mGood := by
  intro w hw
  obtain ⟨k, hk, rfl⟩ := List.mem_map.mp hw
  have hk := List.mem_range.mp hk
  match k, hk with
  | 0, _ => exact mG3 1 rfl rfl
  | 1, _ => exact mG3 3 rfl rfl
  | 2, _ => exact mG3 5 rfl rfl
  | 3, _ => exact mG3 7 rfl rfl
  | 4, _ => exact mG3 9 rfl rfl
  | 5, _ => exact mG3 11 rfl rfl
  | 6, _ => exact mG3 13 rfl rfl
  | 7, _ => exact mG3 15 rfl rfl
  | 8, _ => exact mG3 17 rfl rfl
  | 9, _ => exact mG3 19 rfl rfl
  | 10, _ => exact mG3 21 rfl rfl
  | 11, _ => exact mG3 23 rfl rfl
  | 12, _ => exact mG3 25 rfl rfl
  | 13, _ => exact mG3 27 rfl rfl
  | 14, _ => exact mG3 29 rfl rfl
  | 15, _ => exact mG3 31 rfl rfl
  | 16, _ => exact mG3 33 rfl rfl
  | 17, _ => exact mG3 35 rfl rfl
  | 18, _ => exact mG3 37 rfl rfl
  | k + 19, h => omega
theorem cf_10 : mCF 10 RX10 TX10 19 tyX10 := ⟨rfl, rfl, cw_10, by decide +kernel, by decide +kernel, by decide +kernel⟩
theorem cw_11 : ∀ w ∈ u_ws RX11 TX11 18, w ∈ mGood := by
  intro w hw
  obtain ⟨k, hk, rfl⟩ := List.mem_map.mp hw
  have hk := List.mem_range.mp hk
  match k, hk with
  | 0, _ => exact mG3 114 rfl rfl
  | 1, _ => exact mG3 116 rfl rfl
  | 2, _ => exact mG3 118 rfl rfl
  | 3, _ => exact mG3 120 rfl rfl
  | 4, _ => exact mG3 122 rfl rfl
  | 5, _ => exact mG3 124 rfl rfl
  | 6, _ => exact mG3 126 rfl rfl
  | 7, _ => exact mG3 128 rfl rfl
  | 8, _ => exact mG3 130 rfl rfl
  | 9, _ => exact mG3 132 rfl rfl
  | 10, _ => exact mG3 134 rfl rfl
  | 11, _ => exact mG3 136 rfl rfl
  | 12, _ => exact mG3 138 rfl rfl
  | 13, _ => exact mG3 140 rfl rfl
  | 14, _ => exact mG3 142 rfl rfl
  | 15, _ => exact mG3 144 rfl rfl
  | 16, _ => exact mG3 146 rfl rfl
  | 17, _ => exact mG3 148 rfl rfl
  | k + 18, h => omega
theorem cf_11 : mCF 11 RX11 TX11 18 tyX11 := ⟨rfl, rfl, cw_11, by decide +kernel, by decide +kernel, by decide +kernel⟩
theorem cw_12 : ∀ w ∈ u_ws RX12 TX12 65, w ∈ mGood := by
  intro w hw
  obtain ⟨k, hk, rfl⟩ := List.mem_map.mp hw
  have hk := List.mem_range.mp hk
  match k, hk with
  | 0, _ => exact mG6 142 rfl rfl
  | 1, _ => exact mG6 144 rfl rfl
  | 2, _ => exact mG6 146 rfl rfl
  | 3, _ => exact mG6 148 rfl rfl
  | 4, _ => exact mG6 150 rfl rfl
  | 5, _ => exact mG6 152 rfl rfl
  | 6, _ => exact mG6 154 rfl rfl
  | 7, _ => exact mG6 156 rfl rfl
  | 8, _ => exact mG6 158 rfl rfl
  | 9, _ => exact mG6 160 rfl rfl
  | 10, _ => exact mG6 162 rfl rfl
  | 11, _ => exact mG6 164 rfl rfl
  | 12, _ => exact mG6 166 rfl rfl
  | 13, _ => exact mG6 168 rfl rfl
  | 14, _ => exact mG6 170 rfl rfl
  | 15, _ => exact mG6 172 rfl rfl
  | 16, _ => exact mG6 174 rfl rfl
  | 17, _ => exact mG6 176 rfl rfl
  | 18, _ => exact mG6 178 rfl rfl
  | 19, _ => exact mG6 180 rfl rfl
  | 20, _ => exact mG6 182 rfl rfl
  | 21, _ => exact mG6 184 rfl rfl
  | 22, _ => exact mG6 186 rfl rfl
  | 23, _ => exact mG6 188 rfl rfl
  | 24, _ => exact mG6 190 rfl rfl
  | 25, _ => exact mG6 192 rfl rfl
  | 26, _ => exact mG6 194 rfl rfl
  | 27, _ => exact mG6 196 rfl rfl
  | 28, _ => exact mG6 198 rfl rfl
  | 29, _ => exact mG6 200 rfl rfl
  | 30, _ => exact mG6 202 rfl rfl
  | 31, _ => exact mG6 204 rfl rfl
  | 32, _ => exact mG6 206 rfl rfl
  | 33, _ => exact mG6 208 rfl rfl
  | 34, _ => exact mG6 210 rfl rfl
  | 35, _ => exact mG6 212 rfl rfl
  | 36, _ => exact mG6 214 rfl rfl
  | 37, _ => exact mG6 216 rfl rfl
  | 38, _ => exact mG6 218 rfl rfl
  | 39, _ => exact mG6 220 rfl rfl
  | 40, _ => exact mG6 222 rfl rfl
  | 41, _ => exact mG6 224 rfl rfl
  | 42, _ => exact mG6 226 rfl rfl
  | 43, _ => exact mG6 228 rfl rfl
  | 44, _ => exact mG6 230 rfl rfl
  | 45, _ => exact mG6 232 rfl rfl
  | 46, _ => exact mG6 234 rfl rfl
  | 47, _ => exact mG6 236 rfl rfl
  | 48, _ => exact mG6 238 rfl rfl
  | 49, _ => exact mG7 0 rfl rfl
  | 50, _ => exact mG7 2 rfl rfl
  | 51, _ => exact mG7 4 rfl rfl
  | 52, _ => exact mG7 6 rfl rfl
  | 53, _ => exact mG7 8 rfl rfl
  | 54, _ => exact mG7 10 rfl rfl
  | 55, _ => exact mG7 12 rfl rfl
  | 56, _ => exact mG7 14 rfl rfl
  | 57, _ => exact mG7 16 rfl rfl
  | 58, _ => exact mG7 18 rfl rfl
  | 59, _ => exact mG7 20 rfl rfl
  | 60, _ => exact mG7 22 rfl rfl
  | 61, _ => exact mG7 24 rfl rfl
  | 62, _ => exact mG7 26 rfl rfl
  | 63, _ => exact mG7 28 rfl rfl
  | 64, _ => exact mG7 30 rfl rfl
  | k + 65, h => omega
theorem cf_12 : mCF 12 RX12 TX12 65 tyX12 := ⟨rfl, rfl, cw_12, by decide +kernel, by decide +kernel, by decide +kernel⟩
theorem f11_10 : mFL RX11 10 11 6 3 0 := ⟨_, _, _, _, cf_11, by decide, (mG3 102 rfl rfl), rfl, fun _ => rfl, fun h => (by cases h)⟩
theorem f11_16 : mFL RX11 16 11 7 3 0 := ⟨_, _, _, _, cf_11, by decide, (mG3 103 rfl rfl), rfl, fun _ => rfl, fun h => (by cases h)⟩
theorem f11_22 : mFL RX11 22 11 10 3 1 := ⟨_, _, _, _, cf_11, by decide, (mG3 106 rfl rfl), rfl, fun h => (by cases h), fun _ => ⟨rfl, rfl⟩⟩
theorem f11_26 : mFL RX11 26 11 11 3 1 := ⟨_, _, _, _, cf_11, by decide, (mG3 107 rfl rfl), rfl, fun h => (by cases h), fun _ => ⟨rfl, rfl⟩⟩
theorem f11_32 : mFL RX11 32 11 0 3 1 := ⟨_, _, _, _, cf_11, by decide, (mG3 96 rfl rfl), rfl, fun h => (by cases h), fun _ => ⟨rfl, rfl⟩⟩
theorem f11_41 : mFL RX11 41 11 1 3 1 := ⟨_, _, _, _, cf_11, by decide, (mG3 97 rfl rfl), rfl, fun h => (by cases h), fun _ => ⟨rfl, rfl⟩⟩
theorem f11_48 : mFL RX11 48 11 2 3 1 := ⟨_, _, _, _, cf_11, by decide, (mG3 98 rfl rfl), rfl, fun h => (by cases h), fun _ => ⟨rfl, rfl⟩⟩
theorem f11_57 : mFL RX11 57 11 3 3 1 := ⟨_, _, _, _, cf_11, by decide, (mG3 99 rfl rfl), rfl, fun h => (by cases h), fun _ => ⟨rfl, rfl⟩⟩
theorem f11_66 : mFL RX11 66 11 4 3 1 := ⟨_, _, _, _, cf_11, by decide, (mG3 100 rfl rfl), rfl, fun h => (by cases h), fun _ => ⟨rfl, rfl⟩⟩
theorem f11_75 : mFL RX11 75 11 5 3 1 := ⟨_, _, _, _, cf_11, by decide, (mG3 101 rfl rfl), rfl, fun h => (by cases h), fun _ => ⟨rfl, rfl⟩⟩
theorem f11_82 : mFL RX11 82 11 8 3 1 := ⟨_, _, _, _, cf_11, by decide, (mG3 104 rfl rfl), rfl, fun h => (by cases h), fun _ => ⟨rfl, rfl⟩⟩
theorem f11_86 : mFL RX11 86 11 9 3 1 := ⟨_, _, _, _, cf_11, by decide, (mG3 105 rfl rfl), rfl, fun h => (by cases h), fun _ => ⟨rfl, rfl⟩⟩
theorem f11_89 : mFL RX11 89 11 12 3 1 := ⟨_, _, _, _, cf_11, by decide, (mG3 108 rfl rfl), rfl, fun h => (by cases h), fun _ => ⟨rfl, rfl⟩⟩
theorem f11_93 : mFL RX11 93 11 15 3 1 := ⟨_, _, _, _, cf_11, by decide, (mG3 111 rfl rfl), rfl, fun h => (by cases h), fun _ => ⟨rfl, rfl⟩⟩
theorem f11_96 : mFL RX11 96 11 16 3 1 := ⟨_, _, _, _, cf_11, by decide, (mG3 112 rfl rfl), rfl, fun h => (by cases h), fun _ => ⟨rfl, rfl⟩⟩
theorem f11_104 : mFL RX11 104 6 2 0 0 := ⟨_, _, _, _, cf_6, by decide, (mG2 35 rfl rfl), rfl, fun _ => rfl, fun h => (by cases h)⟩
theorem f11_116 : mFL RX11 116 11 14 0 0 := ⟨_, _, _, _, cf_11, by decide, (mG3 110 rfl rfl), rfl, fun _ => rfl, fun h => (by cases h)⟩
theorem f11_119 : mFL RX11 119 11 17 0 0 := ⟨_, _, _, _, cf_11, by decide, (mG3 113 rfl rfl), rfl, fun _ => rfl, fun h => (by cases h)⟩
theorem f11_137 : mFL RX11 137 0 0 0 0 := ⟨_, _, _, _, cf_0, by decide, (mG1 80 rfl rfl), rfl, fun _ => rfl, fun h => (by cases h)⟩
theorem f11_140 : mFL RX11 140 0 2 3 2 := ⟨_, _, _, _, cf_0, by decide, (mG1 86 rfl rfl), rfl, fun h => (by cases h), fun h => (by cases h)⟩
theorem f11_144 : mFL RX11 144 0 3 3 2 := ⟨_, _, _, _, cf_0, by decide, (mG1 91 rfl rfl), rfl, fun h => (by cases h), fun h => (by cases h)⟩
theorem f11_147 : mFL RX11 147 0 4 3 2 := ⟨_, _, _, _, cf_0, by decide, (mG1 95 rfl rfl), rfl, fun h => (by cases h), fun h => (by cases h)⟩
theorem f11_150 : mFL RX11 150 4 1 0 0 := ⟨_, _, _, _, cf_4, by decide, (mG2 195 rfl rfl), rfl, fun _ => rfl, fun h => (by cases h)⟩
theorem f11_157 : mFL RX11 157 0 7 3 2 := ⟨_, _, _, _, cf_0, by decide, (mG1 108 rfl rfl), rfl, fun h => (by cases h), fun h => (by cases h)⟩
theorem f11_160 : mFL RX11 160 0 8 3 2 := ⟨_, _, _, _, cf_0, by decide, (mG1 110 rfl rfl), rfl, fun h => (by cases h), fun h => (by cases h)⟩
theorem f11_163 : mFL RX11 163 0 9 3 2 := ⟨_, _, _, _, cf_0, by decide, (mG1 113 rfl rfl), rfl, fun h => (by cases h), fun h => (by cases h)⟩
theorem f11_170 : mFL RX11 170 4 2 0 0 := ⟨_, _, _, _, cf_4, by decide, (mG2 200 rfl rfl), rfl, fun _ => rfl, fun h => (by cases h)⟩
theorem f11_173 : mFL RX11 173 0 10 3 2 := ⟨_, _, _, _, cf_0, by decide, (mG1 115 rfl rfl), rfl, fun h => (by cases h), fun h => (by cases h)⟩
theorem f11_176 : mFL RX11 176 0 11 3 2 := ⟨_, _, _, _, cf_0, by decide, (mG1 118 rfl rfl), rfl, fun h => (by cases h), fun h => (by cases h)⟩
theorem f11_182 : mFL RX11 182 0 15 3 2 := ⟨_, _, _, _, cf_0, by decide, (mG1 136 rfl rfl), rfl, fun h => (by cases h), fun h => (by cases h)⟩
theorem f11_185 : mFL RX11 185 0 16 3 2 := ⟨_, _, _, _, cf_0, by decide, (mG1 139 rfl rfl), rfl, fun h => (by cases h), fun h => (by cases h)⟩
theorem f11_188 : mFL RX11 188 4 3 0 0 := ⟨_, _, _, _, cf_4, by decide, (mG2 207 rfl rfl), rfl, fun _ => rfl, fun h => (by cases h)⟩
theorem f11_195 : mFL RX11 195 9 0 3 2 := ⟨_, _, _, _, cf_9, by decide, (mG2 134 rfl rfl), rfl, fun h => (by cases h), fun h => (by cases h)⟩
theorem f11_198 : mFL RX11 198 0 18 3 2 := ⟨_, _, _, _, cf_0, by decide, (mG1 147 rfl rfl), rfl, fun h => (by cases h), fun h => (by cases h)⟩
theorem f11_221 : mFL RX11 221 11 13 0 0 := ⟨_, _, _, _, cf_11, by decide, (mG3 109 rfl rfl), rfl, fun _ => rfl, fun h => (by cases h)⟩
theorem f11_228 : mFL RX11 228 7 6 0 0 := ⟨_, _, _, _, cf_7, by decide, (mG3 58 rfl rfl), rfl, fun _ => rfl, fun h => (by cases h)⟩
theorem f11_231 : mFL RX11 231 7 7 0 0 := ⟨_, _, _, _, cf_7, by decide, (mG3 60 rfl rfl), rfl, fun _ => rfl, fun h => (by cases h)⟩
theorem f11_234 : mFL RX11 234 7 8 0 0 := ⟨_, _, _, _, cf_7, by decide, (mG3 62 rfl rfl), rfl, fun _ => rfl, fun h => (by cases h)⟩
theorem f11_241 : mFL RX11 241 0 5 0 0 := ⟨_, _, _, _, cf_0, by decide, (mG1 103 rfl rfl), rfl, fun _ => rfl, fun h => (by cases h)⟩
theorem f11_264 : mFL RX11 264 10 10 0 0 := ⟨_, _, _, _, cf_10, by decide, (mG2 228 rfl rfl), rfl, fun _ => rfl, fun h => (by cases h)⟩
theorem f11_267 : mFL RX11 267 10 11 0 0 := ⟨_, _, _, _, cf_10, by decide, (mG2 230 rfl rfl), rfl, fun _ => rfl, fun h => (by cases h)⟩
theorem f11_283 : mFL RX11 283 7 5 0 0 := ⟨_, _, _, _, cf_7, by decide, (mG3 56 rfl rfl), rfl, fun _ => rfl, fun h => (by cases h)⟩
theorem f11_286 : mFL RX11 286 7 4 3 2 := ⟨_, _, _, _, cf_7, by decide, (mG3 54 rfl rfl), rfl, fun h => (by cases h), fun h => (by cases h)⟩
theorem f11_289 : mFL RX11 289 8 3 0 0 := ⟨_, _, _, _, cf_8, by decide, (mG1 207 rfl rfl), rfl, fun _ => rfl, fun h => (by cases h)⟩
theorem f11_292 : mFL RX11 292 8 4 0 0 := ⟨_, _, _, _, cf_8, by decide, (mG1 209 rfl rfl), rfl, fun _ => rfl, fun h => (by cases h)⟩
theorem f11_295 : mFL RX11 295 8 5 0 0 := ⟨_, _, _, _, cf_8, by decide, (mG1 211 rfl rfl), rfl, fun _ => rfl, fun h => (by cases h)⟩
theorem f11_302 : mFL RX11 302 10 12 0 0 := ⟨_, _, _, _, cf_10, by decide, (mG2 232 rfl rfl), rfl, fun _ => rfl, fun h => (by cases h)⟩
theorem f11_305 : mFL RX11 305 10 13 0 0 := ⟨_, _, _, _, cf_10, by decide, (mG2 234 rfl rfl), rfl, fun _ => rfl, fun h => (by cases h)⟩
theorem f11_308 : mFL RX11 308 10 14 0 0 := ⟨_, _, _, _, cf_10, by decide, (mG2 236 rfl rfl), rfl, fun _ => rfl, fun h => (by cases h)⟩
theorem f11_334 : mFL RX11 334 7 9 0 0 := ⟨_, _, _, _, cf_7, by decide, (mG3 64 rfl rfl), rfl, fun _ => rfl, fun h => (by cases h)⟩
theorem f11_337 : mFL RX11 337 7 10 0 0 := ⟨_, _, _, _, cf_7, by decide, (mG3 66 rfl rfl), rfl, fun _ => rfl, fun h => (by cases h)⟩
theorem f11_342 : mFL RX11 342 0 13 0 0 := ⟨_, _, _, _, cf_0, by decide, (mG1 131 rfl rfl), rfl, fun _ => rfl, fun h => (by cases h)⟩
theorem f11_345 : mFL RX11 345 4 0 0 0 := ⟨_, _, _, _, cf_4, by decide, (mG2 191 rfl rfl), rfl, fun _ => rfl, fun h => (by cases h)⟩
theorem f11_351 : mFL RX11 351 8 0 0 0 := ⟨_, _, _, _, cf_8, by decide, (mG1 201 rfl rfl), rfl, fun _ => rfl, fun h => (by cases h)⟩
theorem f0_9 : mFL RX0 9 0 1 3 1 := ⟨_, _, _, _, cf_0, by decide, (mG1 83 rfl rfl), rfl, fun h => (by cases h), fun _ => ⟨rfl, rfl⟩⟩
theorem f0_15 : mFL RX0 15 0 2 3 1 := ⟨_, _, _, _, cf_0, by decide, (mG1 85 rfl rfl), rfl, fun h => (by cases h), fun _ => ⟨rfl, rfl⟩⟩
theorem f0_19 : mFL RX0 19 0 3 3 1 := ⟨_, _, _, _, cf_0, by decide, (mG1 90 rfl rfl), rfl, fun h => (by cases h), fun _ => ⟨rfl, rfl⟩⟩
theorem f0_22 : mFL RX0 22 0 4 3 1 := ⟨_, _, _, _, cf_0, by decide, (mG1 94 rfl rfl), rfl, fun h => (by cases h), fun _ => ⟨rfl, rfl⟩⟩
theorem f0_25 : mFL RX0 25 0 6 3 1 := ⟨_, _, _, _, cf_0, by decide, (mG1 104 rfl rfl), rfl, fun h => (by cases h), fun _ => ⟨rfl, rfl⟩⟩
theorem f0_28 : mFL RX0 28 0 7 3 1 := ⟨_, _, _, _, cf_0, by decide, (mG1 106 rfl rfl), rfl, fun h => (by cases h), fun _ => ⟨rfl, rfl⟩⟩
theorem f0_31 : mFL RX0 31 0 8 3 1 := ⟨_, _, _, _, cf_0, by decide, (mG1 109 rfl rfl), rfl, fun h => (by cases h), fun _ => ⟨rfl, rfl⟩⟩
theorem f0_34 : mFL RX0 34 0 9 3 1 := ⟨_, _, _, _, cf_0, by decide, (mG1 111 rfl rfl), rfl, fun h => (by cases h), fun _ => ⟨rfl, rfl⟩⟩
theorem f0_37 : mFL RX0 37 0 10 3 1 := ⟨_, _, _, _, cf_0, by decide, (mG1 114 rfl rfl), rfl, fun h => (by cases h), fun _ => ⟨rfl, rfl⟩⟩
theorem f0_40 : mFL RX0 40 0 11 3 1 := ⟨_, _, _, _, cf_0, by decide, (mG1 117 rfl rfl), rfl, fun h => (by cases h), fun _ => ⟨rfl, rfl⟩⟩
theorem f0_43 : mFL RX0 43 0 14 3 1 := ⟨_, _, _, _, cf_0, by decide, (mG1 132 rfl rfl), rfl, fun h => (by cases h), fun _ => ⟨rfl, rfl⟩⟩
theorem f0_46 : mFL RX0 46 0 15 3 1 := ⟨_, _, _, _, cf_0, by decide, (mG1 134 rfl rfl), rfl, fun h => (by cases h), fun _ => ⟨rfl, rfl⟩⟩
theorem f0_49 : mFL RX0 49 0 16 3 1 := ⟨_, _, _, _, cf_0, by decide, (mG1 138 rfl rfl), rfl, fun h => (by cases h), fun _ => ⟨rfl, rfl⟩⟩
theorem f0_52 : mFL RX0 52 0 17 3 1 := ⟨_, _, _, _, cf_0, by decide, (mG1 142 rfl rfl), rfl, fun h => (by cases h), fun _ => ⟨rfl, rfl⟩⟩
theorem f0_55 : mFL RX0 55 0 18 3 1 := ⟨_, _, _, _, cf_0, by decide, (mG1 145 rfl rfl), rfl, fun h => (by cases h), fun _ => ⟨rfl, rfl⟩⟩
theorem f0_61 : mFL RX0 61 0 19 3 1 := ⟨_, _, _, _, cf_0, by decide, (mG1 150 rfl rfl), rfl, fun h => (by cases h), fun _ => ⟨rfl, rfl⟩⟩
theorem f0_65 : mFL RX0 65 0 0 0 0 := ⟨_, _, _, _, cf_0, by decide, (mG1 78 rfl rfl), rfl, fun _ => rfl, fun h => (by cases h)⟩
theorem f0_69 : mFL RX0 69 0 5 0 0 := ⟨_, _, _, _, cf_0, by decide, (mG1 98 rfl rfl), rfl, fun _ => rfl, fun h => (by cases h)⟩
theorem f0_72 : mFL RX0 72 0 13 0 0 := ⟨_, _, _, _, cf_0, by decide, (mG1 126 rfl rfl), rfl, fun _ => rfl, fun h => (by cases h)⟩
theorem f0_75 : mFL RX0 75 0 12 0 0 := ⟨_, _, _, _, cf_0, by decide, (mG1 121 rfl rfl), rfl, fun _ => rfl, fun h => (by cases h)⟩
theorem f0_81 : mFL RX0 81 4 1 0 0 := ⟨_, _, _, _, cf_4, by decide, (mG2 196 rfl rfl), rfl, fun _ => rfl, fun h => (by cases h)⟩
theorem f0_86 : mFL RX0 86 2 7 3 2 := ⟨_, _, _, _, cf_2, by decide, (mG1 58 rfl rfl), rfl, fun h => (by cases h), fun h => (by cases h)⟩
theorem f0_89 : mFL RX0 89 4 0 0 0 := ⟨_, _, _, _, cf_4, by decide, (mG2 190 rfl rfl), rfl, fun _ => rfl, fun h => (by cases h)⟩
theorem f0_96 : mFL RX0 96 2 6 3 2 := ⟨_, _, _, _, cf_2, by decide, (mG1 56 rfl rfl), rfl, fun h => (by cases h), fun h => (by cases h)⟩
theorem f0_99 : mFL RX0 99 4 2 0 0 := ⟨_, _, _, _, cf_4, by decide, (mG2 201 rfl rfl), rfl, fun _ => rfl, fun h => (by cases h)⟩
theorem f0_102 : mFL RX0 102 2 0 0 0 := ⟨_, _, _, _, cf_2, by decide, (mG1 46 rfl rfl), rfl, fun _ => rfl, fun h => (by cases h)⟩
theorem f1_9 : mFL RX1 9 1 0 3 1 := ⟨_, _, _, _, cf_1, by decide, (mG2 172 rfl rfl), rfl, fun h => (by cases h), fun _ => ⟨rfl, rfl⟩⟩
theorem f1_15 : mFL RX1 15 4 0 0 0 := ⟨_, _, _, _, cf_4, by decide, (mG2 188 rfl rfl), rfl, fun _ => rfl, fun h => (by cases h)⟩
theorem f1_21 : mFL RX1 21 4 1 0 0 := ⟨_, _, _, _, cf_4, by decide, (mG2 192 rfl rfl), rfl, fun _ => rfl, fun h => (by cases h)⟩
theorem f1_24 : mFL RX1 24 4 2 0 0 := ⟨_, _, _, _, cf_4, by decide, (mG2 198 rfl rfl), rfl, fun _ => rfl, fun h => (by cases h)⟩
theorem f1_27 : mFL RX1 27 0 13 0 0 := ⟨_, _, _, _, cf_0, by decide, (mG1 127 rfl rfl), rfl, fun _ => rfl, fun h => (by cases h)⟩
theorem f1_38 : mFL RX1 38 4 3 0 0 := ⟨_, _, _, _, cf_4, by decide, (mG2 203 rfl rfl), rfl, fun _ => rfl, fun h => (by cases h)⟩
theorem f1_45 : mFL RX1 45 0 12 0 0 := ⟨_, _, _, _, cf_0, by decide, (mG1 122 rfl rfl), rfl, fun _ => rfl, fun h => (by cases h)⟩
theorem f2_11 : mFL RX2 11 2 0 0 0 := ⟨_, _, _, _, cf_2, by decide, (mG1 45 rfl rfl), rfl, fun _ => rfl, fun h => (by cases h)⟩
theorem f2_17 : mFL RX2 17 2 3 3 1 := ⟨_, _, _, _, cf_2, by decide, (mG1 52 rfl rfl), rfl, fun h => (by cases h), fun _ => ⟨rfl, rfl⟩⟩
theorem f2_21 : mFL RX2 21 2 5 3 1 := ⟨_, _, _, _, cf_2, by decide, (mG1 54 rfl rfl), rfl, fun h => (by cases h), fun _ => ⟨rfl, rfl⟩⟩
theorem f2_24 : mFL RX2 24 2 6 3 1 := ⟨_, _, _, _, cf_2, by decide, (mG1 55 rfl rfl), rfl, fun h => (by cases h), fun _ => ⟨rfl, rfl⟩⟩
theorem f2_27 : mFL RX2 27 2 7 3 1 := ⟨_, _, _, _, cf_2, by decide, (mG1 57 rfl rfl), rfl, fun h => (by cases h), fun _ => ⟨rfl, rfl⟩⟩
theorem f2_30 : mFL RX2 30 2 1 2 0 := ⟨_, _, _, _, cf_2, by decide, (mG1 48 rfl rfl), rfl, fun _ => rfl, fun h => (by cases h)⟩
theorem f2_34 : mFL RX2 34 2 2 2 0 := ⟨_, _, _, _, cf_2, by decide, (mG1 50 rfl rfl), rfl, fun _ => rfl, fun h => (by cases h)⟩
theorem f2_37 : mFL RX2 37 2 4 0 0 := ⟨_, _, _, _, cf_2, by decide, (mG1 53 rfl rfl), rfl, fun _ => rfl, fun h => (by cases h)⟩
theorem f2_40 : mFL RX2 40 0 9 3 2 := ⟨_, _, _, _, cf_0, by decide, (mG1 112 rfl rfl), rfl, fun h => (by cases h), fun h => (by cases h)⟩
theorem f2_45 : mFL RX2 45 0 7 3 2 := ⟨_, _, _, _, cf_0, by decide, (mG1 107 rfl rfl), rfl, fun h => (by cases h), fun h => (by cases h)⟩
theorem f3_7 : mFL RX3 7 3 1 3 1 := ⟨_, _, _, _, cf_3, by decide, (mG2 84 rfl rfl), rfl, fun h => (by cases h), fun _ => ⟨rfl, rfl⟩⟩
theorem f3_13 : mFL RX3 13 3 0 3 1 := ⟨_, _, _, _, cf_3, by decide, (mG2 83 rfl rfl), rfl, fun h => (by cases h), fun _ => ⟨rfl, rfl⟩⟩
theorem f3_17 : mFL RX3 17 3 6 3 0 := ⟨_, _, _, _, cf_3, by decide, (mG2 89 rfl rfl), rfl, fun _ => rfl, fun h => (by cases h)⟩
theorem f3_26 : mFL RX3 26 3 2 0 0 := ⟨_, _, _, _, cf_3, by decide, (mG2 85 rfl rfl), rfl, fun _ => rfl, fun h => (by cases h)⟩
theorem f3_30 : mFL RX3 30 3 3 0 0 := ⟨_, _, _, _, cf_3, by decide, (mG2 86 rfl rfl), rfl, fun _ => rfl, fun h => (by cases h)⟩
theorem f3_33 : mFL RX3 33 3 4 0 0 := ⟨_, _, _, _, cf_3, by decide, (mG2 87 rfl rfl), rfl, fun _ => rfl, fun h => (by cases h)⟩
theorem f3_36 : mFL RX3 36 3 5 2 0 := ⟨_, _, _, _, cf_3, by decide, (mG2 88 rfl rfl), rfl, fun _ => rfl, fun h => (by cases h)⟩
theorem f3_81 : mFL RX3 81 6 4 0 0 := ⟨_, _, _, _, cf_6, by decide, (mG2 40 rfl rfl), rfl, fun _ => rfl, fun h => (by cases h)⟩
theorem f3_84 : mFL RX3 84 6 6 0 0 := ⟨_, _, _, _, cf_6, by decide, (mG2 44 rfl rfl), rfl, fun _ => rfl, fun h => (by cases h)⟩
theorem f3_91 : mFL RX3 91 6 7 0 0 := ⟨_, _, _, _, cf_6, by decide, (mG2 48 rfl rfl), rfl, fun _ => rfl, fun h => (by cases h)⟩
theorem f4_7 : mFL RX4 7 4 0 0 0 := ⟨_, _, _, _, cf_4, by decide, (mG2 189 rfl rfl), rfl, fun _ => rfl, fun h => (by cases h)⟩
theorem f4_13 : mFL RX4 13 4 1 0 0 := ⟨_, _, _, _, cf_4, by decide, (mG2 193 rfl rfl), rfl, fun _ => rfl, fun h => (by cases h)⟩
theorem f4_16 : mFL RX4 16 4 2 0 0 := ⟨_, _, _, _, cf_4, by decide, (mG2 199 rfl rfl), rfl, fun _ => rfl, fun h => (by cases h)⟩
theorem f4_19 : mFL RX4 19 4 3 0 0 := ⟨_, _, _, _, cf_4, by decide, (mG2 202 rfl rfl), rfl, fun _ => rfl, fun h => (by cases h)⟩
theorem f5_9 : mFL RX5 9 5 0 3 1 := ⟨_, _, _, _, cf_5, by decide, (mG2 105 rfl rfl), rfl, fun h => (by cases h), fun _ => ⟨rfl, rfl⟩⟩
theorem f5_15 : mFL RX5 15 5 2 3 0 := ⟨_, _, _, _, cf_5, by decide, (mG2 107 rfl rfl), rfl, fun _ => rfl, fun h => (by cases h)⟩
theorem f5_19 : mFL RX5 19 5 3 3 0 := ⟨_, _, _, _, cf_5, by decide, (mG2 108 rfl rfl), rfl, fun _ => rfl, fun h => (by cases h)⟩
theorem f5_25 : mFL RX5 25 0 19 3 2 := ⟨_, _, _, _, cf_0, by decide, (mG1 149 rfl rfl), rfl, fun h => (by cases h), fun h => (by cases h)⟩
theorem f5_34 : mFL RX5 34 5 1 3 1 := ⟨_, _, _, _, cf_5, by decide, (mG2 106 rfl rfl), rfl, fun h => (by cases h), fun _ => ⟨rfl, rfl⟩⟩
theorem f5_41 : mFL RX5 41 5 4 0 0 := ⟨_, _, _, _, cf_5, by decide, (mG2 109 rfl rfl), rfl, fun _ => rfl, fun h => (by cases h)⟩
theorem f5_50 : mFL RX5 50 6 4 0 0 := ⟨_, _, _, _, cf_6, by decide, (mG2 38 rfl rfl), rfl, fun _ => rfl, fun h => (by cases h)⟩
theorem f5_63 : mFL RX5 63 6 7 0 0 := ⟨_, _, _, _, cf_6, by decide, (mG2 46 rfl rfl), rfl, fun _ => rfl, fun h => (by cases h)⟩
theorem f5_91 : mFL RX5 91 0 0 0 0 := ⟨_, _, _, _, cf_0, by decide, (mG1 79 rfl rfl), rfl, fun _ => rfl, fun h => (by cases h)⟩
theorem f5_97 : mFL RX5 97 6 8 1 0 := ⟨_, _, _, _, cf_6, by decide, (mG2 49 rfl rfl), rfl, fun _ => rfl, fun h => (by cases h)⟩
theorem f5_111 : mFL RX5 111 0 2 3 2 := ⟨_, _, _, _, cf_0, by decide, (mG1 87 rfl rfl), rfl, fun h => (by cases h), fun h => (by cases h)⟩
theorem f5_115 : mFL RX5 115 5 5 0 0 := ⟨_, _, _, _, cf_5, by decide, (mG2 110 rfl rfl), rfl, fun _ => rfl, fun h => (by cases h)⟩
theorem f5_121 : mFL RX5 121 0 3 3 2 := ⟨_, _, _, _, cf_0, by decide, (mG1 92 rfl rfl), rfl, fun h => (by cases h), fun h => (by cases h)⟩
theorem f5_124 : mFL RX5 124 0 1 3 2 := ⟨_, _, _, _, cf_0, by decide, (mG1 84 rfl rfl), rfl, fun h => (by cases h), fun h => (by cases h)⟩
theorem f5_128 : mFL RX5 128 0 5 0 0 := ⟨_, _, _, _, cf_0, by decide, (mG1 102 rfl rfl), rfl, fun _ => rfl, fun h => (by cases h)⟩
theorem f5_135 : mFL RX5 135 5 6 0 0 := ⟨_, _, _, _, cf_5, by decide, (mG2 111 rfl rfl), rfl, fun _ => rfl, fun h => (by cases h)⟩
theorem f5_142 : mFL RX5 142 0 6 3 2 := ⟨_, _, _, _, cf_0, by decide, (mG1 105 rfl rfl), rfl, fun h => (by cases h), fun h => (by cases h)⟩
theorem f5_145 : mFL RX5 145 0 10 3 2 := ⟨_, _, _, _, cf_0, by decide, (mG1 116 rfl rfl), rfl, fun h => (by cases h), fun h => (by cases h)⟩
theorem f5_148 : mFL RX5 148 0 11 3 2 := ⟨_, _, _, _, cf_0, by decide, (mG1 120 rfl rfl), rfl, fun h => (by cases h), fun h => (by cases h)⟩
theorem f5_151 : mFL RX5 151 0 13 0 0 := ⟨_, _, _, _, cf_0, by decide, (mG1 129 rfl rfl), rfl, fun _ => rfl, fun h => (by cases h)⟩
theorem f5_154 : mFL RX5 154 0 15 3 2 := ⟨_, _, _, _, cf_0, by decide, (mG1 137 rfl rfl), rfl, fun h => (by cases h), fun h => (by cases h)⟩
theorem f5_157 : mFL RX5 157 0 16 3 2 := ⟨_, _, _, _, cf_0, by decide, (mG1 140 rfl rfl), rfl, fun h => (by cases h), fun h => (by cases h)⟩
theorem f5_160 : mFL RX5 160 0 17 3 2 := ⟨_, _, _, _, cf_0, by decide, (mG1 144 rfl rfl), rfl, fun h => (by cases h), fun h => (by cases h)⟩
theorem f5_163 : mFL RX5 163 0 18 3 2 := ⟨_, _, _, _, cf_0, by decide, (mG1 148 rfl rfl), rfl, fun h => (by cases h), fun h => (by cases h)⟩
theorem f5_172 : mFL RX5 172 0 14 3 2 := ⟨_, _, _, _, cf_0, by decide, (mG1 133 rfl rfl), rfl, fun h => (by cases h), fun h => (by cases h)⟩
theorem f5_185 : mFL RX5 185 2 2 2 0 := ⟨_, _, _, _, cf_2, by decide, (mG1 51 rfl rfl), rfl, fun _ => rfl, fun h => (by cases h)⟩
theorem f5_195 : mFL RX5 195 2 1 2 0 := ⟨_, _, _, _, cf_2, by decide, (mG1 49 rfl rfl), rfl, fun _ => rfl, fun h => (by cases h)⟩
theorem f5_198 : mFL RX5 198 2 0 0 0 := ⟨_, _, _, _, cf_2, by decide, (mG1 47 rfl rfl), rfl, fun _ => rfl, fun h => (by cases h)⟩
theorem f5_201 : mFL RX5 201 8 0 0 0 := ⟨_, _, _, _, cf_8, by decide, (mG1 200 rfl rfl), rfl, fun _ => rfl, fun h => (by cases h)⟩
theorem f5_208 : mFL RX5 208 6 6 0 0 := ⟨_, _, _, _, cf_6, by decide, (mG2 45 rfl rfl), rfl, fun _ => rfl, fun h => (by cases h)⟩
theorem f5_215 : mFL RX5 215 6 5 0 0 := ⟨_, _, _, _, cf_6, by decide, (mG2 42 rfl rfl), rfl, fun _ => rfl, fun h => (by cases h)⟩
theorem f6_11 : mFL RX6 11 6 0 3 1 := ⟨_, _, _, _, cf_6, by decide, (mG2 33 rfl rfl), rfl, fun h => (by cases h), fun _ => ⟨rfl, rfl⟩⟩
theorem f6_15 : mFL RX6 15 6 1 3 1 := ⟨_, _, _, _, cf_6, by decide, (mG2 34 rfl rfl), rfl, fun h => (by cases h), fun _ => ⟨rfl, rfl⟩⟩
theorem f6_29 : mFL RX6 29 6 2 0 0 := ⟨_, _, _, _, cf_6, by decide, (mG2 36 rfl rfl), rfl, fun _ => rfl, fun h => (by cases h)⟩
theorem f6_33 : mFL RX6 33 6 3 0 0 := ⟨_, _, _, _, cf_6, by decide, (mG2 37 rfl rfl), rfl, fun _ => rfl, fun h => (by cases h)⟩
theorem f6_39 : mFL RX6 39 6 5 0 0 := ⟨_, _, _, _, cf_6, by decide, (mG2 41 rfl rfl), rfl, fun _ => rfl, fun h => (by cases h)⟩
theorem f6_42 : mFL RX6 42 6 7 0 0 := ⟨_, _, _, _, cf_6, by decide, (mG2 47 rfl rfl), rfl, fun _ => rfl, fun h => (by cases h)⟩
theorem f6_45 : mFL RX6 45 6 4 0 0 := ⟨_, _, _, _, cf_6, by decide, (mG2 39 rfl rfl), rfl, fun _ => rfl, fun h => (by cases h)⟩
theorem f6_61 : mFL RX6 61 6 6 0 0 := ⟨_, _, _, _, cf_6, by decide, (mG2 43 rfl rfl), rfl, fun _ => rfl, fun h => (by cases h)⟩
theorem f6_67 : mFL RX6 67 6 8 1 0 := ⟨_, _, _, _, cf_6, by decide, (mG2 50 rfl rfl), rfl, fun _ => rfl, fun h => (by cases h)⟩
theorem f7_12 : mFL RX7 12 7 1 3 1 := ⟨_, _, _, _, cf_7, by decide, (mG3 50 rfl rfl), rfl, fun h => (by cases h), fun _ => ⟨rfl, rfl⟩⟩
theorem f7_18 : mFL RX7 18 7 2 3 1 := ⟨_, _, _, _, cf_7, by decide, (mG3 51 rfl rfl), rfl, fun h => (by cases h), fun _ => ⟨rfl, rfl⟩⟩
theorem f7_22 : mFL RX7 22 7 3 3 1 := ⟨_, _, _, _, cf_7, by decide, (mG3 52 rfl rfl), rfl, fun h => (by cases h), fun _ => ⟨rfl, rfl⟩⟩
theorem f7_26 : mFL RX7 26 7 4 3 1 := ⟨_, _, _, _, cf_7, by decide, (mG3 53 rfl rfl), rfl, fun h => (by cases h), fun _ => ⟨rfl, rfl⟩⟩
theorem f7_29 : mFL RX7 29 7 0 3 1 := ⟨_, _, _, _, cf_7, by decide, (mG3 49 rfl rfl), rfl, fun h => (by cases h), fun _ => ⟨rfl, rfl⟩⟩
theorem f7_33 : mFL RX7 33 7 6 0 0 := ⟨_, _, _, _, cf_7, by decide, (mG3 57 rfl rfl), rfl, fun _ => rfl, fun h => (by cases h)⟩
theorem f7_37 : mFL RX7 37 7 7 0 0 := ⟨_, _, _, _, cf_7, by decide, (mG3 59 rfl rfl), rfl, fun _ => rfl, fun h => (by cases h)⟩
theorem f7_46 : mFL RX7 46 8 0 0 0 := ⟨_, _, _, _, cf_8, by decide, (mG1 199 rfl rfl), rfl, fun _ => rfl, fun h => (by cases h)⟩
theorem f7_51 : mFL RX7 51 4 3 0 0 := ⟨_, _, _, _, cf_4, by decide, (mG2 204 rfl rfl), rfl, fun _ => rfl, fun h => (by cases h)⟩
theorem f7_54 : mFL RX7 54 8 1 3 2 := ⟨_, _, _, _, cf_8, by decide, (mG1 203 rfl rfl), rfl, fun h => (by cases h), fun h => (by cases h)⟩
theorem f7_56 : mFL RX7 56 8 2 3 2 := ⟨_, _, _, _, cf_8, by decide, (mG1 205 rfl rfl), rfl, fun h => (by cases h), fun h => (by cases h)⟩
theorem f7_63 : mFL RX7 63 7 8 0 0 := ⟨_, _, _, _, cf_7, by decide, (mG3 61 rfl rfl), rfl, fun _ => rfl, fun h => (by cases h)⟩
theorem f7_66 : mFL RX7 66 7 5 0 0 := ⟨_, _, _, _, cf_7, by decide, (mG3 55 rfl rfl), rfl, fun _ => rfl, fun h => (by cases h)⟩
theorem f7_73 : mFL RX7 73 0 5 0 0 := ⟨_, _, _, _, cf_0, by decide, (mG1 101 rfl rfl), rfl, fun _ => rfl, fun h => (by cases h)⟩
theorem f7_94 : mFL RX7 94 0 13 0 0 := ⟨_, _, _, _, cf_0, by decide, (mG1 128 rfl rfl), rfl, fun _ => rfl, fun h => (by cases h)⟩
theorem f7_103 : mFL RX7 103 7 11 0 0 := ⟨_, _, _, _, cf_7, by decide, (mG3 67 rfl rfl), rfl, fun _ => rfl, fun h => (by cases h)⟩
theorem f7_106 : mFL RX7 106 7 9 0 0 := ⟨_, _, _, _, cf_7, by decide, (mG3 63 rfl rfl), rfl, fun _ => rfl, fun h => (by cases h)⟩
theorem f7_109 : mFL RX7 109 7 10 0 0 := ⟨_, _, _, _, cf_7, by decide, (mG3 65 rfl rfl), rfl, fun _ => rfl, fun h => (by cases h)⟩
theorem f7_112 : mFL RX7 112 0 0 0 0 := ⟨_, _, _, _, cf_0, by decide, (mG1 81 rfl rfl), rfl, fun _ => rfl, fun h => (by cases h)⟩
theorem f7_128 : mFL RX7 128 0 2 3 2 := ⟨_, _, _, _, cf_0, by decide, (mG1 88 rfl rfl), rfl, fun h => (by cases h), fun h => (by cases h)⟩
theorem f7_131 : mFL RX7 131 0 4 3 2 := ⟨_, _, _, _, cf_0, by decide, (mG1 96 rfl rfl), rfl, fun h => (by cases h), fun h => (by cases h)⟩
theorem f7_134 : mFL RX7 134 0 12 0 0 := ⟨_, _, _, _, cf_0, by decide, (mG1 124 rfl rfl), rfl, fun _ => rfl, fun h => (by cases h)⟩
theorem f7_137 : mFL RX7 137 4 1 0 0 := ⟨_, _, _, _, cf_4, by decide, (mG2 197 rfl rfl), rfl, fun _ => rfl, fun h => (by cases h)⟩
theorem f8_9 : mFL RX8 9 8 1 3 1 := ⟨_, _, _, _, cf_8, by decide, (mG1 202 rfl rfl), rfl, fun h => (by cases h), fun _ => ⟨rfl, rfl⟩⟩
theorem f8_15 : mFL RX8 15 8 2 3 1 := ⟨_, _, _, _, cf_8, by decide, (mG1 204 rfl rfl), rfl, fun h => (by cases h), fun _ => ⟨rfl, rfl⟩⟩
theorem f8_18 : mFL RX8 18 8 0 0 0 := ⟨_, _, _, _, cf_8, by decide, (mG1 198 rfl rfl), rfl, fun _ => rfl, fun h => (by cases h)⟩
theorem f8_22 : mFL RX8 22 8 3 0 0 := ⟨_, _, _, _, cf_8, by decide, (mG1 206 rfl rfl), rfl, fun _ => rfl, fun h => (by cases h)⟩
theorem f8_25 : mFL RX8 25 8 4 0 0 := ⟨_, _, _, _, cf_8, by decide, (mG1 208 rfl rfl), rfl, fun _ => rfl, fun h => (by cases h)⟩
theorem f8_28 : mFL RX8 28 8 5 0 0 := ⟨_, _, _, _, cf_8, by decide, (mG1 210 rfl rfl), rfl, fun _ => rfl, fun h => (by cases h)⟩
theorem f9_11 : mFL RX9 11 9 0 3 1 := ⟨_, _, _, _, cf_9, by decide, (mG2 133 rfl rfl), rfl, fun h => (by cases h), fun _ => ⟨rfl, rfl⟩⟩
theorem f9_15 : mFL RX9 15 9 1 3 1 := ⟨_, _, _, _, cf_9, by decide, (mG2 136 rfl rfl), rfl, fun h => (by cases h), fun _ => ⟨rfl, rfl⟩⟩
theorem f9_18 : mFL RX9 18 9 2 3 1 := ⟨_, _, _, _, cf_9, by decide, (mG2 137 rfl rfl), rfl, fun h => (by cases h), fun _ => ⟨rfl, rfl⟩⟩
theorem f9_21 : mFL RX9 21 9 3 3 1 := ⟨_, _, _, _, cf_9, by decide, (mG2 138 rfl rfl), rfl, fun h => (by cases h), fun _ => ⟨rfl, rfl⟩⟩
theorem f9_24 : mFL RX9 24 9 4 3 1 := ⟨_, _, _, _, cf_9, by decide, (mG2 139 rfl rfl), rfl, fun h => (by cases h), fun _ => ⟨rfl, rfl⟩⟩
theorem f9_27 : mFL RX9 27 9 7 3 1 := ⟨_, _, _, _, cf_9, by decide, (mG2 142 rfl rfl), rfl, fun h => (by cases h), fun _ => ⟨rfl, rfl⟩⟩
theorem f9_30 : mFL RX9 30 9 8 3 1 := ⟨_, _, _, _, cf_9, by decide, (mG2 143 rfl rfl), rfl, fun h => (by cases h), fun _ => ⟨rfl, rfl⟩⟩
theorem f9_33 : mFL RX9 33 9 9 3 1 := ⟨_, _, _, _, cf_9, by decide, (mG2 144 rfl rfl), rfl, fun h => (by cases h), fun _ => ⟨rfl, rfl⟩⟩
theorem f9_36 : mFL RX9 36 0 13 0 0 := ⟨_, _, _, _, cf_0, by decide, (mG1 125 rfl rfl), rfl, fun _ => rfl, fun h => (by cases h)⟩
theorem f9_42 : mFL RX9 42 0 17 3 2 := ⟨_, _, _, _, cf_0, by decide, (mG1 143 rfl rfl), rfl, fun h => (by cases h), fun h => (by cases h)⟩
theorem f9_45 : mFL RX9 45 0 18 3 2 := ⟨_, _, _, _, cf_0, by decide, (mG1 146 rfl rfl), rfl, fun h => (by cases h), fun h => (by cases h)⟩
theorem f9_48 : mFL RX9 48 9 5 0 0 := ⟨_, _, _, _, cf_9, by decide, (mG2 140 rfl rfl), rfl, fun _ => rfl, fun h => (by cases h)⟩
theorem f9_51 : mFL RX9 51 0 5 0 0 := ⟨_, _, _, _, cf_0, by decide, (mG1 99 rfl rfl), rfl, fun _ => rfl, fun h => (by cases h)⟩
theorem f9_62 : mFL RX9 62 0 15 3 2 := ⟨_, _, _, _, cf_0, by decide, (mG1 135 rfl rfl), rfl, fun h => (by cases h), fun h => (by cases h)⟩
theorem f9_73 : mFL RX9 73 4 3 0 0 := ⟨_, _, _, _, cf_4, by decide, (mG2 205 rfl rfl), rfl, fun _ => rfl, fun h => (by cases h)⟩
theorem f9_78 : mFL RX9 78 9 6 0 0 := ⟨_, _, _, _, cf_9, by decide, (mG2 141 rfl rfl), rfl, fun _ => rfl, fun h => (by cases h)⟩
theorem f10_12 : mFL RX10 12 10 2 3 1 := ⟨_, _, _, _, cf_10, by decide, (mG2 219 rfl rfl), rfl, fun h => (by cases h), fun _ => ⟨rfl, rfl⟩⟩
theorem f10_18 : mFL RX10 18 10 3 3 1 := ⟨_, _, _, _, cf_10, by decide, (mG2 220 rfl rfl), rfl, fun h => (by cases h), fun _ => ⟨rfl, rfl⟩⟩
theorem f10_21 : mFL RX10 21 10 4 3 1 := ⟨_, _, _, _, cf_10, by decide, (mG2 221 rfl rfl), rfl, fun h => (by cases h), fun _ => ⟨rfl, rfl⟩⟩
theorem f10_25 : mFL RX10 25 10 5 3 1 := ⟨_, _, _, _, cf_10, by decide, (mG2 222 rfl rfl), rfl, fun h => (by cases h), fun _ => ⟨rfl, rfl⟩⟩
theorem f10_28 : mFL RX10 28 10 9 3 1 := ⟨_, _, _, _, cf_10, by decide, (mG2 226 rfl rfl), rfl, fun h => (by cases h), fun _ => ⟨rfl, rfl⟩⟩
theorem f10_31 : mFL RX10 31 10 15 3 1 := ⟨_, _, _, _, cf_10, by decide, (mG2 237 rfl rfl), rfl, fun h => (by cases h), fun _ => ⟨rfl, rfl⟩⟩
theorem f10_34 : mFL RX10 34 10 16 3 1 := ⟨_, _, _, _, cf_10, by decide, (mG2 238 rfl rfl), rfl, fun h => (by cases h), fun _ => ⟨rfl, rfl⟩⟩
theorem f10_37 : mFL RX10 37 10 0 3 1 := ⟨_, _, _, _, cf_10, by decide, (mG2 217 rfl rfl), rfl, fun h => (by cases h), fun _ => ⟨rfl, rfl⟩⟩
theorem f10_41 : mFL RX10 41 10 1 3 0 := ⟨_, _, _, _, cf_10, by decide, (mG2 218 rfl rfl), rfl, fun _ => rfl, fun h => (by cases h)⟩
theorem f10_45 : mFL RX10 45 10 7 2 0 := ⟨_, _, _, _, cf_10, by decide, (mG2 224 rfl rfl), rfl, fun _ => rfl, fun h => (by cases h)⟩
theorem f10_53 : mFL RX10 53 10 6 0 0 := ⟨_, _, _, _, cf_10, by decide, (mG2 223 rfl rfl), rfl, fun _ => rfl, fun h => (by cases h)⟩
theorem f10_61 : mFL RX10 61 0 5 0 0 := ⟨_, _, _, _, cf_0, by decide, (mG1 100 rfl rfl), rfl, fun _ => rfl, fun h => (by cases h)⟩
theorem f10_66 : mFL RX10 66 0 12 0 0 := ⟨_, _, _, _, cf_0, by decide, (mG1 123 rfl rfl), rfl, fun _ => rfl, fun h => (by cases h)⟩
theorem f10_69 : mFL RX10 69 4 1 0 0 := ⟨_, _, _, _, cf_4, by decide, (mG2 194 rfl rfl), rfl, fun _ => rfl, fun h => (by cases h)⟩
theorem f10_72 : mFL RX10 72 10 8 0 0 := ⟨_, _, _, _, cf_10, by decide, (mG2 225 rfl rfl), rfl, fun _ => rfl, fun h => (by cases h)⟩
theorem f10_75 : mFL RX10 75 4 3 0 0 := ⟨_, _, _, _, cf_4, by decide, (mG2 206 rfl rfl), rfl, fun _ => rfl, fun h => (by cases h)⟩
theorem f10_100 : mFL RX10 100 0 11 3 2 := ⟨_, _, _, _, cf_0, by decide, (mG1 119 rfl rfl), rfl, fun h => (by cases h), fun h => (by cases h)⟩
theorem f10_103 : mFL RX10 103 0 0 0 0 := ⟨_, _, _, _, cf_0, by decide, (mG1 82 rfl rfl), rfl, fun _ => rfl, fun h => (by cases h)⟩
theorem f10_112 : mFL RX10 112 0 2 3 2 := ⟨_, _, _, _, cf_0, by decide, (mG1 89 rfl rfl), rfl, fun h => (by cases h), fun h => (by cases h)⟩
theorem f10_115 : mFL RX10 115 0 4 3 2 := ⟨_, _, _, _, cf_0, by decide, (mG1 97 rfl rfl), rfl, fun h => (by cases h), fun h => (by cases h)⟩
theorem f10_126 : mFL RX10 126 10 10 0 0 := ⟨_, _, _, _, cf_10, by decide, (mG2 227 rfl rfl), rfl, fun _ => rfl, fun h => (by cases h)⟩
theorem f10_129 : mFL RX10 129 10 11 0 0 := ⟨_, _, _, _, cf_10, by decide, (mG2 229 rfl rfl), rfl, fun _ => rfl, fun h => (by cases h)⟩
theorem f10_143 : mFL RX10 143 10 12 0 0 := ⟨_, _, _, _, cf_10, by decide, (mG2 231 rfl rfl), rfl, fun _ => rfl, fun h => (by cases h)⟩
theorem f10_146 : mFL RX10 146 10 13 0 0 := ⟨_, _, _, _, cf_10, by decide, (mG2 233 rfl rfl), rfl, fun _ => rfl, fun h => (by cases h)⟩
theorem f10_149 : mFL RX10 149 10 14 0 0 := ⟨_, _, _, _, cf_10, by decide, (mG2 235 rfl rfl), rfl, fun _ => rfl, fun h => (by cases h)⟩
theorem f10_160 : mFL RX10 160 0 13 0 0 := ⟨_, _, _, _, cf_0, by decide, (mG1 130 rfl rfl), rfl, fun _ => rfl, fun h => (by cases h)⟩
theorem f10_163 : mFL RX10 163 10 17 0 0 := ⟨_, _, _, _, cf_10, by decide, (mG2 239 rfl rfl), rfl, fun _ => rfl, fun h => (by cases h)⟩
theorem f10_166 : mFL RX10 166 10 18 0 0 := ⟨_, _, _, _, cf_10, by decide, (mG3 0 rfl rfl), rfl, fun _ => rfl, fun h => (by cases h)⟩
theorem f10_173 : mFL RX10 173 0 3 3 2 := ⟨_, _, _, _, cf_0, by decide, (mG1 93 rfl rfl), rfl, fun h => (by cases h), fun h => (by cases h)⟩
theorem f10_176 : mFL RX10 176 9 0 3 2 := ⟨_, _, _, _, cf_9, by decide, (mG2 135 rfl rfl), rfl, fun h => (by cases h), fun h => (by cases h)⟩
theorem f10_179 : mFL RX10 179 0 16 3 2 := ⟨_, _, _, _, cf_0, by decide, (mG1 141 rfl rfl), rfl, fun h => (by cases h), fun h => (by cases h)⟩
theorem f12_7 : mFL RX12 7 12 2 3 1 := ⟨_, _, _, _, cf_12, by decide, (mG6 79 rfl rfl), rfl, fun h => (by cases h), fun _ => ⟨rfl, rfl⟩⟩
theorem f12_13 : mFL RX12 13 12 10 3 1 := ⟨_, _, _, _, cf_12, by decide, (mG6 87 rfl rfl), rfl, fun h => (by cases h), fun _ => ⟨rfl, rfl⟩⟩
theorem f12_16 : mFL RX12 16 12 11 3 1 := ⟨_, _, _, _, cf_12, by decide, (mG6 88 rfl rfl), rfl, fun h => (by cases h), fun _ => ⟨rfl, rfl⟩⟩
theorem f12_20 : mFL RX12 20 12 12 3 1 := ⟨_, _, _, _, cf_12, by decide, (mG6 89 rfl rfl), rfl, fun h => (by cases h), fun _ => ⟨rfl, rfl⟩⟩
theorem f12_23 : mFL RX12 23 12 13 3 1 := ⟨_, _, _, _, cf_12, by decide, (mG6 90 rfl rfl), rfl, fun h => (by cases h), fun _ => ⟨rfl, rfl⟩⟩
theorem f12_26 : mFL RX12 26 12 14 3 1 := ⟨_, _, _, _, cf_12, by decide, (mG6 91 rfl rfl), rfl, fun h => (by cases h), fun _ => ⟨rfl, rfl⟩⟩
theorem f12_29 : mFL RX12 29 12 15 3 1 := ⟨_, _, _, _, cf_12, by decide, (mG6 92 rfl rfl), rfl, fun h => (by cases h), fun _ => ⟨rfl, rfl⟩⟩
theorem f12_32 : mFL RX12 32 12 16 3 1 := ⟨_, _, _, _, cf_12, by decide, (mG6 93 rfl rfl), rfl, fun h => (by cases h), fun _ => ⟨rfl, rfl⟩⟩
theorem f12_35 : mFL RX12 35 12 17 3 1 := ⟨_, _, _, _, cf_12, by decide, (mG6 94 rfl rfl), rfl, fun h => (by cases h), fun _ => ⟨rfl, rfl⟩⟩
theorem f12_38 : mFL RX12 38 12 18 3 1 := ⟨_, _, _, _, cf_12, by decide, (mG6 95 rfl rfl), rfl, fun h => (by cases h), fun _ => ⟨rfl, rfl⟩⟩
theorem f12_41 : mFL RX12 41 12 19 3 1 := ⟨_, _, _, _, cf_12, by decide, (mG6 96 rfl rfl), rfl, fun h => (by cases h), fun _ => ⟨rfl, rfl⟩⟩
theorem f12_44 : mFL RX12 44 12 20 3 1 := ⟨_, _, _, _, cf_12, by decide, (mG6 97 rfl rfl), rfl, fun h => (by cases h), fun _ => ⟨rfl, rfl⟩⟩
theorem f12_47 : mFL RX12 47 12 21 3 1 := ⟨_, _, _, _, cf_12, by decide, (mG6 98 rfl rfl), rfl, fun h => (by cases h), fun _ => ⟨rfl, rfl⟩⟩
theorem f12_50 : mFL RX12 50 12 22 3 1 := ⟨_, _, _, _, cf_12, by decide, (mG6 99 rfl rfl), rfl, fun h => (by cases h), fun _ => ⟨rfl, rfl⟩⟩
theorem f12_53 : mFL RX12 53 12 23 3 1 := ⟨_, _, _, _, cf_12, by decide, (mG6 100 rfl rfl), rfl, fun h => (by cases h), fun _ => ⟨rfl, rfl⟩⟩
theorem f12_56 : mFL RX12 56 12 24 3 1 := ⟨_, _, _, _, cf_12, by decide, (mG6 101 rfl rfl), rfl, fun h => (by cases h), fun _ => ⟨rfl, rfl⟩⟩
theorem f12_59 : mFL RX12 59 12 25 3 1 := ⟨_, _, _, _, cf_12, by decide, (mG6 102 rfl rfl), rfl, fun h => (by cases h), fun _ => ⟨rfl, rfl⟩⟩
theorem f12_62 : mFL RX12 62 12 26 3 1 := ⟨_, _, _, _, cf_12, by decide, (mG6 103 rfl rfl), rfl, fun h => (by cases h), fun _ => ⟨rfl, rfl⟩⟩
theorem f12_65 : mFL RX12 65 12 27 3 1 := ⟨_, _, _, _, cf_12, by decide, (mG6 104 rfl rfl), rfl, fun h => (by cases h), fun _ => ⟨rfl, rfl⟩⟩
theorem f12_68 : mFL RX12 68 12 30 3 1 := ⟨_, _, _, _, cf_12, by decide, (mG6 107 rfl rfl), rfl, fun h => (by cases h), fun _ => ⟨rfl, rfl⟩⟩
theorem f12_71 : mFL RX12 71 12 31 3 1 := ⟨_, _, _, _, cf_12, by decide, (mG6 108 rfl rfl), rfl, fun h => (by cases h), fun _ => ⟨rfl, rfl⟩⟩
theorem f12_75 : mFL RX12 75 12 32 3 1 := ⟨_, _, _, _, cf_12, by decide, (mG6 109 rfl rfl), rfl, fun h => (by cases h), fun _ => ⟨rfl, rfl⟩⟩
theorem f12_78 : mFL RX12 78 12 33 3 1 := ⟨_, _, _, _, cf_12, by decide, (mG6 110 rfl rfl), rfl, fun h => (by cases h), fun _ => ⟨rfl, rfl⟩⟩
theorem f12_81 : mFL RX12 81 12 34 3 1 := ⟨_, _, _, _, cf_12, by decide, (mG6 111 rfl rfl), rfl, fun h => (by cases h), fun _ => ⟨rfl, rfl⟩⟩
theorem f12_84 : mFL RX12 84 12 35 3 1 := ⟨_, _, _, _, cf_12, by decide, (mG6 112 rfl rfl), rfl, fun h => (by cases h), fun _ => ⟨rfl, rfl⟩⟩
theorem f12_87 : mFL RX12 87 12 36 3 1 := ⟨_, _, _, _, cf_12, by decide, (mG6 113 rfl rfl), rfl, fun h => (by cases h), fun _ => ⟨rfl, rfl⟩⟩
theorem f12_90 : mFL RX12 90 12 37 3 1 := ⟨_, _, _, _, cf_12, by decide, (mG6 114 rfl rfl), rfl, fun h => (by cases h), fun _ => ⟨rfl, rfl⟩⟩
theorem f12_93 : mFL RX12 93 12 38 3 1 := ⟨_, _, _, _, cf_12, by decide, (mG6 115 rfl rfl), rfl, fun h => (by cases h), fun _ => ⟨rfl, rfl⟩⟩
theorem f12_96 : mFL RX12 96 12 39 3 1 := ⟨_, _, _, _, cf_12, by decide, (mG6 116 rfl rfl), rfl, fun h => (by cases h), fun _ => ⟨rfl, rfl⟩⟩
theorem f12_99 : mFL RX12 99 12 40 3 1 := ⟨_, _, _, _, cf_12, by decide, (mG6 117 rfl rfl), rfl, fun h => (by cases h), fun _ => ⟨rfl, rfl⟩⟩
theorem f12_102 : mFL RX12 102 12 41 3 1 := ⟨_, _, _, _, cf_12, by decide, (mG6 118 rfl rfl), rfl, fun h => (by cases h), fun _ => ⟨rfl, rfl⟩⟩
theorem f12_105 : mFL RX12 105 12 43 3 1 := ⟨_, _, _, _, cf_12, by decide, (mG6 120 rfl rfl), rfl, fun h => (by cases h), fun _ => ⟨rfl, rfl⟩⟩
theorem f12_108 : mFL RX12 108 12 44 3 1 := ⟨_, _, _, _, cf_12, by decide, (mG6 121 rfl rfl), rfl, fun h => (by cases h), fun _ => ⟨rfl, rfl⟩⟩
theorem f12_111 : mFL RX12 111 12 45 3 1 := ⟨_, _, _, _, cf_12, by decide, (mG6 122 rfl rfl), rfl, fun h => (by cases h), fun _ => ⟨rfl, rfl⟩⟩
theorem f12_114 : mFL RX12 114 12 46 3 1 := ⟨_, _, _, _, cf_12, by decide, (mG6 123 rfl rfl), rfl, fun h => (by cases h), fun _ => ⟨rfl, rfl⟩⟩
theorem f12_117 : mFL RX12 117 12 47 3 1 := ⟨_, _, _, _, cf_12, by decide, (mG6 124 rfl rfl), rfl, fun h => (by cases h), fun _ => ⟨rfl, rfl⟩⟩
theorem f12_120 : mFL RX12 120 12 48 3 1 := ⟨_, _, _, _, cf_12, by decide, (mG6 125 rfl rfl), rfl, fun h => (by cases h), fun _ => ⟨rfl, rfl⟩⟩
theorem f12_123 : mFL RX12 123 12 49 3 1 := ⟨_, _, _, _, cf_12, by decide, (mG6 126 rfl rfl), rfl, fun h => (by cases h), fun _ => ⟨rfl, rfl⟩⟩
theorem f12_126 : mFL RX12 126 12 50 3 1 := ⟨_, _, _, _, cf_12, by decide, (mG6 127 rfl rfl), rfl, fun h => (by cases h), fun _ => ⟨rfl, rfl⟩⟩
theorem f12_129 : mFL RX12 129 12 51 3 1 := ⟨_, _, _, _, cf_12, by decide, (mG6 128 rfl rfl), rfl, fun h => (by cases h), fun _ => ⟨rfl, rfl⟩⟩
theorem f12_132 : mFL RX12 132 12 52 3 1 := ⟨_, _, _, _, cf_12, by decide, (mG6 129 rfl rfl), rfl, fun h => (by cases h), fun _ => ⟨rfl, rfl⟩⟩
theorem f12_135 : mFL RX12 135 12 53 3 1 := ⟨_, _, _, _, cf_12, by decide, (mG6 130 rfl rfl), rfl, fun h => (by cases h), fun _ => ⟨rfl, rfl⟩⟩
theorem f12_138 : mFL RX12 138 12 55 3 1 := ⟨_, _, _, _, cf_12, by decide, (mG6 132 rfl rfl), rfl, fun h => (by cases h), fun _ => ⟨rfl, rfl⟩⟩
theorem f12_141 : mFL RX12 141 12 56 3 1 := ⟨_, _, _, _, cf_12, by decide, (mG6 133 rfl rfl), rfl, fun h => (by cases h), fun _ => ⟨rfl, rfl⟩⟩
theorem f12_144 : mFL RX12 144 12 58 3 1 := ⟨_, _, _, _, cf_12, by decide, (mG6 135 rfl rfl), rfl, fun h => (by cases h), fun _ => ⟨rfl, rfl⟩⟩
theorem f12_147 : mFL RX12 147 12 59 3 1 := ⟨_, _, _, _, cf_12, by decide, (mG6 136 rfl rfl), rfl, fun h => (by cases h), fun _ => ⟨rfl, rfl⟩⟩
theorem f12_150 : mFL RX12 150 12 61 3 1 := ⟨_, _, _, _, cf_12, by decide, (mG6 138 rfl rfl), rfl, fun h => (by cases h), fun _ => ⟨rfl, rfl⟩⟩
theorem f12_157 : mFL RX12 157 12 0 0 0 := ⟨_, _, _, _, cf_12, by decide, (mG6 77 rfl rfl), rfl, fun _ => rfl, fun h => (by cases h)⟩
theorem f12_163 : mFL RX12 163 12 1 0 0 := ⟨_, _, _, _, cf_12, by decide, (mG6 78 rfl rfl), rfl, fun _ => rfl, fun h => (by cases h)⟩
theorem f12_166 : mFL RX12 166 12 3 0 0 := ⟨_, _, _, _, cf_12, by decide, (mG6 80 rfl rfl), rfl, fun _ => rfl, fun h => (by cases h)⟩
theorem f12_169 : mFL RX12 169 12 4 0 0 := ⟨_, _, _, _, cf_12, by decide, (mG6 81 rfl rfl), rfl, fun _ => rfl, fun h => (by cases h)⟩
theorem f12_172 : mFL RX12 172 12 5 0 0 := ⟨_, _, _, _, cf_12, by decide, (mG6 82 rfl rfl), rfl, fun _ => rfl, fun h => (by cases h)⟩
theorem f12_175 : mFL RX12 175 12 7 1 0 := ⟨_, _, _, _, cf_12, by decide, (mG6 84 rfl rfl), rfl, fun _ => rfl, fun h => (by cases h)⟩
theorem f12_179 : mFL RX12 179 12 8 0 0 := ⟨_, _, _, _, cf_12, by decide, (mG6 85 rfl rfl), rfl, fun _ => rfl, fun h => (by cases h)⟩
theorem f12_182 : mFL RX12 182 12 6 0 0 := ⟨_, _, _, _, cf_12, by decide, (mG6 83 rfl rfl), rfl, fun _ => rfl, fun h => (by cases h)⟩
theorem f12_193 : mFL RX12 193 12 9 0 0 := ⟨_, _, _, _, cf_12, by decide, (mG6 86 rfl rfl), rfl, fun _ => rfl, fun h => (by cases h)⟩
theorem f12_196 : mFL RX12 196 12 28 0 0 := ⟨_, _, _, _, cf_12, by decide, (mG6 105 rfl rfl), rfl, fun _ => rfl, fun h => (by cases h)⟩
theorem f12_295 : mFL RX12 295 12 42 0 0 := ⟨_, _, _, _, cf_12, by decide, (mG6 119 rfl rfl), rfl, fun _ => rfl, fun h => (by cases h)⟩
theorem f12_337 : mFL RX12 337 12 29 2 0 := ⟨_, _, _, _, cf_12, by decide, (mG6 106 rfl rfl), rfl, fun _ => rfl, fun h => (by cases h)⟩
theorem f12_383 : mFL RX12 383 12 54 0 0 := ⟨_, _, _, _, cf_12, by decide, (mG6 131 rfl rfl), rfl, fun _ => rfl, fun h => (by cases h)⟩
theorem f12_447 : mFL RX12 447 12 57 0 0 := ⟨_, _, _, _, cf_12, by decide, (mG6 134 rfl rfl), rfl, fun _ => rfl, fun h => (by cases h)⟩
theorem f12_479 : mFL RX12 479 12 60 0 0 := ⟨_, _, _, _, cf_12, by decide, (mG6 137 rfl rfl), rfl, fun _ => rfl, fun h => (by cases h)⟩
theorem f12_494 : mFL RX12 494 12 62 1 0 := ⟨_, _, _, _, cf_12, by decide, (mG6 139 rfl rfl), rfl, fun _ => rfl, fun h => (by cases h)⟩
theorem f12_511 : mFL RX12 511 12 63 0 0 := ⟨_, _, _, _, cf_12, by decide, (mG6 140 rfl rfl), rfl, fun _ => rfl, fun h => (by cases h)⟩
theorem f12_514 : mFL RX12 514 12 64 0 0 := ⟨_, _, _, _, cf_12, by decide, (mG6 141 rfl rfl), rfl, fun _ => rfl, fun h => (by cases h)⟩
theorem l11_31 : mML RX11 31 yX6_init cX6_init 6 none 0 := ⟨(mG1 227 rfl rfl), (mG1 229 rfl rfl), (mG1 5 rfl rfl), ⟨by decide, by decide⟩, by decide +kernel⟩
theorem l11_38 : mML RX11 38 yX5_init cX5_init 4 none 3 := ⟨(mG2 73 rfl rfl), (mG2 75 rfl rfl), (mG1 10 rfl rfl), ⟨by decide, by decide⟩, by decide +kernel⟩
theorem l11_54 : mML RX11 54 yX1_init cX1_init 2 none 1 := ⟨(mG2 168 rfl rfl), (mG2 170 rfl rfl), (mG1 13 rfl rfl), ⟨by decide, by decide⟩, by decide +kernel⟩
theorem l11_63 : mML RX11 63 yX10_init cX10_init 3 none 2 := ⟨(mG2 178 rfl rfl), (mG2 180 rfl rfl), (mG1 14 rfl rfl), ⟨by decide, by decide⟩, by decide +kernel⟩
theorem l11_72 : mML RX11 72 yX7_init cX7_init 3 none 1 := ⟨(mG3 42 rfl rfl), (mG3 44 rfl rfl), (mG1 16 rfl rfl), ⟨by decide, by decide⟩, by decide +kernel⟩
theorem l11_100 : mML RX11 100 yX6_add cX6_add 5 none 1 := ⟨(mG3 155 rfl rfl), (mG3 158 rfl rfl), (mG1 5 rfl rfl), ⟨by decide, by decide⟩, by decide +kernel⟩
theorem l11_108 : mML RX11 108 yX5_readCity cX5_readCity 3 (some .int) 1 := ⟨(mG3 163 rfl rfl), (mG3 166 rfl rfl), (mG1 10 rfl rfl), ⟨by decide, by decide⟩, by decide +kernel⟩
theorem l11_112 : mML RX11 112 yX6_clear cX6_clear 1 none 0 := ⟨(mG4 90 rfl rfl), (mG4 93 rfl rfl), (mG1 5 rfl rfl), ⟨by decide, by decide⟩, by decide +kernel⟩
theorem l11_115 : mML RX11 115 yX8_clear cX8_clear 1 none 0 := ⟨(mG4 94 rfl rfl), (mG4 97 rfl rfl), (mG1 4 rfl rfl), ⟨by decide, by decide⟩, by decide +kernel⟩
theorem l11_122 : mML RX11 122 yX10_forget cX10_forget 1 none 0 := ⟨(mG4 98 rfl rfl), (mG4 101 rfl rfl), (mG1 14 rfl rfl), ⟨by decide, by decide⟩, by decide +kernel⟩
theorem l11_125 : mML RX11 125 yX1_begin cX1_begin 3 none 2 := ⟨(mG4 102 rfl rfl), (mG4 105 rfl rfl), (mG1 13 rfl rfl), ⟨by decide, by decide⟩, by decide +kernel⟩
theorem l11_129 : mML RX11 129 yX5_readLife cX5_readLife 4 (some .int) 2 := ⟨(mG4 148 rfl rfl), (mG4 151 rfl rfl), (mG1 10 rfl rfl), ⟨by decide, by decide⟩, by decide +kernel⟩
theorem l11_133 : mML RX11 133 yX8_copyLife cX8_copyLife 3 none 1 := ⟨(mG4 161 rfl rfl), (mG4 164 rfl rfl), (mG1 4 rfl rfl), ⟨by decide, by decide⟩, by decide +kernel⟩
theorem l11_153 : mML RX11 153 yX0_hasOath cX0_hasOath 2 (some .boolean) 1 := ⟨(mG4 173 rfl rfl), (mG4 176 rfl rfl), (mG1 2 rfl rfl), ⟨by decide, by decide⟩, by decide +kernel⟩
theorem l11_166 : mML RX11 166 yX0_strengthOf cX0_strengthOf 7 (some .int) 2 := ⟨(mG4 177 rfl rfl), (mG4 113 rfl rfl), (mG1 2 rfl rfl), ⟨by decide, by decide⟩, by decide +kernel⟩
theorem l11_179 : mML RX11 179 yX0_hasStone cX0_hasStone 2 (some .boolean) 1 := ⟨(mG4 182 rfl rfl), (mG4 185 rfl rfl), (mG1 2 rfl rfl), ⟨by decide, by decide⟩, by decide +kernel⟩
theorem l11_191 : mML RX11 191 yX9_settle cX9_settle 7 none 2 := ⟨(mG4 186 rfl rfl), (mG4 127 rfl rfl), (mG1 12 rfl rfl), ⟨by decide, by decide⟩, by decide +kernel⟩
theorem l11_201 : mML RX11 201 yX4_copy cX4_copy 2 none 1 := ⟨(mG4 191 rfl rfl), (mG4 194 rfl rfl), (mG1 15 rfl rfl), ⟨by decide, by decide⟩, by decide +kernel⟩
theorem l11_205 : mML RX11 205 yX1_crack cX1_crack 4 (some .boolean) 3 := ⟨(mG4 195 rfl rfl), (mG4 198 rfl rfl), (mG1 13 rfl rfl), ⟨by decide, by decide⟩, by decide +kernel⟩
theorem l11_209 : mML RX11 209 yX11_remember cX11_remember 1 none 0 := ⟨(mG4 200 rfl rfl), (mG4 203 rfl rfl), (mG1 1 rfl rfl), ⟨by decide, by decide⟩, by decide +kernel⟩
theorem l11_212 : mML RX11 212 yX1_pardon cX1_pardon 4 (some .boolean) 3 := ⟨(mG4 208 rfl rfl), (mG4 211 rfl rfl), (mG1 13 rfl rfl), ⟨by decide, by decide⟩, by decide +kernel⟩
theorem l11_215 : mML RX11 215 yX1_lift cX1_lift 5 (some .boolean) 3 := ⟨(mG4 216 rfl rfl), (mG4 219 rfl rfl), (mG1 13 rfl rfl), ⟨by decide, by decide⟩, by decide +kernel⟩
theorem l11_218 : mML RX11 218 yX1_pass cX1_pass 3 none 2 := ⟨(mG4 225 rfl rfl), (mG4 228 rfl rfl), (mG1 13 rfl rfl), ⟨by decide, by decide⟩, by decide +kernel⟩
theorem l11_224 : mML RX11 224 yX7_judge cX7_judge 6 none 2 := ⟨(mG4 237 rfl rfl), (mG5 0 rfl rfl), (mG1 16 rfl rfl), ⟨by decide, by decide⟩, by decide +kernel⟩
theorem l11_237 : mML RX11 237 yX9_most cX9_most 5 (some .int) 2 := ⟨(mG5 14 rfl rfl), (mG5 17 rfl rfl), (mG1 12 rfl rfl), ⟨by decide, by decide⟩, by decide +kernel⟩
theorem l11_244 : mML RX11 244 yX10_look cX10_look 3 none 2 := ⟨(mG5 23 rfl rfl), (mG5 26 rfl rfl), (mG1 14 rfl rfl), ⟨by decide, by decide⟩, by decide +kernel⟩
theorem l11_247 : mML RX11 247 yX10_upIf cX10_upIf 3 (some .int) 1 := ⟨(mG5 32 rfl rfl), (mG5 35 rfl rfl), (mG1 14 rfl rfl), ⟨by decide, by decide⟩, by decide +kernel⟩
theorem l11_251 : mML RX11 251 yX11_isUp cX11_isUp 2 (some .boolean) 1 := ⟨(mG5 41 rfl rfl), (mG5 44 rfl rfl), (mG1 1 rfl rfl), ⟨by decide, by decide⟩, by decide +kernel⟩
theorem l11_254 : mML RX11 254 yX10_fewestAgainst cX10_fewestAgainst 4 (some .int) 1 := ⟨(mG5 45 rfl rfl), (mG5 48 rfl rfl), (mG1 14 rfl rfl), ⟨by decide, by decide⟩, by decide +kernel⟩
theorem l11_257 : mML RX11 257 yX10_chanceOf cX10_chanceOf 4 (some .int) 1 := ⟨(mG5 64 rfl rfl), (mG5 67 rfl rfl), (mG1 14 rfl rfl), ⟨by decide, by decide⟩, by decide +kernel⟩
theorem l11_260 : mML RX11 260 yX10_findSurest cX10_findSurest 5 none 1 := ⟨(mG5 80 rfl rfl), (mG5 83 rfl rfl), (mG1 14 rfl rfl), ⟨by decide, by decide⟩, by decide +kernel⟩
theorem l11_270 : mML RX11 270 yX10_fewestToKeep cX10_fewestToKeep 3 (some .int) 0 := ⟨(mG5 111 rfl rfl), (mG5 114 rfl rfl), (mG1 14 rfl rfl), ⟨by decide, by decide⟩, by decide +kernel⟩
theorem l11_274 : mML RX11 274 yJ6_bitCount_0f7a4 cJ6_bitCount_0f7a4 1 (some .int) 1 := ⟨(mG5 123 rfl rfl), (mG5 55 rfl rfl), (mG1 19 rfl rfl), ⟨by decide, by decide⟩, by decide +kernel⟩
theorem l11_279 : mML RX11 279 yX7_findRow cX7_findRow 6 none 3 := ⟨(mG5 124 rfl rfl), (mG5 127 rfl rfl), (mG1 16 rfl rfl), ⟨by decide, by decide⟩, by decide +kernel⟩
theorem l11_298 : mML RX11 298 yX10_findSets cX10_findSets 4 none 2 := ⟨(mG5 152 rfl rfl), (mG5 155 rfl rfl), (mG1 14 rfl rfl), ⟨by decide, by decide⟩, by decide +kernel⟩
theorem l11_311 : mML RX11 311 yX10_evenestStone cX10_evenestStone 5 (some .int) 0 := ⟨(mG5 164 rfl rfl), (mG5 167 rfl rfl), (mG1 14 rfl rfl), ⟨by decide, by decide⟩, by decide +kernel⟩
theorem l11_314 : mML RX11 314 yX10_fillGains cX10_fillGains 3 none 0 := ⟨(mG5 172 rfl rfl), (mG5 175 rfl rfl), (mG1 14 rfl rfl), ⟨by decide, by decide⟩, by decide +kernel⟩
theorem l11_317 : mML RX11 317 yX10_isRest cX10_isRest 4 (some .boolean) 1 := ⟨(mG5 185 rfl rfl), (mG5 188 rfl rfl), (mG1 14 rfl rfl), ⟨by decide, by decide⟩, by decide +kernel⟩
theorem l11_323 : mML RX11 323 yX10_choose cX10_choose 3 none 1 := ⟨(mG6 65 rfl rfl), (mG5 179 rfl rfl), (mG1 14 rfl rfl), ⟨by decide, by decide⟩, by decide +kernel⟩
theorem l11_326 : mML RX11 326 yX10_gainOf cX10_gainOf 6 (some .int) 2 := ⟨(mG6 66 rfl rfl), (mG5 184 rfl rfl), (mG1 14 rfl rfl), ⟨by decide, by decide⟩, by decide +kernel⟩
theorem l11_330 : mML RX11 330 yX7_live cX7_live 8 none 4 := ⟨(mG5 193 rfl rfl), (mG5 196 rfl rfl), (mG1 16 rfl rfl), ⟨by decide, by decide⟩, by decide +kernel⟩
theorem l11_340 : mML RX11 340 yX8_copy cX8_copy 2 none 1 := ⟨(mG5 217 rfl rfl), (mG5 220 rfl rfl), (mG1 4 rfl rfl), ⟨by decide, by decide⟩, by decide +kernel⟩
theorem l11_348 : mML RX11 348 yX0_weightOf cX0_weightOf 4 (some .int) 1 := ⟨(mG5 226 rfl rfl), (mG5 139 rfl rfl), (mG1 2 rfl rfl), ⟨by decide, by decide⟩, by decide +kernel⟩
theorem l11_354 : mML RX11 354 yX0_pairs cX0_pairs 3 (some .int) 0 := ⟨(mG5 227 rfl rfl), (mG5 230 rfl rfl), (mG1 2 rfl rfl), ⟨by decide, by decide⟩, by decide +kernel⟩
theorem l11_357 : mML RX11 357 yX0_clashes cX0_clashes 3 (some .int) 0 := ⟨(mG5 231 rfl rfl), (mG5 234 rfl rfl), (mG1 2 rfl rfl), ⟨by decide, by decide⟩, by decide +kernel⟩
theorem l0_78 : mML RX0 78 yX2_reset cX2_reset 2 none 0 := ⟨(mG3 171 rfl rfl), (mG3 174 rfl rfl), (mG1 3 rfl rfl), ⟨by decide, by decide⟩, by decide +kernel⟩
theorem l0_92 : mML RX0 92 yX2_note cX2_note 11 none 4 := ⟨(mG4 114 rfl rfl), (mG4 117 rfl rfl), (mG1 3 rfl rfl), ⟨by decide, by decide⟩, by decide +kernel⟩
theorem l0_105 : mML RX0 105 yJ6_bitCount_0f7a4 cJ6_bitCount_0f7a4 1 (some .int) 1 := ⟨(mG5 235 rfl rfl), (mG5 55 rfl rfl), (mG1 19 rfl rfl), ⟨by decide, by decide⟩, by decide +kernel⟩
theorem l1_32 : mML RX1 32 yX9_standing cX9_standing 5 (some .int) 3 := ⟨(mG4 106 rfl rfl), (mG4 109 rfl rfl), (mG1 12 rfl rfl), ⟨by decide, by decide⟩, by decide +kernel⟩
theorem l1_41 : mML RX1 41 yX0_hasOath cX0_hasOath 2 (some .boolean) 1 := ⟨(mG4 199 rfl rfl), (mG4 176 rfl rfl), (mG1 2 rfl rfl), ⟨by decide, by decide⟩, by decide +kernel⟩
theorem l1_48 : mML RX1 48 yX0_hasStone cX0_hasStone 2 (some .boolean) 1 := ⟨(mG4 220 rfl rfl), (mG4 185 rfl rfl), (mG1 2 rfl rfl), ⟨by decide, by decide⟩, by decide +kernel⟩
theorem l1_51 : mML RX1 51 yX1_crack cX1_crack 4 (some .boolean) 3 := ⟨(mG5 6 rfl rfl), (mG4 198 rfl rfl), (mG1 13 rfl rfl), ⟨by decide, by decide⟩, by decide +kernel⟩
theorem l1_55 : mML RX1 55 yX1_pardon cX1_pardon 4 (some .boolean) 3 := ⟨(mG5 7 rfl rfl), (mG4 211 rfl rfl), (mG1 13 rfl rfl), ⟨by decide, by decide⟩, by decide +kernel⟩
theorem l1_58 : mML RX1 58 yX1_lift cX1_lift 5 (some .boolean) 3 := ⟨(mG5 8 rfl rfl), (mG4 219 rfl rfl), (mG1 13 rfl rfl), ⟨by decide, by decide⟩, by decide +kernel⟩
theorem l1_61 : mML RX1 61 yX1_pass cX1_pass 3 none 2 := ⟨(mG5 9 rfl rfl), (mG4 228 rfl rfl), (mG1 13 rfl rfl), ⟨by decide, by decide⟩, by decide +kernel⟩
theorem l2_48 : mML RX2 48 yX2_plainWorth cX2_plainWorth 4 (some .int) 4 := ⟨(mG4 118 rfl rfl), (mG4 120 rfl rfl), (mG1 3 rfl rfl), ⟨by decide, by decide⟩, by decide +kernel⟩
theorem l2_52 : mML RX2 52 yX2_joined cX2_joined 3 (some .int) 3 := ⟨(mG4 121 rfl rfl), (mG4 123 rfl rfl), (mG1 3 rfl rfl), ⟨by decide, by decide⟩, by decide +kernel⟩
theorem l3_21 : mML RX3 21 yX2_renew cX2_renew 1 none 0 := ⟨(mG4 44 rfl rfl), (mG4 47 rfl rfl), (mG1 3 rfl rfl), ⟨by decide, by decide⟩, by decide +kernel⟩
theorem l3_42 : mML RX3 42 yX6_isSign cX6_isSign 2 (some .boolean) 1 := ⟨(mG4 48 rfl rfl), (mG4 3 rfl rfl), (mG1 5 rfl rfl), ⟨by decide, by decide⟩, by decide +kernel⟩
theorem l3_46 : mML RX3 46 yX3_settle cX3_settle 2 none 1 := ⟨(mG4 49 rfl rfl), (mG4 52 rfl rfl), (mG1 11 rfl rfl), ⟨by decide, by decide⟩, by decide +kernel⟩
theorem l3_50 : mML RX3 50 yX3_readPart cX3_readPart 2 (some .int) 0 := ⟨(mG4 60 rfl rfl), (mG4 63 rfl rfl), (mG1 11 rfl rfl), ⟨by decide, by decide⟩, by decide +kernel⟩
theorem l3_54 : mML RX3 54 yX3_readJoint cX3_readJoint 4 (some .int) 0 := ⟨(mG4 77 rfl rfl), (mG4 80 rfl rfl), (mG1 11 rfl rfl), ⟨by decide, by decide⟩, by decide +kernel⟩
theorem l3_57 : mML RX3 57 yX6_next cX6_next 1 none 0 := ⟨(mG4 85 rfl rfl), (mG3 182 rfl rfl), (mG1 5 rfl rfl), ⟨by decide, by decide⟩, by decide +kernel⟩
theorem l3_62 : mML RX3 62 yX3_partCode cX3_partCode 2 (some .int) 0 := ⟨(mG4 64 rfl rfl), (mG4 67 rfl rfl), (mG1 11 rfl rfl), ⟨by decide, by decide⟩, by decide +kernel⟩
theorem l3_65 : mML RX3 65 yX3_push cX3_push 2 none 1 := ⟨(mG4 69 rfl rfl), (mG4 72 rfl rfl), (mG1 11 rfl rfl), ⟨by decide, by decide⟩, by decide +kernel⟩
theorem l3_68 : mML RX3 68 yX2_add cX2_add 2 none 1 := ⟨(mG4 56 rfl rfl), (mG4 59 rfl rfl), (mG1 3 rfl rfl), ⟨by decide, by decide⟩, by decide +kernel⟩
theorem l3_71 : mML RX3 71 yX3_endPart cX3_endPart 1 none 0 := ⟨(mG4 73 rfl rfl), (mG4 76 rfl rfl), (mG1 11 rfl rfl), ⟨by decide, by decide⟩, by decide +kernel⟩
theorem l3_74 : mML RX3 74 yX3_jointCode cX3_jointCode 1 (some .int) 0 := ⟨(mG4 81 rfl rfl), (mG4 84 rfl rfl), (mG1 11 rfl rfl), ⟨by decide, by decide⟩, by decide +kernel⟩
theorem l3_77 : mML RX3 77 yX3_rank cX3_rank 1 (some .int) 1 := ⟨(mG4 53 rfl rfl), (mG4 55 rfl rfl), (mG1 11 rfl rfl), ⟨by decide, by decide⟩, by decide +kernel⟩
theorem l3_87 : mML RX3 87 yX6_isWord cX6_isWord 2 (some .boolean) 1 := ⟨(mG4 68 rfl rfl), (mG3 231 rfl rfl), (mG1 5 rfl rfl), ⟨by decide, by decide⟩, by decide +kernel⟩
theorem l5_31 : mML RX5 31 yX3_init cX3_init 3 none 2 := ⟨(mG2 79 rfl rfl), (mG2 81 rfl rfl), (mG1 11 rfl rfl), ⟨by decide, by decide⟩, by decide +kernel⟩
theorem l5_38 : mML RX5 38 yX0_clear cX0_clear 2 none 0 := ⟨(mG3 167 rfl rfl), (mG3 170 rfl rfl), (mG1 2 rfl rfl), ⟨by decide, by decide⟩, by decide +kernel⟩
theorem l5_45 : mML RX5 45 yX6_start cX6_start 1 none 0 := ⟨(mG3 175 rfl rfl), (mG3 178 rfl rfl), (mG1 5 rfl rfl), ⟨by decide, by decide⟩, by decide +kernel⟩
theorem l5_53 : mML RX5 53 yX5_readCityLine cX5_readCityLine 1 (some .boolean) 0 := ⟨(mG3 200 rfl rfl), (mG3 203 rfl rfl), (mG1 10 rfl rfl), ⟨by decide, by decide⟩, by decide +kernel⟩
theorem l5_57 : mML RX5 57 yX8_clear cX8_clear 1 none 0 := ⟨(mG4 152 rfl rfl), (mG4 97 rfl rfl), (mG1 4 rfl rfl), ⟨by decide, by decide⟩, by decide +kernel⟩
theorem l5_60 : mML RX5 60 yX5_readLifeLine cX5_readLifeLine 3 (some .boolean) 0 := ⟨(mG4 153 rfl rfl), (mG4 156 rfl rfl), (mG1 10 rfl rfl), ⟨by decide, by decide⟩, by decide +kernel⟩
theorem l5_66 : mML RX5 66 yX5_readPerson cX5_readPerson 4 (some .boolean) 0 := ⟨(mG3 204 rfl rfl), (mG3 207 rfl rfl), (mG1 10 rfl rfl), ⟨by decide, by decide⟩, by decide +kernel⟩
theorem l5_69 : mML RX5 69 yX5_readOath cX5_readOath 6 (some .boolean) 0 := ⟨(mG4 4 rfl rfl), (mG4 7 rfl rfl), (mG1 10 rfl rfl), ⟨by decide, by decide⟩, by decide +kernel⟩
theorem l5_72 : mML RX5 72 yX5_readLean cX5_readLean 3 (some .boolean) 0 := ⟨(mG4 16 rfl rfl), (mG4 19 rfl rfl), (mG1 10 rfl rfl), ⟨by decide, by decide⟩, by decide +kernel⟩
theorem l5_75 : mML RX5 75 yX5_readClash cX5_readClash 3 (some .boolean) 0 := ⟨(mG4 20 rfl rfl), (mG4 23 rfl rfl), (mG1 10 rfl rfl), ⟨by decide, by decide⟩, by decide +kernel⟩
theorem l5_78 : mML RX5 78 yX5_readStone cX5_readStone 4 (some .boolean) 0 := ⟨(mG4 24 rfl rfl), (mG4 27 rfl rfl), (mG1 10 rfl rfl), ⟨by decide, by decide⟩, by decide +kernel⟩
theorem l5_81 : mML RX5 81 yX5_readAge cX5_readAge 2 (some .boolean) 0 := ⟨(mG4 36 rfl rfl), (mG4 39 rfl rfl), (mG1 10 rfl rfl), ⟨by decide, by decide⟩, by decide +kernel⟩
theorem l5_84 : mML RX5 84 yX5_readMend cX5_readMend 1 (some .boolean) 0 := ⟨(mG4 86 rfl rfl), (mG4 89 rfl rfl), (mG1 10 rfl rfl), ⟨by decide, by decide⟩, by decide +kernel⟩
theorem l5_87 : mML RX5 87 yX5_wrong cX5_wrong 2 (some .boolean) 1 := ⟨(mG3 208 rfl rfl), (mG3 211 rfl rfl), (mG1 10 rfl rfl), ⟨by decide, by decide⟩, by decide +kernel⟩
theorem l5_94 : mML RX5 94 yX6_next cX6_next 1 none 0 := ⟨(mG3 212 rfl rfl), (mG3 182 rfl rfl), (mG1 5 rfl rfl), ⟨by decide, by decide⟩, by decide +kernel⟩
theorem l5_101 : mML RX5 101 yX5_takeNewName cX5_takeNewName 1 (some .boolean) 0 := ⟨(mG3 213 rfl rfl), (mG3 216 rfl rfl), (mG1 10 rfl rfl), ⟨by decide, by decide⟩, by decide +kernel⟩
theorem l5_104 : mML RX5 104 yX5_takeWord cX5_takeWord 2 (some .boolean) 1 := ⟨(mG3 224 rfl rfl), (mG3 227 rfl rfl), (mG1 10 rfl rfl), ⟨by decide, by decide⟩, by decide +kernel⟩
theorem l5_107 : mML RX5 107 yX5_takeNumber cX5_takeNumber 3 (some .boolean) 2 := ⟨(mG3 232 rfl rfl), (mG3 235 rfl rfl), (mG1 10 rfl rfl), ⟨by decide, by decide⟩, by decide +kernel⟩
theorem l5_118 : mML RX5 118 yX5_takeEnd cX5_takeEnd 1 (some .boolean) 0 := ⟨(mG3 236 rfl rfl), (mG3 239 rfl rfl), (mG1 10 rfl rfl), ⟨by decide, by decide⟩, by decide +kernel⟩
theorem l5_131 : mML RX5 131 yX5_seeKnown cX5_seeKnown 3 (some .boolean) 2 := ⟨(mG4 8 rfl rfl), (mG4 11 rfl rfl), (mG1 10 rfl rfl), ⟨by decide, by decide⟩, by decide +kernel⟩
theorem l5_138 : mML RX5 138 yX0_addOath cX0_addOath 6 none 4 := ⟨(mG4 12 rfl rfl), (mG4 15 rfl rfl), (mG1 2 rfl rfl), ⟨by decide, by decide⟩, by decide +kernel⟩
theorem l5_166 : mML RX5 166 yX6_isWord cX6_isWord 2 (some .boolean) 1 := ⟨(mG3 228 rfl rfl), (mG3 231 rfl rfl), (mG1 5 rfl rfl), ⟨by decide, by decide⟩, by decide +kernel⟩
theorem l5_169 : mML RX5 169 yX5_readOn cX5_readOn 4 (some .boolean) 1 := ⟨(mG4 28 rfl rfl), (mG4 31 rfl rfl), (mG1 10 rfl rfl), ⟨by decide, by decide⟩, by decide +kernel⟩
theorem l5_175 : mML RX5 175 yX5_readSupport cX5_readSupport 6 (some .boolean) 1 := ⟨(mG4 32 rfl rfl), (mG4 35 rfl rfl), (mG1 10 rfl rfl), ⟨by decide, by decide⟩, by decide +kernel⟩
theorem l5_178 : mML RX5 178 yX6_isName cX6_isName 1 (some .boolean) 0 := ⟨(mG3 217 rfl rfl), (mG3 220 rfl rfl), (mG1 5 rfl rfl), ⟨by decide, by decide⟩, by decide +kernel⟩
theorem l5_181 : mML RX5 181 yX5_find cX5_find 5 (some .int) 3 := ⟨(mG3 221 rfl rfl), (mG3 223 rfl rfl), (mG1 10 rfl rfl), ⟨by decide, by decide⟩, by decide +kernel⟩
theorem l5_191 : mML RX5 191 yX3_read cX3_read 4 (some .int) 1 := ⟨(mG4 40 rfl rfl), (mG4 43 rfl rfl), (mG1 11 rfl rfl), ⟨by decide, by decide⟩, by decide +kernel⟩
theorem l5_204 : mML RX5 204 yX8_addLine cX8_addLine 3 none 2 := ⟨(mG4 157 rfl rfl), (mG4 160 rfl rfl), (mG1 4 rfl rfl), ⟨by decide, by decide⟩, by decide +kernel⟩
theorem l5_211 : mML RX5 211 yX6_isSign cX6_isSign 2 (some .boolean) 1 := ⟨(mG4 0 rfl rfl), (mG4 3 rfl rfl), (mG1 5 rfl rfl), ⟨by decide, by decide⟩, by decide +kernel⟩
theorem l6_36 : mML RX6 36 yX6_next cX6_next 1 none 0 := ⟨(mG3 179 rfl rfl), (mG3 182 rfl rfl), (mG1 5 rfl rfl), ⟨by decide, by decide⟩, by decide +kernel⟩
theorem l6_48 : mML RX6 48 yX6_isLetter cX6_isLetter 1 (some .boolean) 1 := ⟨(mG3 183 rfl rfl), (mG3 185 rfl rfl), (mG1 5 rfl rfl), ⟨by decide, by decide⟩, by decide +kernel⟩
theorem l6_52 : mML RX6 52 yX6_readWord cX6_readWord 2 none 0 := ⟨(mG3 186 rfl rfl), (mG3 189 rfl rfl), (mG1 5 rfl rfl), ⟨by decide, by decide⟩, by decide +kernel⟩
theorem l6_55 : mML RX6 55 yX6_isDigit cX6_isDigit 1 (some .boolean) 1 := ⟨(mG3 190 rfl rfl), (mG3 192 rfl rfl), (mG1 5 rfl rfl), ⟨by decide, by decide⟩, by decide +kernel⟩
theorem l6_58 : mML RX6 58 yX6_readNumber cX6_readNumber 1 none 0 := ⟨(mG3 193 rfl rfl), (mG3 196 rfl rfl), (mG1 5 rfl rfl), ⟨by decide, by decide⟩, by decide +kernel⟩
theorem l6_64 : mML RX6 64 yX6_isSignOfLanguage cX6_isSignOfLanguage 1 (some .boolean) 1 := ⟨(mG3 197 rfl rfl), (mG3 199 rfl rfl), (mG1 5 rfl rfl), ⟨by decide, by decide⟩, by decide +kernel⟩
theorem l7_40 : mML RX7 40 yX1_begin cX1_begin 3 none 2 := ⟨(mG5 1 rfl rfl), (mG4 105 rfl rfl), (mG1 13 rfl rfl), ⟨by decide, by decide⟩, by decide +kernel⟩
theorem l7_59 : mML RX7 59 yX1_does cX1_does 5 (some .boolean) 4 := ⟨(mG5 2 rfl rfl), (mG5 5 rfl rfl), (mG1 13 rfl rfl), ⟨by decide, by decide⟩, by decide +kernel⟩
theorem l7_69 : mML RX7 69 yX4_copy cX4_copy 2 none 1 := ⟨(mG5 128 rfl rfl), (mG4 194 rfl rfl), (mG1 15 rfl rfl), ⟨by decide, by decide⟩, by decide +kernel⟩
theorem l7_78 : mML RX7 78 yX7_apologise cX7_apologise 5 (some .boolean) 2 := ⟨(mG5 129 rfl rfl), (mG5 132 rfl rfl), (mG1 16 rfl rfl), ⟨by decide, by decide⟩, by decide +kernel⟩
theorem l7_82 : mML RX7 82 yX0_weightOf cX0_weightOf 4 (some .int) 1 := ⟨(mG5 136 rfl rfl), (mG5 139 rfl rfl), (mG1 2 rfl rfl), ⟨by decide, by decide⟩, by decide +kernel⟩
theorem l7_86 : mML RX7 86 yX7_preferRow cX7_preferRow 4 none 2 := ⟨(mG5 140 rfl rfl), (mG5 143 rfl rfl), (mG1 16 rfl rfl), ⟨by decide, by decide⟩, by decide +kernel⟩
theorem l7_90 : mML RX7 90 yX1_pardon cX1_pardon 4 (some .boolean) 3 := ⟨(mG5 133 rfl rfl), (mG4 211 rfl rfl), (mG1 13 rfl rfl), ⟨by decide, by decide⟩, by decide +kernel⟩
theorem l7_97 : mML RX7 97 yX1_lift cX1_lift 5 (some .boolean) 3 := ⟨(mG5 134 rfl rfl), (mG4 219 rfl rfl), (mG1 13 rfl rfl), ⟨by decide, by decide⟩, by decide +kernel⟩
theorem l7_100 : mML RX7 100 yX1_pass cX1_pass 3 none 2 := ⟨(mG5 135 rfl rfl), (mG4 228 rfl rfl), (mG1 13 rfl rfl), ⟨by decide, by decide⟩, by decide +kernel⟩
theorem l7_115 : mML RX7 115 yX7_liveOne cX7_liveOne 6 none 2 := ⟨(mG5 197 rfl rfl), (mG5 200 rfl rfl), (mG1 16 rfl rfl), ⟨by decide, by decide⟩, by decide +kernel⟩
theorem l7_119 : mML RX7 119 yJ6_bitCount_0f7a4 cJ6_bitCount_0f7a4 1 (some .int) 1 := ⟨(mG5 212 rfl rfl), (mG5 55 rfl rfl), (mG1 19 rfl rfl), ⟨by decide, by decide⟩, by decide +kernel⟩
theorem l7_124 : mML RX7 124 yX7_draw cX7_draw 1 (some .int) 0 := ⟨(mG5 201 rfl rfl), (mG5 204 rfl rfl), (mG1 16 rfl rfl), ⟨by decide, by decide⟩, by decide +kernel⟩
theorem l7_140 : mML RX7 140 yX7_firstOf cX7_firstOf 2 (some .int) 1 := ⟨(mG5 208 rfl rfl), (mG5 210 rfl rfl), (mG1 16 rfl rfl), ⟨by decide, by decide⟩, by decide +kernel⟩
theorem l7_143 : mML RX7 143 yX1_crack cX1_crack 4 (some .boolean) 3 := ⟨(mG5 211 rfl rfl), (mG4 198 rfl rfl), (mG1 13 rfl rfl), ⟨by decide, by decide⟩, by decide +kernel⟩
theorem l8_31 : mML RX8 31 yX8_copyLife cX8_copyLife 3 none 1 := ⟨(mG5 221 rfl rfl), (mG4 164 rfl rfl), (mG1 4 rfl rfl), ⟨by decide, by decide⟩, by decide +kernel⟩
theorem l9_54 : mML RX9 54 yX0_strengthOf cX0_strengthOf 7 (some .int) 2 := ⟨(mG4 110 rfl rfl), (mG4 113 rfl rfl), (mG1 2 rfl rfl), ⟨by decide, by decide⟩, by decide +kernel⟩
theorem l9_58 : mML RX9 58 yX9_settle cX9_settle 7 none 2 := ⟨(mG4 124 rfl rfl), (mG4 127 rfl rfl), (mG1 12 rfl rfl), ⟨by decide, by decide⟩, by decide +kernel⟩
theorem l9_65 : mML RX9 65 yX9_lay cX9_lay 6 (some .int) 2 := ⟨(mG4 128 rfl rfl), (mG4 131 rfl rfl), (mG1 12 rfl rfl), ⟨by decide, by decide⟩, by decide +kernel⟩
theorem l9_69 : mML RX9 69 yX9_standing cX9_standing 5 (some .int) 3 := ⟨(mG5 18 rfl rfl), (mG4 109 rfl rfl), (mG1 12 rfl rfl), ⟨by decide, by decide⟩, by decide +kernel⟩
theorem l9_87 : mML RX9 87 yX9_makeRoom cX9_makeRoom 9 (some .int) 2 := ⟨(mG4 132 rfl rfl), (mG4 135 rfl rfl), (mG1 12 rfl rfl), ⟨by decide, by decide⟩, by decide +kernel⟩
theorem l9_90 : mML RX9 90 yX9_reach cX9_reach 6 (some .int) 3 := ⟨(mG4 136 rfl rfl), (mG4 139 rfl rfl), (mG1 12 rfl rfl), ⟨by decide, by decide⟩, by decide +kernel⟩
theorem l9_94 : mML RX9 94 yX9_moveOver cX9_moveOver 9 (some .int) 3 := ⟨(mG4 140 rfl rfl), (mG4 143 rfl rfl), (mG1 12 rfl rfl), ⟨by decide, by decide⟩, by decide +kernel⟩
theorem l10_49 : mML RX10 49 yX4_isLike cX4_isLike 2 (some .boolean) 1 := ⟨(mG5 27 rfl rfl), (mG5 30 rfl rfl), (mG1 15 rfl rfl), ⟨by decide, by decide⟩, by decide +kernel⟩
theorem l10_57 : mML RX10 57 yX4_copy cX4_copy 2 none 1 := ⟨(mG5 31 rfl rfl), (mG4 194 rfl rfl), (mG1 15 rfl rfl), ⟨by decide, by decide⟩, by decide +kernel⟩
theorem l10_78 : mML RX10 78 yX9_standing cX9_standing 5 (some .int) 3 := ⟨(mG5 36 rfl rfl), (mG4 109 rfl rfl), (mG1 12 rfl rfl), ⟨by decide, by decide⟩, by decide +kernel⟩
theorem l10_84 : mML RX10 84 yX10_canBreak cX10_canBreak 2 (some .boolean) 1 := ⟨(mG5 49 rfl rfl), (mG5 52 rfl rfl), (mG1 14 rfl rfl), ⟨by decide, by decide⟩, by decide +kernel⟩
theorem l10_88 : mML RX10 88 yJ6_bitCount_0f7a4 cJ6_bitCount_0f7a4 1 (some .int) 1 := ⟨(mG5 53 rfl rfl), (mG5 55 rfl rfl), (mG1 19 rfl rfl), ⟨by decide, by decide⟩, by decide +kernel⟩
theorem l10_94 : mML RX10 94 yX10_upIf cX10_upIf 3 (some .int) 1 := ⟨(mG5 59 rfl rfl), (mG5 35 rfl rfl), (mG1 14 rfl rfl), ⟨by decide, by decide⟩, by decide +kernel⟩
theorem l10_97 : mML RX10 97 yX10_endsClashes cX10_endsClashes 4 (some .boolean) 1 := ⟨(mG5 115 rfl rfl), (mG5 118 rfl rfl), (mG1 14 rfl rfl), ⟨by decide, by decide⟩, by decide +kernel⟩
theorem l10_106 : mML RX10 106 yX10_brokenBy cX10_brokenBy 4 (some .int) 1 := ⟨(mG5 68 rfl rfl), (mG5 71 rfl rfl), (mG1 14 rfl rfl), ⟨by decide, by decide⟩, by decide +kernel⟩
theorem l10_109 : mML RX10 109 yX10_chanceOfChoices cX10_chanceOfChoices 4 (some .int) 1 := ⟨(mG5 72 rfl rfl), (mG5 75 rfl rfl), (mG1 14 rfl rfl), ⟨by decide, by decide⟩, by decide +kernel⟩
theorem l10_118 : mML RX10 118 yX10_layBase cX10_layBase 2 none 1 := ⟨(mG5 84 rfl rfl), (mG5 87 rfl rfl), (mG1 14 rfl rfl), ⟨by decide, by decide⟩, by decide +kernel⟩
theorem l10_122 : mML RX10 122 yX10_addChances cX10_addChances 7 none 3 := ⟨(mG5 95 rfl rfl), (mG5 98 rfl rfl), (mG1 14 rfl rfl), ⟨by decide, by decide⟩, by decide +kernel⟩
theorem l10_132 : mML RX10 132 yX10_prefer cX10_prefer 4 none 2 := ⟨(mG5 103 rfl rfl), (mG5 106 rfl rfl), (mG1 14 rfl rfl), ⟨by decide, by decide⟩, by decide +kernel⟩
theorem l10_136 : mML RX10 136 yX9_save cX9_save 1 none 0 := ⟨(mG5 88 rfl rfl), (mG5 91 rfl rfl), (mG1 12 rfl rfl), ⟨by decide, by decide⟩, by decide +kernel⟩
theorem l10_139 : mML RX10 139 yX9_bearsNew cX9_bearsNew 3 (some .boolean) 2 := ⟨(mG5 99 rfl rfl), (mG5 102 rfl rfl), (mG1 12 rfl rfl), ⟨by decide, by decide⟩, by decide +kernel⟩
theorem l10_152 : mML RX10 152 yX8_agrees cX8_agrees 2 (some .boolean) 1 := ⟨(mG5 156 rfl rfl), (mG5 159 rfl rfl), (mG1 4 rfl rfl), ⟨by decide, by decide⟩, by decide +kernel⟩
theorem l10_157 : mML RX10 157 yX10_addSet cX10_addSet 3 none 1 := ⟨(mG5 160 rfl rfl), (mG5 163 rfl rfl), (mG1 14 rfl rfl), ⟨by decide, by decide⟩, by decide +kernel⟩
theorem l10_169 : mML RX10 169 yX9_settle cX9_settle 7 none 2 := ⟨(mG5 180 rfl rfl), (mG4 127 rfl rfl), (mG1 12 rfl rfl), ⟨by decide, by decide⟩, by decide +kernel⟩
theorem l10_182 : mML RX10 182 yX10_choose cX10_choose 3 none 1 := ⟨(mG5 176 rfl rfl), (mG5 179 rfl rfl), (mG1 14 rfl rfl), ⟨by decide, by decide⟩, by decide +kernel⟩
theorem l10_185 : mML RX10 185 yX10_gainOf cX10_gainOf 6 (some .int) 2 := ⟨(mG5 181 rfl rfl), (mG5 184 rfl rfl), (mG1 14 rfl rfl), ⟨by decide, by decide⟩, by decide +kernel⟩
theorem lL_7 : mML "OathWallsLaw" 7 yX11_gains cX11_gains 3 (some .int) 2 := ⟨(mG6 0 rfl rfl), (mG6 3 rfl rfl), (mG1 1 rfl rfl), ⟨by decide, by decide⟩, by decide +kernel⟩
theorem lL_15 : mML "OathWallsLaw" 15 yX11_init cX11_init 2 none 0 := ⟨(mG1 27 rfl rfl), (mG1 29 rfl rfl), (mG1 1 rfl rfl), ⟨by decide, by decide⟩, by decide +kernel⟩
theorem lL_18 : mML "OathWallsLaw" 18 yX12_init cX12_init 1 none 0 := ⟨(mG6 69 rfl rfl), (mG6 71 rfl rfl), (mG1 17 rfl rfl), ⟨by decide, by decide⟩, by decide +kernel⟩
theorem lL_21 : mML "OathWallsLaw" 21 yX11_feed cX11_feed 7 (some .int) 3 := ⟨(mG3 151 rfl rfl), (mG3 154 rfl rfl), (mG1 1 rfl rfl), ⟨by decide, by decide⟩, by decide +kernel⟩
theorem lL_25 : mML "OathWallsLaw" 25 yX12_feed cX12_feed 11 (some .int) 3 := ⟨(mG7 38 rfl rfl), (mG7 41 rfl rfl), (mG1 17 rfl rfl), ⟨by decide, by decide⟩, by decide +kernel⟩
theorem lL_26 : mML "OathWallsLaw" 26 yX11_city cX11_city 3 (some .int) 0 := ⟨(mG3 159 rfl rfl), (mG3 162 rfl rfl), (mG1 1 rfl rfl), ⟨by decide, by decide⟩, by decide +kernel⟩
theorem lL_30 : mML "OathWallsLaw" 30 yX12_city cX12_city 2 (some .int) 0 := ⟨(mG7 43 rfl rfl), (mG7 46 rfl rfl), (mG1 17 rfl rfl), ⟨by decide, by decide⟩, by decide +kernel⟩
theorem lL_31 : mML "OathWallsLaw" 31 yX11_life cX11_life 2 (some .int) 0 := ⟨(mG4 144 rfl rfl), (mG4 147 rfl rfl), (mG1 1 rfl rfl), ⟨by decide, by decide⟩, by decide +kernel⟩
theorem lL_34 : mML "OathWallsLaw" 34 yX12_life cX12_life 1 (some .int) 0 := ⟨(mG8 13 rfl rfl), (mG8 16 rfl rfl), (mG1 17 rfl rfl), ⟨by decide, by decide⟩, by decide +kernel⟩
theorem lL_35 : mML "OathWallsLaw" 35 yX11_person cX11_person 3 (some .int) 2 := ⟨(mG4 165 rfl rfl), (mG4 168 rfl rfl), (mG1 1 rfl rfl), ⟨by decide, by decide⟩, by decide +kernel⟩
theorem lL_38 : mML "OathWallsLaw" 38 yX12_person cX12_person 3 (some .int) 2 := ⟨(mG8 25 rfl rfl), (mG8 28 rfl rfl), (mG1 17 rfl rfl), ⟨by decide, by decide⟩, by decide +kernel⟩
theorem lL_39 : mML "OathWallsLaw" 39 yX11_oath cX11_oath 3 (some .int) 2 := ⟨(mG4 169 rfl rfl), (mG4 172 rfl rfl), (mG1 1 rfl rfl), ⟨by decide, by decide⟩, by decide +kernel⟩
theorem lL_42 : mML "OathWallsLaw" 42 yX12_oath cX12_oath 3 (some .int) 2 := ⟨(mG8 33 rfl rfl), (mG8 36 rfl rfl), (mG1 17 rfl rfl), ⟨by decide, by decide⟩, by decide +kernel⟩
theorem lL_43 : mML "OathWallsLaw" 43 yX11_stone cX11_stone 3 (some .int) 2 := ⟨(mG4 178 rfl rfl), (mG4 181 rfl rfl), (mG1 1 rfl rfl), ⟨by decide, by decide⟩, by decide +kernel⟩
theorem lL_46 : mML "OathWallsLaw" 46 yX12_stone cX12_stone 3 (some .int) 2 := ⟨(mG8 41 rfl rfl), (mG8 44 rfl rfl), (mG1 17 rfl rfl), ⟨by decide, by decide⟩, by decide +kernel⟩
theorem lL_47 : mML "OathWallsLaw" 47 yX11_breaks cX11_breaks 2 (some .int) 1 := ⟨(mG4 187 rfl rfl), (mG4 190 rfl rfl), (mG1 1 rfl rfl), ⟨by decide, by decide⟩, by decide +kernel⟩
theorem lL_51 : mML "OathWallsLaw" 51 yX12_breaks cX12_breaks 2 (some .int) 1 := ⟨(mG8 49 rfl rfl), (mG8 52 rfl rfl), (mG1 17 rfl rfl), ⟨by decide, by decide⟩, by decide +kernel⟩
theorem lL_52 : mML "OathWallsLaw" 52 yX11_forgive cX11_forgive 2 (some .boolean) 1 := ⟨(mG4 204 rfl rfl), (mG4 207 rfl rfl), (mG1 1 rfl rfl), ⟨by decide, by decide⟩, by decide +kernel⟩
theorem lL_56 : mML "OathWallsLaw" 56 yX12_forgive cX12_forgive 2 (some .boolean) 1 := ⟨(mG8 64 rfl rfl), (mG8 67 rfl rfl), (mG1 17 rfl rfl), ⟨by decide, by decide⟩, by decide +kernel⟩
theorem lL_57 : mML "OathWallsLaw" 57 yX11_raise cX11_raise 2 (some .boolean) 1 := ⟨(mG4 212 rfl rfl), (mG4 215 rfl rfl), (mG1 1 rfl rfl), ⟨by decide, by decide⟩, by decide +kernel⟩
theorem lL_60 : mML "OathWallsLaw" 60 yX12_raise cX12_raise 2 (some .boolean) 1 := ⟨(mG8 72 rfl rfl), (mG8 75 rfl rfl), (mG1 17 rfl rfl), ⟨by decide, by decide⟩, by decide +kernel⟩
theorem lL_61 : mML "OathWallsLaw" 61 yX11_years cX11_years 3 (some .int) 1 := ⟨(mG4 221 rfl rfl), (mG4 224 rfl rfl), (mG1 1 rfl rfl), ⟨by decide, by decide⟩, by decide +kernel⟩
theorem lL_64 : mML "OathWallsLaw" 64 yX12_years cX12_years 4 (some .int) 1 := ⟨(mG8 80 rfl rfl), (mG8 83 rfl rfl), (mG1 17 rfl rfl), ⟨by decide, by decide⟩, by decide +kernel⟩
theorem lL_65 : mML "OathWallsLaw" 65 yX11_undo cX11_undo 1 (some .boolean) 0 := ⟨(mG4 229 rfl rfl), (mG4 232 rfl rfl), (mG1 1 rfl rfl), ⟨by decide, by decide⟩, by decide +kernel⟩
theorem lL_69 : mML "OathWallsLaw" 69 yX12_undo cX12_undo 1 (some .boolean) 0 := ⟨(mG8 88 rfl rfl), (mG8 91 rfl rfl), (mG1 17 rfl rfl), ⟨by decide, by decide⟩, by decide +kernel⟩
theorem lL_70 : mML "OathWallsLaw" 70 yX11_judged cX11_judged 2 (some .int) 1 := ⟨(mG4 233 rfl rfl), (mG4 236 rfl rfl), (mG1 1 rfl rfl), ⟨by decide, by decide⟩, by decide +kernel⟩
theorem lL_73 : mML "OathWallsLaw" 73 yX12_judged cX12_judged 5 (some .int) 1 := ⟨(mG8 92 rfl rfl), (mG8 95 rfl rfl), (mG1 17 rfl rfl), ⟨by decide, by decide⟩, by decide +kernel⟩
theorem lL_74 : mML "OathWallsLaw" 74 yX11_bears cX11_bears 1 (some .int) 0 := ⟨(mG5 10 rfl rfl), (mG5 13 rfl rfl), (mG1 1 rfl rfl), ⟨by decide, by decide⟩, by decide +kernel⟩
theorem lL_77 : mML "OathWallsLaw" 77 yX12_bears cX12_bears 6 (some .int) 0 := ⟨(mG8 100 rfl rfl), (mG8 103 rfl rfl), (mG1 17 rfl rfl), ⟨by decide, by decide⟩, by decide +kernel⟩
theorem lL_78 : mML "OathWallsLaw" 78 yX11_stands cX11_stands 2 (some .int) 1 := ⟨(mG5 19 rfl rfl), (mG5 22 rfl rfl), (mG1 1 rfl rfl), ⟨by decide, by decide⟩, by decide +kernel⟩
theorem lL_81 : mML "OathWallsLaw" 81 yX12_stands cX12_stands 2 (some .int) 1 := ⟨(mG8 111 rfl rfl), (mG8 114 rfl rfl), (mG1 17 rfl rfl), ⟨by decide, by decide⟩, by decide +kernel⟩
theorem lL_82 : mML "OathWallsLaw" 82 yX11_weakest cX11_weakest 2 (some .int) 1 := ⟨(mG5 37 rfl rfl), (mG5 40 rfl rfl), (mG1 1 rfl rfl), ⟨by decide, by decide⟩, by decide +kernel⟩
theorem lL_85 : mML "OathWallsLaw" 85 yX12_weakest cX12_weakest 4 (some .int) 1 := ⟨(mG8 127 rfl rfl), (mG8 130 rfl rfl), (mG1 17 rfl rfl), ⟨by decide, by decide⟩, by decide +kernel⟩
theorem lL_86 : mML "OathWallsLaw" 86 yX11_sure cX11_sure 2 (some .int) 1 := ⟨(mG5 60 rfl rfl), (mG5 63 rfl rfl), (mG1 1 rfl rfl), ⟨by decide, by decide⟩, by decide +kernel⟩
theorem lL_89 : mML "OathWallsLaw" 89 yX12_sure cX12_sure 2 (some .int) 1 := ⟨(mG8 134 rfl rfl), (mG8 137 rfl rfl), (mG1 17 rfl rfl), ⟨by decide, by decide⟩, by decide +kernel⟩
theorem lL_90 : mML "OathWallsLaw" 90 yX11_surest cX11_surest 3 (some .int) 2 := ⟨(mG5 76 rfl rfl), (mG5 79 rfl rfl), (mG1 1 rfl rfl), ⟨by decide, by decide⟩, by decide +kernel⟩
theorem lL_93 : mML "OathWallsLaw" 93 yX12_surest cX12_surest 9 (some .int) 2 := ⟨(mG8 142 rfl rfl), (mG8 145 rfl rfl), (mG1 17 rfl rfl), ⟨by decide, by decide⟩, by decide +kernel⟩
theorem lL_94 : mML "OathWallsLaw" 94 yX11_keep cX11_keep 1 (some .int) 0 := ⟨(mG5 107 rfl rfl), (mG5 110 rfl rfl), (mG1 1 rfl rfl), ⟨by decide, by decide⟩, by decide +kernel⟩
theorem lL_97 : mML "OathWallsLaw" 97 yX12_keep cX12_keep 4 (some .int) 0 := ⟨(mG8 146 rfl rfl), (mG8 149 rfl rfl), (mG1 17 rfl rfl), ⟨by decide, by decide⟩, by decide +kernel⟩
theorem lL_98 : mML "OathWallsLaw" 98 yX11_repair cX11_repair 3 (some .int) 2 := ⟨(mG5 119 rfl rfl), (mG5 122 rfl rfl), (mG1 1 rfl rfl), ⟨by decide, by decide⟩, by decide +kernel⟩
theorem lL_101 : mML "OathWallsLaw" 101 yX12_repair cX12_repair 3 (some .int) 2 := ⟨(mG8 154 rfl rfl), (mG8 157 rfl rfl), (mG1 17 rfl rfl), ⟨by decide, by decide⟩, by decide +kernel⟩
theorem lL_102 : mML "OathWallsLaw" 102 yX11_hear cX11_hear 3 (some .boolean) 2 := ⟨(mG5 144 rfl rfl), (mG5 147 rfl rfl), (mG1 1 rfl rfl), ⟨by decide, by decide⟩, by decide +kernel⟩
theorem lL_106 : mML "OathWallsLaw" 106 yX12_hear cX12_hear 3 (some .boolean) 2 := ⟨(mG8 166 rfl rfl), (mG8 169 rfl rfl), (mG1 17 rfl rfl), ⟨by decide, by decide⟩, by decide +kernel⟩
theorem lL_107 : mML "OathWallsLaw" 107 yX11_broken cX11_broken 3 (some .int) 2 := ⟨(mG5 148 rfl rfl), (mG5 151 rfl rfl), (mG1 1 rfl rfl), ⟨by decide, by decide⟩, by decide +kernel⟩
theorem lL_110 : mML "OathWallsLaw" 110 yX12_broken cX12_broken 11 (some .int) 2 := ⟨(mG8 170 rfl rfl), (mG8 173 rfl rfl), (mG1 17 rfl rfl), ⟨by decide, by decide⟩, by decide +kernel⟩
theorem lL_111 : mML "OathWallsLaw" 111 yX11_rests cX11_rests 4 (some .int) 1 := ⟨(mG5 168 rfl rfl), (mG5 171 rfl rfl), (mG1 1 rfl rfl), ⟨by decide, by decide⟩, by decide +kernel⟩
theorem lL_114 : mML "OathWallsLaw" 114 yX12_rests cX12_rests 6 (some .int) 1 := ⟨(mG8 186 rfl rfl), (mG8 189 rfl rfl), (mG1 17 rfl rfl), ⟨by decide, by decide⟩, by decide +kernel⟩
theorem lL_120 : mML "OathWallsLaw" 120 yX12_gains cX12_gains 3 (some .int) 2 := ⟨(mG8 178 rfl rfl), (mG8 181 rfl rfl), (mG1 17 rfl rfl), ⟨by decide, by decide⟩, by decide +kernel⟩
theorem lL_121 : mML "OathWallsLaw" 121 yX12_thrown cX12_thrown 1 (some .int) 0 := ⟨(mG7 34 rfl rfl), (mG7 37 rfl rfl), (mG1 17 rfl rfl), ⟨by decide, by decide⟩, by decide +kernel⟩
theorem lL_124 : mML "OathWallsLaw" 124 yX11_centuries cX11_centuries 4 (some .int) 3 := ⟨(mG5 189 rfl rfl), (mG5 192 rfl rfl), (mG1 1 rfl rfl), ⟨by decide, by decide⟩, by decide +kernel⟩
theorem lL_128 : mML "OathWallsLaw" 128 yX12_centuries cX12_centuries 6 (some .int) 3 := ⟨(mG8 190 rfl rfl), (mG8 193 rfl rfl), (mG1 17 rfl rfl), ⟨by decide, by decide⟩, by decide +kernel⟩
theorem lL_129 : mML "OathWallsLaw" 129 yX11_mark cX11_mark 3 (some .boolean) 2 := ⟨(mG5 213 rfl rfl), (mG5 216 rfl rfl), (mG1 1 rfl rfl), ⟨by decide, by decide⟩, by decide +kernel⟩
theorem lL_132 : mML "OathWallsLaw" 132 yX12_mark cX12_mark 5 (some .boolean) 2 := ⟨(mG8 209 rfl rfl), (mG8 212 rfl rfl), (mG1 17 rfl rfl), ⟨by decide, by decide⟩, by decide +kernel⟩
theorem lL_133 : mML "OathWallsLaw" 133 yX11_count cX11_count 2 (some .int) 1 := ⟨(mG5 222 rfl rfl), (mG5 225 rfl rfl), (mG1 1 rfl rfl), ⟨by decide, by decide⟩, by decide +kernel⟩
theorem lL_136 : mML "OathWallsLaw" 136 yX12_count cX12_count 2 (some .int) 1 := ⟨(mG8 217 rfl rfl), (mG8 220 rfl rfl), (mG1 17 rfl rfl), ⟨by decide, by decide⟩, by decide +kernel⟩
theorem l12_153 : mML RX12 153 yX12_plain cX12_plain 3 none 1 := ⟨(mG6 73 rfl rfl), (mG6 76 rfl rfl), (mG1 17 rfl rfl), ⟨by decide, by decide⟩, by decide +kernel⟩
theorem l12_185 : mML RX12 185 yX12_signAt cX12_signAt 2 (some .int) 1 := ⟨(mG7 59 rfl rfl), (mG7 62 rfl rfl), (mG1 17 rfl rfl), ⟨by decide, by decide⟩, by decide +kernel⟩
theorem l12_207 : mML RX12 207 yX12_fact cX12_fact 1 (some .int) 0 := ⟨(mG7 176 rfl rfl), (mG7 179 rfl rfl), (mG1 17 rfl rfl), ⟨by decide, by decide⟩, by decide +kernel⟩
theorem l12_213 : mML RX12 213 yX12_isWord cX12_isWord 3 (some .boolean) 1 := ⟨(mG7 66 rfl rfl), (mG7 69 rfl rfl), (mG1 17 rfl rfl), ⟨by decide, by decide⟩, by decide +kernel⟩
theorem l12_217 : mML RX12 217 yX12_isSign cX12_isSign 2 (some .boolean) 1 := ⟨(mG7 144 rfl rfl), (mG7 147 rfl rfl), (mG1 17 rfl rfl), ⟨by decide, by decide⟩, by decide +kernel⟩
theorem l12_221 : mML RX12 221 yX12_fails cX12_fails 2 (some .boolean) 1 := ⟨(mG7 74 rfl rfl), (mG7 77 rfl rfl), (mG1 17 rfl rfl), ⟨by decide, by decide⟩, by decide +kernel⟩
theorem l12_224 : mML RX12 224 yX12_puts cX12_puts 2 none 1 := ⟨(mG7 184 rfl rfl), (mG7 187 rfl rfl), (mG1 17 rfl rfl), ⟨by decide, by decide⟩, by decide +kernel⟩
theorem l12_227 : mML RX12 227 yX12_nextToken cX12_nextToken 2 none 0 := ⟨(mG7 55 rfl rfl), (mG7 58 rfl rfl), (mG1 17 rfl rfl), ⟨by decide, by decide⟩, by decide +kernel⟩
theorem l12_234 : mML RX12 234 yX12_sums cX12_sums 2 none 1 := ⟨(mG7 234 rfl rfl), (mG7 237 rfl rfl), (mG1 17 rfl rfl), ⟨by decide, by decide⟩, by decide +kernel⟩
theorem l12_237 : mML RX12 237 yX12_opens cX12_opens 2 none 1 := ⟨(mG7 230 rfl rfl), (mG7 233 rfl rfl), (mG1 17 rfl rfl), ⟨by decide, by decide⟩, by decide +kernel⟩
theorem l12_240 : mML RX12 240 yX12_tests cX12_tests 3 none 1 := ⟨(mG7 238 rfl rfl), (mG8 1 rfl rfl), (mG1 17 rfl rfl), ⟨by decide, by decide⟩, by decide +kernel⟩
theorem l12_287 : mML RX12 287 yX12_named cX12_named 6 (some .int) 4 := ⟨(mG7 114 rfl rfl), (mG7 116 rfl rfl), (mG1 17 rfl rfl), ⟨by decide, by decide⟩, by decide +kernel⟩
theorem l12_291 : mML RX12 291 yX12_within cX12_within 3 (some .boolean) 3 := ⟨(mG7 137 rfl rfl), (mG7 139 rfl rfl), (mG1 17 rfl rfl), ⟨by decide, by decide⟩, by decide +kernel⟩
theorem l12_298 : mML RX12 298 yX12_needsWord cX12_needsWord 3 (some .boolean) 1 := ⟨(mG7 129 rfl rfl), (mG7 132 rfl rfl), (mG1 17 rfl rfl), ⟨by decide, by decide⟩, by decide +kernel⟩
theorem l12_301 : mML RX12 301 yX12_needsNumber cX12_needsNumber 3 (some .boolean) 2 := ⟨(mG7 133 rfl rfl), (mG7 136 rfl rfl), (mG1 17 rfl rfl), ⟨by decide, by decide⟩, by decide +kernel⟩
theorem l12_305 : mML RX12 305 yX12_isKept cX12_isKept 1 (some .boolean) 0 := ⟨(mG7 82 rfl rfl), (mG7 85 rfl rfl), (mG1 17 rfl rfl), ⟨by decide, by decide⟩, by decide +kernel⟩
theorem l12_309 : mML RX12 309 yX12_personNamed cX12_personNamed 1 (some .int) 0 := ⟨(mG7 110 rfl rfl), (mG7 113 rfl rfl), (mG1 17 rfl rfl), ⟨by decide, by decide⟩, by decide +kernel⟩
theorem l12_312 : mML RX12 312 yX12_oathNamed cX12_oathNamed 2 (some .int) 1 := ⟨(mG7 117 rfl rfl), (mG7 120 rfl rfl), (mG1 17 rfl rfl), ⟨by decide, by decide⟩, by decide +kernel⟩
theorem l12_315 : mML RX12 315 yX12_stoneNamed cX12_stoneNamed 2 (some .int) 1 := ⟨(mG7 121 rfl rfl), (mG7 124 rfl rfl), (mG1 17 rfl rfl), ⟨by decide, by decide⟩, by decide +kernel⟩
theorem l12_318 : mML RX12 318 yX12_isNew cX12_isNew 1 (some .boolean) 0 := ⟨(mG7 78 rfl rfl), (mG7 81 rfl rfl), (mG1 17 rfl rfl), ⟨by decide, by decide⟩, by decide +kernel⟩
theorem l12_321 : mML RX12 321 yX12_needsBoth cX12_needsBoth 5 (some .boolean) 3 := ⟨(mG7 125 rfl rfl), (mG7 128 rfl rfl), (mG1 17 rfl rfl), ⟨by decide, by decide⟩, by decide +kernel⟩
theorem l12_325 : mML RX12 325 yX12_closes cX12_closes 1 (some .boolean) 0 := ⟨(mG7 140 rfl rfl), (mG7 143 rfl rfl), (mG1 17 rfl rfl), ⟨by decide, by decide⟩, by decide +kernel⟩
theorem l12_328 : mML RX12 328 yX12_needsOath cX12_needsOath 2 (some .boolean) 1 := ⟨(mG7 156 rfl rfl), (mG7 159 rfl rfl), (mG1 17 rfl rfl), ⟨by decide, by decide⟩, by decide +kernel⟩
theorem l12_331 : mML RX12 331 yX12_readsOn cX12_readsOn 5 (some .boolean) 1 := ⟨(mG7 164 rfl rfl), (mG7 167 rfl rfl), (mG1 17 rfl rfl), ⟨by decide, by decide⟩, by decide +kernel⟩
theorem l12_334 : mML RX12 334 yX12_reads cX12_reads 6 (some .boolean) 0 := ⟨(mG7 172 rfl rfl), (mG7 175 rfl rfl), (mG1 17 rfl rfl), ⟨by decide, by decide⟩, by decide +kernel⟩
theorem l12_341 : mML RX12 341 yX12_starts cX12_starts 1 none 0 := ⟨(mG7 51 rfl rfl), (mG7 54 rfl rfl), (mG1 17 rfl rfl), ⟨by decide, by decide⟩, by decide +kernel⟩
theorem l12_344 : mML RX12 344 yX12_readsPerson cX12_readsPerson 4 (some .boolean) 0 := ⟨(mG7 70 rfl rfl), (mG7 73 rfl rfl), (mG1 17 rfl rfl), ⟨by decide, by decide⟩, by decide +kernel⟩
theorem l12_347 : mML RX12 347 yX12_readsOath cX12_readsOath 4 (some .boolean) 0 := ⟨(mG7 148 rfl rfl), (mG7 151 rfl rfl), (mG1 17 rfl rfl), ⟨by decide, by decide⟩, by decide +kernel⟩
theorem l12_350 : mML RX12 350 yX12_readsPair cX12_readsPair 4 (some .boolean) 1 := ⟨(mG7 152 rfl rfl), (mG7 155 rfl rfl), (mG1 17 rfl rfl), ⟨by decide, by decide⟩, by decide +kernel⟩
theorem l12_354 : mML RX12 354 yX12_readsStone cX12_readsStone 5 (some .boolean) 0 := ⟨(mG7 160 rfl rfl), (mG7 163 rfl rfl), (mG1 17 rfl rfl), ⟨by decide, by decide⟩, by decide +kernel⟩
theorem l12_357 : mML RX12 357 yX12_readsAge cX12_readsAge 1 (some .boolean) 0 := ⟨(mG7 168 rfl rfl), (mG7 171 rfl rfl), (mG1 17 rfl rfl), ⟨by decide, by decide⟩, by decide +kernel⟩
theorem l12_360 : mML RX12 360 yX12_readsMend cX12_readsMend 1 (some .boolean) 0 := ⟨(mG7 188 rfl rfl), (mG7 191 rfl rfl), (mG1 17 rfl rfl), ⟨by decide, by decide⟩, by decide +kernel⟩
theorem l12_363 : mML RX12 363 yX12_moves cX12_moves 3 none 2 := ⟨(mG7 196 rfl rfl), (mG7 198 rfl rfl), (mG1 17 rfl rfl), ⟨by decide, by decide⟩, by decide +kernel⟩
theorem l12_367 : mML RX12 367 yX12_movesNames cX12_movesNames 3 none 2 := ⟨(mG7 199 rfl rfl), (mG7 201 rfl rfl), (mG1 17 rfl rfl), ⟨by decide, by decide⟩, by decide +kernel⟩
theorem l12_371 : mML RX12 371 yX12_falls cX12_falls 2 (some .int) 0 := ⟨(mG7 206 rfl rfl), (mG7 209 rfl rfl), (mG1 17 rfl rfl), ⟨by decide, by decide⟩, by decide +kernel⟩
theorem l12_374 : mML RX12 374 yX12_readsAll cX12_readsAll 2 (some .boolean) 0 := ⟨(mG7 47 rfl rfl), (mG7 50 rfl rfl), (mG1 17 rfl rfl), ⟨by decide, by decide⟩, by decide +kernel⟩
theorem l12_377 : mML RX12 377 yX12_lays cX12_lays 1 none 0 := ⟨(mG7 192 rfl rfl), (mG7 195 rfl rfl), (mG1 17 rfl rfl), ⟨by decide, by decide⟩, by decide +kernel⟩
theorem l12_380 : mML RX12 380 yX12_fresh cX12_fresh 1 none 0 := ⟨(mG7 202 rfl rfl), (mG7 205 rfl rfl), (mG1 17 rfl rfl), ⟨by decide, by decide⟩, by decide +kernel⟩
theorem l12_386 : mML RX12 386 yX12_readsLine cX12_readsLine 3 (some .boolean) 0 := ⟨(mG8 17 rfl rfl), (mG8 20 rfl rfl), (mG1 17 rfl rfl), ⟨by decide, by decide⟩, by decide +kernel⟩
theorem l12_389 : mML RX12 389 yX12_laysLines cX12_laysLines 4 none 2 := ⟨(mG8 21 rfl rfl), (mG8 24 rfl rfl), (mG1 17 rfl rfl), ⟨by decide, by decide⟩, by decide +kernel⟩
theorem l12_393 : mML RX12 393 yX12_oathsOf cX12_oathsOf 4 (some .int) 1 := ⟨(mG7 222 rfl rfl), (mG7 225 rfl rfl), (mG1 17 rfl rfl), ⟨by decide, by decide⟩, by decide +kernel⟩
theorem l12_396 : mML RX12 396 yX12_worked cX12_worked 6 (some .int) 1 := ⟨(mG7 226 rfl rfl), (mG7 229 rfl rfl), (mG1 17 rfl rfl), ⟨by decide, by decide⟩, by decide +kernel⟩
theorem l12_399 : mML RX12 399 yX12_between cX12_between 3 (some .int) 3 := ⟨(mG8 2 rfl rfl), (mG8 4 rfl rfl), (mG1 17 rfl rfl), ⟨by decide, by decide⟩, by decide +kernel⟩
theorem l12_403 : mML RX12 403 yX12_strengthOf cX12_strengthOf 6 (some .int) 2 := ⟨(mG7 218 rfl rfl), (mG7 221 rfl rfl), (mG1 17 rfl rfl), ⟨by decide, by decide⟩, by decide +kernel⟩
theorem l12_407 : mML RX12 407 yX12_laysRests cX12_laysRests 4 none 1 := ⟨(mG8 9 rfl rfl), (mG8 12 rfl rfl), (mG1 17 rfl rfl), ⟨by decide, by decide⟩, by decide +kernel⟩
theorem l12_410 : mML RX12 410 yX12_laysStrengths cX12_laysStrengths 4 none 1 := ⟨(mG7 214 rfl rfl), (mG7 217 rfl rfl), (mG1 17 rfl rfl), ⟨by decide, by decide⟩, by decide +kernel⟩
theorem l12_413 : mML RX12 413 yX12_stand cX12_stand 7 (some .boolean) 1 := ⟨(mG8 5 rfl rfl), (mG8 8 rfl rfl), (mG1 17 rfl rfl), ⟨by decide, by decide⟩, by decide +kernel⟩
theorem l12_416 : mML RX12 416 yX12_fallen cX12_fallen 5 (some .int) 2 := ⟨(mG7 210 rfl rfl), (mG7 213 rfl rfl), (mG1 17 rfl rfl), ⟨by decide, by decide⟩, by decide +kernel⟩
theorem l12_419 : mML RX12 419 yX12_isPerson cX12_isPerson 2 (some .boolean) 1 := ⟨(mG8 29 rfl rfl), (mG8 32 rfl rfl), (mG1 17 rfl rfl), ⟨by decide, by decide⟩, by decide +kernel⟩
theorem l12_422 : mML RX12 422 yX12_isOath cX12_isOath 2 (some .boolean) 1 := ⟨(mG8 37 rfl rfl), (mG8 40 rfl rfl), (mG1 17 rfl rfl), ⟨by decide, by decide⟩, by decide +kernel⟩
theorem l12_425 : mML RX12 425 yX12_isStone cX12_isStone 2 (some .boolean) 1 := ⟨(mG8 45 rfl rfl), (mG8 48 rfl rfl), (mG1 17 rfl rfl), ⟨by decide, by decide⟩, by decide +kernel⟩
theorem l12_428 : mML RX12 428 yX12_copies cX12_copies 5 none 4 := ⟨(mG8 61 rfl rfl), (mG8 63 rfl rfl), (mG1 17 rfl rfl), ⟨by decide, by decide⟩, by decide +kernel⟩
theorem l12_432 : mML RX12 432 yX12_canBreak cX12_canBreak 2 (some .boolean) 1 := ⟨(mG8 53 rfl rfl), (mG8 56 rfl rfl), (mG1 17 rfl rfl), ⟨by decide, by decide⟩, by decide +kernel⟩
theorem l12_435 : mML RX12 435 yX12_keeps cX12_keeps 2 none 0 := ⟨(mG8 57 rfl rfl), (mG8 60 rfl rfl), (mG1 17 rfl rfl), ⟨by decide, by decide⟩, by decide +kernel⟩
theorem l12_438 : mML RX12 438 yX12_forgives cX12_forgives 2 none 1 := ⟨(mG8 68 rfl rfl), (mG8 71 rfl rfl), (mG1 17 rfl rfl), ⟨by decide, by decide⟩, by decide +kernel⟩
theorem l12_441 : mML RX12 441 yX12_canRaise cX12_canRaise 2 (some .boolean) 1 := ⟨(mG8 76 rfl rfl), (mG8 79 rfl rfl), (mG1 17 rfl rfl), ⟨by decide, by decide⟩, by decide +kernel⟩
theorem l12_444 : mML RX12 444 yX12_passes cX12_passes 1 (some .int) 0 := ⟨(mG8 84 rfl rfl), (mG8 87 rfl rfl), (mG1 17 rfl rfl), ⟨by decide, by decide⟩, by decide +kernel⟩
theorem l12_450 : mML RX12 450 yX12_goes cX12_goes 4 (some .boolean) 1 := ⟨(mG8 96 rfl rfl), (mG8 99 rfl rfl), (mG1 17 rfl rfl), ⟨by decide, by decide⟩, by decide +kernel⟩
theorem l12_453 : mML RX12 453 yX12_weighed cX12_weighed 4 (some .int) 1 := ⟨(mG8 104 rfl rfl), (mG8 107 rfl rfl), (mG1 17 rfl rfl), ⟨by decide, by decide⟩, by decide +kernel⟩
theorem l12_456 : mML RX12 456 yJ9_min_7cf53 cJ9_min_7cf53 2 (some .int) 2 := ⟨(mG8 108 rfl rfl), (mG8 110 rfl rfl), (mG1 18 rfl rfl), ⟨by decide, by decide⟩, by decide +kernel⟩
theorem l12_461 : mML RX12 461 yX12_loose cX12_loose 3 (some .int) 0 := ⟨(mG8 123 rfl rfl), (mG8 126 rfl rfl), (mG1 17 rfl rfl), ⟨by decide, by decide⟩, by decide +kernel⟩
theorem l12_464 : mML RX12 464 yX12_allOaths cX12_allOaths 1 (some .int) 0 := ⟨(mG8 115 rfl rfl), (mG8 118 rfl rfl), (mG1 17 rfl rfl), ⟨by decide, by decide⟩, by decide +kernel⟩
theorem l12_467 : mML RX12 467 yX12_upIf cX12_upIf 2 (some .int) 1 := ⟨(mG8 119 rfl rfl), (mG8 122 rfl rfl), (mG1 17 rfl rfl), ⟨by decide, by decide⟩, by decide +kernel⟩
theorem l12_470 : mML RX12 470 yX12_bits cX12_bits 3 (some .int) 1 := ⟨(mG8 131 rfl rfl), (mG8 133 rfl rfl), (mG1 17 rfl rfl), ⟨by decide, by decide⟩, by decide +kernel⟩
theorem l12_473 : mML RX12 473 yX12_sureOf cX12_sureOf 8 (some .int) 1 := ⟨(mG8 138 rfl rfl), (mG8 141 rfl rfl), (mG1 17 rfl rfl), ⟨by decide, by decide⟩, by decide +kernel⟩
theorem l12_476 : mML RX12 476 yX12_isClashing cX12_isClashing 3 (some .boolean) 1 := ⟨(mG8 150 rfl rfl), (mG8 153 rfl rfl), (mG1 17 rfl rfl), ⟨by decide, by decide⟩, by decide +kernel⟩
theorem l12_482 : mML RX12 482 yX12_raisesAll cX12_raisesAll 2 none 0 := ⟨(mG8 162 rfl rfl), (mG8 165 rfl rfl), (mG1 17 rfl rfl), ⟨by decide, by decide⟩, by decide +kernel⟩
theorem l12_485 : mML RX12 485 yX12_apologizes cX12_apologizes 8 none 2 := ⟨(mG8 158 rfl rfl), (mG8 161 rfl rfl), (mG1 17 rfl rfl), ⟨by decide, by decide⟩, by decide +kernel⟩
theorem l12_488 : mML RX12 488 yX12_isAsHeard cX12_isAsHeard 3 (some .boolean) 1 := ⟨(mG8 174 rfl rfl), (mG8 177 rfl rfl), (mG1 17 rfl rfl), ⟨by decide, by decide⟩, by decide +kernel⟩
theorem l12_491 : mML RX12 491 yX12_hasBy cX12_hasBy 8 (some .int) 2 := ⟨(mG8 182 rfl rfl), (mG8 185 rfl rfl), (mG1 17 rfl rfl), ⟨by decide, by decide⟩, by decide +kernel⟩
theorem l12_505 : mML RX12 505 yX12_draws cX12_draws 2 (some .int) 1 := ⟨(mG8 198 rfl rfl), (mG8 201 rfl rfl), (mG1 17 rfl rfl), ⟨by decide, by decide⟩, by decide +kernel⟩
theorem l12_508 : mML RX12 508 yX12_firstOf cX12_firstOf 2 (some .int) 1 := ⟨(mG8 206 rfl rfl), (mG8 208 rfl rfl), (mG1 17 rfl rfl), ⟨by decide, by decide⟩, by decide +kernel⟩
theorem l12_517 : mML RX12 517 yX12_livesOne cX12_livesOne 4 none 1 := ⟨(mG8 194 rfl rfl), (mG8 197 rfl rfl), (mG1 17 rfl rfl), ⟨by decide, by decide⟩, by decide +kernel⟩
theorem l12_520 : mML RX12 520 yX12_laysHeard cX12_laysHeard 4 none 2 := ⟨(mG8 213 rfl rfl), (mG8 216 rfl rfl), (mG1 17 rfl rfl), ⟨by decide, by decide⟩, by decide +kernel⟩
theorem iJ6_bitCount_0f7a4 : Cond.static yJ6_bitCount_0f7a4 ∈ mGood := (mG5 54 rfl rfl)
theorem iJ9_min_7cf53 : Cond.static yJ9_min_7cf53 ∈ mGood := (mG8 109 rfl rfl)
theorem iL_gains : Cond.static yL_gains ∈ mGood := (mG5 237 rfl rfl)
theorem iX0_addOath : Cond.instanceMethod yX0_addOath ∈ mGood ∧ Cond.selects yX0_addOath.cls yX0_addOath yX0_addOath ∈ mGood := ⟨(mG4 13 rfl rfl), (mG4 14 rfl rfl)⟩
theorem iX0_clashes : Cond.instanceMethod yX0_clashes ∈ mGood ∧ Cond.selects yX0_clashes.cls yX0_clashes yX0_clashes ∈ mGood := ⟨(mG5 232 rfl rfl), (mG5 233 rfl rfl)⟩
theorem iX0_clear : Cond.instanceMethod yX0_clear ∈ mGood ∧ Cond.selects yX0_clear.cls yX0_clear yX0_clear ∈ mGood := ⟨(mG3 168 rfl rfl), (mG3 169 rfl rfl)⟩
theorem iX0_hasOath : Cond.instanceMethod yX0_hasOath ∈ mGood ∧ Cond.selects yX0_hasOath.cls yX0_hasOath yX0_hasOath ∈ mGood := ⟨(mG4 174 rfl rfl), (mG4 175 rfl rfl)⟩
theorem iX0_hasStone : Cond.instanceMethod yX0_hasStone ∈ mGood ∧ Cond.selects yX0_hasStone.cls yX0_hasStone yX0_hasStone ∈ mGood := ⟨(mG4 183 rfl rfl), (mG4 184 rfl rfl)⟩
theorem iX0_pairs : Cond.instanceMethod yX0_pairs ∈ mGood ∧ Cond.selects yX0_pairs.cls yX0_pairs yX0_pairs ∈ mGood := ⟨(mG5 228 rfl rfl), (mG5 229 rfl rfl)⟩
theorem iX0_strengthOf : Cond.instanceMethod yX0_strengthOf ∈ mGood ∧ Cond.selects yX0_strengthOf.cls yX0_strengthOf yX0_strengthOf ∈ mGood := ⟨(mG4 111 rfl rfl), (mG4 112 rfl rfl)⟩
theorem iX0_weightOf : Cond.instanceMethod yX0_weightOf ∈ mGood ∧ Cond.selects yX0_weightOf.cls yX0_weightOf yX0_weightOf ∈ mGood := ⟨(mG5 137 rfl rfl), (mG5 138 rfl rfl)⟩
theorem iX10_addChances : Cond.instanceMethod yX10_addChances ∈ mGood ∧ Cond.selects yX10_addChances.cls yX10_addChances yX10_addChances ∈ mGood := ⟨(mG5 97 rfl rfl), mGs 36 rfl⟩
theorem iX10_addSet : Cond.instanceMethod yX10_addSet ∈ mGood ∧ Cond.selects yX10_addSet.cls yX10_addSet yX10_addSet ∈ mGood := ⟨(mG5 162 rfl rfl), mGs 41 rfl⟩
theorem iX10_brokenBy : Cond.instanceMethod yX10_brokenBy ∈ mGood ∧ Cond.selects yX10_brokenBy.cls yX10_brokenBy yX10_brokenBy ∈ mGood := ⟨(mG5 70 rfl rfl), mGs 33 rfl⟩
theorem iX10_canBreak : Cond.instanceMethod yX10_canBreak ∈ mGood ∧ Cond.selects yX10_canBreak.cls yX10_canBreak yX10_canBreak ∈ mGood := ⟨(mG5 51 rfl rfl), mGs 32 rfl⟩
theorem iX10_chanceOf : Cond.instanceMethod yX10_chanceOf ∈ mGood ∧ Cond.selects yX10_chanceOf.cls yX10_chanceOf yX10_chanceOf ∈ mGood := ⟨(mG5 65 rfl rfl), (mG5 66 rfl rfl)⟩
theorem iX10_chanceOfChoices : Cond.instanceMethod yX10_chanceOfChoices ∈ mGood ∧ Cond.selects yX10_chanceOfChoices.cls yX10_chanceOfChoices yX10_chanceOfChoices ∈ mGood := ⟨(mG5 74 rfl rfl), mGs 34 rfl⟩
theorem iX10_choose : Cond.instanceMethod yX10_choose ∈ mGood ∧ Cond.selects yX10_choose.cls yX10_choose yX10_choose ∈ mGood := ⟨(mG5 177 rfl rfl), (mG5 178 rfl rfl)⟩
theorem iX10_endsClashes : Cond.instanceMethod yX10_endsClashes ∈ mGood ∧ Cond.selects yX10_endsClashes.cls yX10_endsClashes yX10_endsClashes ∈ mGood := ⟨(mG5 117 rfl rfl), mGs 38 rfl⟩
theorem iX10_evenestStone : Cond.instanceMethod yX10_evenestStone ∈ mGood ∧ Cond.selects yX10_evenestStone.cls yX10_evenestStone yX10_evenestStone ∈ mGood := ⟨(mG5 165 rfl rfl), (mG5 166 rfl rfl)⟩
theorem iX10_fewestAgainst : Cond.instanceMethod yX10_fewestAgainst ∈ mGood ∧ Cond.selects yX10_fewestAgainst.cls yX10_fewestAgainst yX10_fewestAgainst ∈ mGood := ⟨(mG5 46 rfl rfl), (mG5 47 rfl rfl)⟩
theorem iX10_fewestToKeep : Cond.instanceMethod yX10_fewestToKeep ∈ mGood ∧ Cond.selects yX10_fewestToKeep.cls yX10_fewestToKeep yX10_fewestToKeep ∈ mGood := ⟨(mG5 112 rfl rfl), (mG5 113 rfl rfl)⟩
theorem iX10_fillGains : Cond.instanceMethod yX10_fillGains ∈ mGood ∧ Cond.selects yX10_fillGains.cls yX10_fillGains yX10_fillGains ∈ mGood := ⟨(mG5 173 rfl rfl), (mG5 174 rfl rfl)⟩
theorem iX10_findSets : Cond.instanceMethod yX10_findSets ∈ mGood ∧ Cond.selects yX10_findSets.cls yX10_findSets yX10_findSets ∈ mGood := ⟨(mG5 153 rfl rfl), (mG5 154 rfl rfl)⟩
theorem iX10_findSurest : Cond.instanceMethod yX10_findSurest ∈ mGood ∧ Cond.selects yX10_findSurest.cls yX10_findSurest yX10_findSurest ∈ mGood := ⟨(mG5 81 rfl rfl), (mG5 82 rfl rfl)⟩
theorem iX10_forget : Cond.instanceMethod yX10_forget ∈ mGood ∧ Cond.selects yX10_forget.cls yX10_forget yX10_forget ∈ mGood := ⟨(mG4 99 rfl rfl), (mG4 100 rfl rfl)⟩
theorem iX10_gainOf : Cond.instanceMethod yX10_gainOf ∈ mGood ∧ Cond.selects yX10_gainOf.cls yX10_gainOf yX10_gainOf ∈ mGood := ⟨(mG5 182 rfl rfl), (mG5 183 rfl rfl)⟩
theorem iX10_isRest : Cond.instanceMethod yX10_isRest ∈ mGood ∧ Cond.selects yX10_isRest.cls yX10_isRest yX10_isRest ∈ mGood := ⟨(mG5 186 rfl rfl), (mG5 187 rfl rfl)⟩
theorem iX10_layBase : Cond.instanceMethod yX10_layBase ∈ mGood ∧ Cond.selects yX10_layBase.cls yX10_layBase yX10_layBase ∈ mGood := ⟨(mG5 86 rfl rfl), mGs 35 rfl⟩
theorem iX10_look : Cond.instanceMethod yX10_look ∈ mGood ∧ Cond.selects yX10_look.cls yX10_look yX10_look ∈ mGood := ⟨(mG5 24 rfl rfl), (mG5 25 rfl rfl)⟩
theorem iX10_prefer : Cond.instanceMethod yX10_prefer ∈ mGood ∧ Cond.selects yX10_prefer.cls yX10_prefer yX10_prefer ∈ mGood := ⟨(mG5 105 rfl rfl), mGs 37 rfl⟩
theorem iX10_upIf : Cond.instanceMethod yX10_upIf ∈ mGood ∧ Cond.selects yX10_upIf.cls yX10_upIf yX10_upIf ∈ mGood := ⟨(mG5 33 rfl rfl), (mG5 34 rfl rfl)⟩
theorem iX11_bears : Cond.instanceMethod yX11_bears ∈ mGood ∧ Cond.selects yX11_bears.cls yX11_bears yX11_bears ∈ mGood := ⟨(mG5 11 rfl rfl), (mG5 12 rfl rfl)⟩
theorem iX11_breaks : Cond.instanceMethod yX11_breaks ∈ mGood ∧ Cond.selects yX11_breaks.cls yX11_breaks yX11_breaks ∈ mGood := ⟨(mG4 188 rfl rfl), (mG4 189 rfl rfl)⟩
theorem iX11_broken : Cond.instanceMethod yX11_broken ∈ mGood ∧ Cond.selects yX11_broken.cls yX11_broken yX11_broken ∈ mGood := ⟨(mG5 149 rfl rfl), (mG5 150 rfl rfl)⟩
theorem iX11_centuries : Cond.instanceMethod yX11_centuries ∈ mGood ∧ Cond.selects yX11_centuries.cls yX11_centuries yX11_centuries ∈ mGood := ⟨(mG5 190 rfl rfl), (mG5 191 rfl rfl)⟩
theorem iX11_city : Cond.instanceMethod yX11_city ∈ mGood ∧ Cond.selects yX11_city.cls yX11_city yX11_city ∈ mGood := ⟨(mG3 160 rfl rfl), (mG3 161 rfl rfl)⟩
theorem iX11_count : Cond.instanceMethod yX11_count ∈ mGood ∧ Cond.selects yX11_count.cls yX11_count yX11_count ∈ mGood := ⟨(mG5 223 rfl rfl), (mG5 224 rfl rfl)⟩
theorem iX11_feed : Cond.instanceMethod yX11_feed ∈ mGood ∧ Cond.selects yX11_feed.cls yX11_feed yX11_feed ∈ mGood := ⟨(mG3 152 rfl rfl), (mG3 153 rfl rfl)⟩
theorem iX11_forgive : Cond.instanceMethod yX11_forgive ∈ mGood ∧ Cond.selects yX11_forgive.cls yX11_forgive yX11_forgive ∈ mGood := ⟨(mG4 205 rfl rfl), (mG4 206 rfl rfl)⟩
theorem iX11_gains : Cond.instanceMethod yX11_gains ∈ mGood ∧ Cond.selects yX11_gains.cls yX11_gains yX11_gains ∈ mGood := ⟨(mG6 1 rfl rfl), (mG6 2 rfl rfl)⟩
theorem iX11_hear : Cond.instanceMethod yX11_hear ∈ mGood ∧ Cond.selects yX11_hear.cls yX11_hear yX11_hear ∈ mGood := ⟨(mG5 145 rfl rfl), (mG5 146 rfl rfl)⟩
theorem iX11_isUp : Cond.instanceMethod yX11_isUp ∈ mGood ∧ Cond.selects yX11_isUp.cls yX11_isUp yX11_isUp ∈ mGood := ⟨(mG5 43 rfl rfl), mGs 31 rfl⟩
theorem iX11_judged : Cond.instanceMethod yX11_judged ∈ mGood ∧ Cond.selects yX11_judged.cls yX11_judged yX11_judged ∈ mGood := ⟨(mG4 234 rfl rfl), (mG4 235 rfl rfl)⟩
theorem iX11_keep : Cond.instanceMethod yX11_keep ∈ mGood ∧ Cond.selects yX11_keep.cls yX11_keep yX11_keep ∈ mGood := ⟨(mG5 108 rfl rfl), (mG5 109 rfl rfl)⟩
theorem iX11_life : Cond.instanceMethod yX11_life ∈ mGood ∧ Cond.selects yX11_life.cls yX11_life yX11_life ∈ mGood := ⟨(mG4 145 rfl rfl), (mG4 146 rfl rfl)⟩
theorem iX11_mark : Cond.instanceMethod yX11_mark ∈ mGood ∧ Cond.selects yX11_mark.cls yX11_mark yX11_mark ∈ mGood := ⟨(mG5 214 rfl rfl), (mG5 215 rfl rfl)⟩
theorem iX11_oath : Cond.instanceMethod yX11_oath ∈ mGood ∧ Cond.selects yX11_oath.cls yX11_oath yX11_oath ∈ mGood := ⟨(mG4 170 rfl rfl), (mG4 171 rfl rfl)⟩
theorem iX11_person : Cond.instanceMethod yX11_person ∈ mGood ∧ Cond.selects yX11_person.cls yX11_person yX11_person ∈ mGood := ⟨(mG4 166 rfl rfl), (mG4 167 rfl rfl)⟩
theorem iX11_raise : Cond.instanceMethod yX11_raise ∈ mGood ∧ Cond.selects yX11_raise.cls yX11_raise yX11_raise ∈ mGood := ⟨(mG4 213 rfl rfl), (mG4 214 rfl rfl)⟩
theorem iX11_remember : Cond.instanceMethod yX11_remember ∈ mGood ∧ Cond.selects yX11_remember.cls yX11_remember yX11_remember ∈ mGood := ⟨(mG4 202 rfl rfl), mGs 30 rfl⟩
theorem iX11_repair : Cond.instanceMethod yX11_repair ∈ mGood ∧ Cond.selects yX11_repair.cls yX11_repair yX11_repair ∈ mGood := ⟨(mG5 120 rfl rfl), (mG5 121 rfl rfl)⟩
theorem iX11_rests : Cond.instanceMethod yX11_rests ∈ mGood ∧ Cond.selects yX11_rests.cls yX11_rests yX11_rests ∈ mGood := ⟨(mG5 169 rfl rfl), (mG5 170 rfl rfl)⟩
theorem iX11_stands : Cond.instanceMethod yX11_stands ∈ mGood ∧ Cond.selects yX11_stands.cls yX11_stands yX11_stands ∈ mGood := ⟨(mG5 20 rfl rfl), (mG5 21 rfl rfl)⟩
theorem iX11_stone : Cond.instanceMethod yX11_stone ∈ mGood ∧ Cond.selects yX11_stone.cls yX11_stone yX11_stone ∈ mGood := ⟨(mG4 179 rfl rfl), (mG4 180 rfl rfl)⟩
theorem iX11_sure : Cond.instanceMethod yX11_sure ∈ mGood ∧ Cond.selects yX11_sure.cls yX11_sure yX11_sure ∈ mGood := ⟨(mG5 61 rfl rfl), (mG5 62 rfl rfl)⟩
theorem iX11_surest : Cond.instanceMethod yX11_surest ∈ mGood ∧ Cond.selects yX11_surest.cls yX11_surest yX11_surest ∈ mGood := ⟨(mG5 77 rfl rfl), (mG5 78 rfl rfl)⟩
theorem iX11_undo : Cond.instanceMethod yX11_undo ∈ mGood ∧ Cond.selects yX11_undo.cls yX11_undo yX11_undo ∈ mGood := ⟨(mG4 230 rfl rfl), (mG4 231 rfl rfl)⟩
theorem iX11_weakest : Cond.instanceMethod yX11_weakest ∈ mGood ∧ Cond.selects yX11_weakest.cls yX11_weakest yX11_weakest ∈ mGood := ⟨(mG5 38 rfl rfl), (mG5 39 rfl rfl)⟩
theorem iX11_years : Cond.instanceMethod yX11_years ∈ mGood ∧ Cond.selects yX11_years.cls yX11_years yX11_years ∈ mGood := ⟨(mG4 222 rfl rfl), (mG4 223 rfl rfl)⟩
theorem iX12_allOaths : Cond.instanceMethod yX12_allOaths ∈ mGood ∧ Cond.selects yX12_allOaths.cls yX12_allOaths yX12_allOaths ∈ mGood := ⟨(mG8 117 rfl rfl), mGs 98 rfl⟩
theorem iX12_apologizes : Cond.instanceMethod yX12_apologizes ∈ mGood ∧ Cond.selects yX12_apologizes.cls yX12_apologizes yX12_apologizes ∈ mGood := ⟨(mG8 160 rfl rfl), mGs 103 rfl⟩
theorem iX12_bears : Cond.instanceMethod yX12_bears ∈ mGood ∧ Cond.selects yX12_bears.cls yX12_bears yX12_bears ∈ mGood := ⟨(mG8 101 rfl rfl), (mG8 102 rfl rfl)⟩
theorem iX12_between : Cond.static yX12_between ∈ mGood := (mG8 3 rfl rfl)
theorem iX12_bits : Cond.static yX12_bits ∈ mGood := (mG8 132 rfl rfl)
theorem iX12_breaks : Cond.instanceMethod yX12_breaks ∈ mGood ∧ Cond.selects yX12_breaks.cls yX12_breaks yX12_breaks ∈ mGood := ⟨(mG8 50 rfl rfl), (mG8 51 rfl rfl)⟩
theorem iX12_broken : Cond.instanceMethod yX12_broken ∈ mGood ∧ Cond.selects yX12_broken.cls yX12_broken yX12_broken ∈ mGood := ⟨(mG8 171 rfl rfl), (mG8 172 rfl rfl)⟩
theorem iX12_canBreak : Cond.instanceMethod yX12_canBreak ∈ mGood ∧ Cond.selects yX12_canBreak.cls yX12_canBreak yX12_canBreak ∈ mGood := ⟨(mG8 55 rfl rfl), mGs 91 rfl⟩
theorem iX12_canRaise : Cond.instanceMethod yX12_canRaise ∈ mGood ∧ Cond.selects yX12_canRaise.cls yX12_canRaise yX12_canRaise ∈ mGood := ⟨(mG8 78 rfl rfl), mGs 94 rfl⟩
theorem iX12_centuries : Cond.instanceMethod yX12_centuries ∈ mGood ∧ Cond.selects yX12_centuries.cls yX12_centuries yX12_centuries ∈ mGood := ⟨(mG8 191 rfl rfl), (mG8 192 rfl rfl)⟩
theorem iX12_city : Cond.instanceMethod yX12_city ∈ mGood ∧ Cond.selects yX12_city.cls yX12_city yX12_city ∈ mGood := ⟨(mG7 44 rfl rfl), (mG7 45 rfl rfl)⟩
theorem iX12_closes : Cond.instanceMethod yX12_closes ∈ mGood ∧ Cond.selects yX12_closes.cls yX12_closes yX12_closes ∈ mGood := ⟨(mG7 142 rfl rfl), mGs 61 rfl⟩
theorem iX12_copies : Cond.static yX12_copies ∈ mGood := (mG8 62 rfl rfl)
theorem iX12_count : Cond.instanceMethod yX12_count ∈ mGood ∧ Cond.selects yX12_count.cls yX12_count yX12_count ∈ mGood := ⟨(mG8 218 rfl rfl), (mG8 219 rfl rfl)⟩
theorem iX12_draws : Cond.instanceMethod yX12_draws ∈ mGood ∧ Cond.selects yX12_draws.cls yX12_draws yX12_draws ∈ mGood := ⟨(mG8 200 rfl rfl), mGs 108 rfl⟩
theorem iX12_fact : Cond.instanceMethod yX12_fact ∈ mGood ∧ Cond.selects yX12_fact.cls yX12_fact yX12_fact ∈ mGood := ⟨(mG7 178 rfl rfl), mGs 70 rfl⟩
theorem iX12_fails : Cond.instanceMethod yX12_fails ∈ mGood ∧ Cond.selects yX12_fails.cls yX12_fails yX12_fails ∈ mGood := ⟨(mG7 76 rfl rfl), mGs 52 rfl⟩
theorem iX12_fallen : Cond.instanceMethod yX12_fallen ∈ mGood ∧ Cond.selects yX12_fallen.cls yX12_fallen yX12_fallen ∈ mGood := ⟨(mG7 212 rfl rfl), mGs 76 rfl⟩
theorem iX12_falls : Cond.instanceMethod yX12_falls ∈ mGood ∧ Cond.selects yX12_falls.cls yX12_falls yX12_falls ∈ mGood := ⟨(mG7 208 rfl rfl), mGs 75 rfl⟩
theorem iX12_feed : Cond.instanceMethod yX12_feed ∈ mGood ∧ Cond.selects yX12_feed.cls yX12_feed yX12_feed ∈ mGood := ⟨(mG7 39 rfl rfl), (mG7 40 rfl rfl)⟩
theorem iX12_firstOf : Cond.static yX12_firstOf ∈ mGood := (mG8 207 rfl rfl)
theorem iX12_forgive : Cond.instanceMethod yX12_forgive ∈ mGood ∧ Cond.selects yX12_forgive.cls yX12_forgive yX12_forgive ∈ mGood := ⟨(mG8 65 rfl rfl), (mG8 66 rfl rfl)⟩
theorem iX12_forgives : Cond.instanceMethod yX12_forgives ∈ mGood ∧ Cond.selects yX12_forgives.cls yX12_forgives yX12_forgives ∈ mGood := ⟨(mG8 70 rfl rfl), mGs 93 rfl⟩
theorem iX12_fresh : Cond.instanceMethod yX12_fresh ∈ mGood ∧ Cond.selects yX12_fresh.cls yX12_fresh yX12_fresh ∈ mGood := ⟨(mG7 204 rfl rfl), mGs 74 rfl⟩
theorem iX12_gains : Cond.instanceMethod yX12_gains ∈ mGood ∧ Cond.selects yX12_gains.cls yX12_gains yX12_gains ∈ mGood := ⟨(mG8 179 rfl rfl), (mG8 180 rfl rfl)⟩
theorem iX12_goes : Cond.instanceMethod yX12_goes ∈ mGood ∧ Cond.selects yX12_goes.cls yX12_goes yX12_goes ∈ mGood := ⟨(mG8 98 rfl rfl), mGs 96 rfl⟩
theorem iX12_hasBy : Cond.instanceMethod yX12_hasBy ∈ mGood ∧ Cond.selects yX12_hasBy.cls yX12_hasBy yX12_hasBy ∈ mGood := ⟨(mG8 184 rfl rfl), mGs 106 rfl⟩
theorem iX12_hear : Cond.instanceMethod yX12_hear ∈ mGood ∧ Cond.selects yX12_hear.cls yX12_hear yX12_hear ∈ mGood := ⟨(mG8 167 rfl rfl), (mG8 168 rfl rfl)⟩
theorem iX12_isAsHeard : Cond.instanceMethod yX12_isAsHeard ∈ mGood ∧ Cond.selects yX12_isAsHeard.cls yX12_isAsHeard yX12_isAsHeard ∈ mGood := ⟨(mG8 176 rfl rfl), mGs 105 rfl⟩
theorem iX12_isClashing : Cond.instanceMethod yX12_isClashing ∈ mGood ∧ Cond.selects yX12_isClashing.cls yX12_isClashing yX12_isClashing ∈ mGood := ⟨(mG8 152 rfl rfl), mGs 102 rfl⟩
theorem iX12_isKept : Cond.instanceMethod yX12_isKept ∈ mGood ∧ Cond.selects yX12_isKept.cls yX12_isKept yX12_isKept ∈ mGood := ⟨(mG7 84 rfl rfl), mGs 54 rfl⟩
theorem iX12_isNew : Cond.instanceMethod yX12_isNew ∈ mGood ∧ Cond.selects yX12_isNew.cls yX12_isNew yX12_isNew ∈ mGood := ⟨(mG7 80 rfl rfl), mGs 53 rfl⟩
theorem iX12_isOath : Cond.instanceMethod yX12_isOath ∈ mGood ∧ Cond.selects yX12_isOath.cls yX12_isOath yX12_isOath ∈ mGood := ⟨(mG8 39 rfl rfl), mGs 89 rfl⟩
theorem iX12_isPerson : Cond.instanceMethod yX12_isPerson ∈ mGood ∧ Cond.selects yX12_isPerson.cls yX12_isPerson yX12_isPerson ∈ mGood := ⟨(mG8 31 rfl rfl), mGs 88 rfl⟩
theorem iX12_isSign : Cond.instanceMethod yX12_isSign ∈ mGood ∧ Cond.selects yX12_isSign.cls yX12_isSign yX12_isSign ∈ mGood := ⟨(mG7 146 rfl rfl), mGs 62 rfl⟩
theorem iX12_isStone : Cond.instanceMethod yX12_isStone ∈ mGood ∧ Cond.selects yX12_isStone.cls yX12_isStone yX12_isStone ∈ mGood := ⟨(mG8 47 rfl rfl), mGs 90 rfl⟩
theorem iX12_isWord : Cond.instanceMethod yX12_isWord ∈ mGood ∧ Cond.selects yX12_isWord.cls yX12_isWord yX12_isWord ∈ mGood := ⟨(mG7 68 rfl rfl), mGs 50 rfl⟩
theorem iX12_judged : Cond.instanceMethod yX12_judged ∈ mGood ∧ Cond.selects yX12_judged.cls yX12_judged yX12_judged ∈ mGood := ⟨(mG8 93 rfl rfl), (mG8 94 rfl rfl)⟩
theorem iX12_keep : Cond.instanceMethod yX12_keep ∈ mGood ∧ Cond.selects yX12_keep.cls yX12_keep yX12_keep ∈ mGood := ⟨(mG8 147 rfl rfl), (mG8 148 rfl rfl)⟩
theorem iX12_keeps : Cond.instanceMethod yX12_keeps ∈ mGood ∧ Cond.selects yX12_keeps.cls yX12_keeps yX12_keeps ∈ mGood := ⟨(mG8 59 rfl rfl), mGs 92 rfl⟩
theorem iX12_lays : Cond.instanceMethod yX12_lays ∈ mGood ∧ Cond.selects yX12_lays.cls yX12_lays yX12_lays ∈ mGood := ⟨(mG7 194 rfl rfl), mGs 73 rfl⟩
theorem iX12_laysHeard : Cond.instanceMethod yX12_laysHeard ∈ mGood ∧ Cond.selects yX12_laysHeard.cls yX12_laysHeard yX12_laysHeard ∈ mGood := ⟨(mG8 215 rfl rfl), mGs 109 rfl⟩
theorem iX12_laysLines : Cond.instanceMethod yX12_laysLines ∈ mGood ∧ Cond.selects yX12_laysLines.cls yX12_laysLines yX12_laysLines ∈ mGood := ⟨(mG8 23 rfl rfl), mGs 87 rfl⟩
theorem iX12_laysRests : Cond.instanceMethod yX12_laysRests ∈ mGood ∧ Cond.selects yX12_laysRests.cls yX12_laysRests yX12_laysRests ∈ mGood := ⟨(mG8 11 rfl rfl), mGs 85 rfl⟩
theorem iX12_laysStrengths : Cond.instanceMethod yX12_laysStrengths ∈ mGood ∧ Cond.selects yX12_laysStrengths.cls yX12_laysStrengths yX12_laysStrengths ∈ mGood := ⟨(mG7 216 rfl rfl), mGs 77 rfl⟩
theorem iX12_life : Cond.instanceMethod yX12_life ∈ mGood ∧ Cond.selects yX12_life.cls yX12_life yX12_life ∈ mGood := ⟨(mG8 14 rfl rfl), (mG8 15 rfl rfl)⟩
theorem iX12_livesOne : Cond.instanceMethod yX12_livesOne ∈ mGood ∧ Cond.selects yX12_livesOne.cls yX12_livesOne yX12_livesOne ∈ mGood := ⟨(mG8 196 rfl rfl), mGs 107 rfl⟩
theorem iX12_loose : Cond.instanceMethod yX12_loose ∈ mGood ∧ Cond.selects yX12_loose.cls yX12_loose yX12_loose ∈ mGood := ⟨(mG8 125 rfl rfl), mGs 100 rfl⟩
theorem iX12_mark : Cond.instanceMethod yX12_mark ∈ mGood ∧ Cond.selects yX12_mark.cls yX12_mark yX12_mark ∈ mGood := ⟨(mG8 210 rfl rfl), (mG8 211 rfl rfl)⟩
theorem iX12_moves : Cond.static yX12_moves ∈ mGood := (mG7 197 rfl rfl)
theorem iX12_movesNames : Cond.static yX12_movesNames ∈ mGood := (mG7 200 rfl rfl)
theorem iX12_named : Cond.static yX12_named ∈ mGood := (mG7 115 rfl rfl)
theorem iX12_needsBoth : Cond.instanceMethod yX12_needsBoth ∈ mGood ∧ Cond.selects yX12_needsBoth.cls yX12_needsBoth yX12_needsBoth ∈ mGood := ⟨(mG7 127 rfl rfl), mGs 58 rfl⟩
theorem iX12_needsNumber : Cond.instanceMethod yX12_needsNumber ∈ mGood ∧ Cond.selects yX12_needsNumber.cls yX12_needsNumber yX12_needsNumber ∈ mGood := ⟨(mG7 135 rfl rfl), mGs 60 rfl⟩
theorem iX12_needsOath : Cond.instanceMethod yX12_needsOath ∈ mGood ∧ Cond.selects yX12_needsOath.cls yX12_needsOath yX12_needsOath ∈ mGood := ⟨(mG7 158 rfl rfl), mGs 65 rfl⟩
theorem iX12_needsWord : Cond.instanceMethod yX12_needsWord ∈ mGood ∧ Cond.selects yX12_needsWord.cls yX12_needsWord yX12_needsWord ∈ mGood := ⟨(mG7 131 rfl rfl), mGs 59 rfl⟩
theorem iX12_nextToken : Cond.instanceMethod yX12_nextToken ∈ mGood ∧ Cond.selects yX12_nextToken.cls yX12_nextToken yX12_nextToken ∈ mGood := ⟨(mG7 57 rfl rfl), mGs 48 rfl⟩
theorem iX12_oath : Cond.instanceMethod yX12_oath ∈ mGood ∧ Cond.selects yX12_oath.cls yX12_oath yX12_oath ∈ mGood := ⟨(mG8 34 rfl rfl), (mG8 35 rfl rfl)⟩
theorem iX12_oathNamed : Cond.instanceMethod yX12_oathNamed ∈ mGood ∧ Cond.selects yX12_oathNamed.cls yX12_oathNamed yX12_oathNamed ∈ mGood := ⟨(mG7 119 rfl rfl), mGs 56 rfl⟩
theorem iX12_oathsOf : Cond.instanceMethod yX12_oathsOf ∈ mGood ∧ Cond.selects yX12_oathsOf.cls yX12_oathsOf yX12_oathsOf ∈ mGood := ⟨(mG7 224 rfl rfl), mGs 79 rfl⟩
theorem iX12_opens : Cond.instanceMethod yX12_opens ∈ mGood ∧ Cond.selects yX12_opens.cls yX12_opens yX12_opens ∈ mGood := ⟨(mG7 232 rfl rfl), mGs 81 rfl⟩
theorem iX12_passes : Cond.instanceMethod yX12_passes ∈ mGood ∧ Cond.selects yX12_passes.cls yX12_passes yX12_passes ∈ mGood := ⟨(mG8 86 rfl rfl), mGs 95 rfl⟩
theorem iX12_person : Cond.instanceMethod yX12_person ∈ mGood ∧ Cond.selects yX12_person.cls yX12_person yX12_person ∈ mGood := ⟨(mG8 26 rfl rfl), (mG8 27 rfl rfl)⟩
theorem iX12_personNamed : Cond.instanceMethod yX12_personNamed ∈ mGood ∧ Cond.selects yX12_personNamed.cls yX12_personNamed yX12_personNamed ∈ mGood := ⟨(mG7 112 rfl rfl), mGs 55 rfl⟩
theorem iX12_plain : Cond.instanceMethod yX12_plain ∈ mGood ∧ Cond.selects yX12_plain.cls yX12_plain yX12_plain ∈ mGood := ⟨(mG6 75 rfl rfl), mGs 45 rfl⟩
theorem iX12_puts : Cond.instanceMethod yX12_puts ∈ mGood ∧ Cond.selects yX12_puts.cls yX12_puts yX12_puts ∈ mGood := ⟨(mG7 186 rfl rfl), mGs 71 rfl⟩
theorem iX12_raise : Cond.instanceMethod yX12_raise ∈ mGood ∧ Cond.selects yX12_raise.cls yX12_raise yX12_raise ∈ mGood := ⟨(mG8 73 rfl rfl), (mG8 74 rfl rfl)⟩
theorem iX12_raisesAll : Cond.instanceMethod yX12_raisesAll ∈ mGood ∧ Cond.selects yX12_raisesAll.cls yX12_raisesAll yX12_raisesAll ∈ mGood := ⟨(mG8 164 rfl rfl), mGs 104 rfl⟩
theorem iX12_reads : Cond.instanceMethod yX12_reads ∈ mGood ∧ Cond.selects yX12_reads.cls yX12_reads yX12_reads ∈ mGood := ⟨(mG7 174 rfl rfl), mGs 69 rfl⟩
theorem iX12_readsAge : Cond.instanceMethod yX12_readsAge ∈ mGood ∧ Cond.selects yX12_readsAge.cls yX12_readsAge yX12_readsAge ∈ mGood := ⟨(mG7 170 rfl rfl), mGs 68 rfl⟩
theorem iX12_readsAll : Cond.instanceMethod yX12_readsAll ∈ mGood ∧ Cond.selects yX12_readsAll.cls yX12_readsAll yX12_readsAll ∈ mGood := ⟨(mG7 49 rfl rfl), mGs 46 rfl⟩
theorem iX12_readsLine : Cond.instanceMethod yX12_readsLine ∈ mGood ∧ Cond.selects yX12_readsLine.cls yX12_readsLine yX12_readsLine ∈ mGood := ⟨(mG8 19 rfl rfl), mGs 86 rfl⟩
theorem iX12_readsMend : Cond.instanceMethod yX12_readsMend ∈ mGood ∧ Cond.selects yX12_readsMend.cls yX12_readsMend yX12_readsMend ∈ mGood := ⟨(mG7 190 rfl rfl), mGs 72 rfl⟩
theorem iX12_readsOath : Cond.instanceMethod yX12_readsOath ∈ mGood ∧ Cond.selects yX12_readsOath.cls yX12_readsOath yX12_readsOath ∈ mGood := ⟨(mG7 150 rfl rfl), mGs 63 rfl⟩
theorem iX12_readsOn : Cond.instanceMethod yX12_readsOn ∈ mGood ∧ Cond.selects yX12_readsOn.cls yX12_readsOn yX12_readsOn ∈ mGood := ⟨(mG7 166 rfl rfl), mGs 67 rfl⟩
theorem iX12_readsPair : Cond.instanceMethod yX12_readsPair ∈ mGood ∧ Cond.selects yX12_readsPair.cls yX12_readsPair yX12_readsPair ∈ mGood := ⟨(mG7 154 rfl rfl), mGs 64 rfl⟩
theorem iX12_readsPerson : Cond.instanceMethod yX12_readsPerson ∈ mGood ∧ Cond.selects yX12_readsPerson.cls yX12_readsPerson yX12_readsPerson ∈ mGood := ⟨(mG7 72 rfl rfl), mGs 51 rfl⟩
theorem iX12_readsStone : Cond.instanceMethod yX12_readsStone ∈ mGood ∧ Cond.selects yX12_readsStone.cls yX12_readsStone yX12_readsStone ∈ mGood := ⟨(mG7 162 rfl rfl), mGs 66 rfl⟩
theorem iX12_repair : Cond.instanceMethod yX12_repair ∈ mGood ∧ Cond.selects yX12_repair.cls yX12_repair yX12_repair ∈ mGood := ⟨(mG8 155 rfl rfl), (mG8 156 rfl rfl)⟩
theorem iX12_rests : Cond.instanceMethod yX12_rests ∈ mGood ∧ Cond.selects yX12_rests.cls yX12_rests yX12_rests ∈ mGood := ⟨(mG8 187 rfl rfl), (mG8 188 rfl rfl)⟩
theorem iX12_signAt : Cond.instanceMethod yX12_signAt ∈ mGood ∧ Cond.selects yX12_signAt.cls yX12_signAt yX12_signAt ∈ mGood := ⟨(mG7 61 rfl rfl), mGs 49 rfl⟩
theorem iX12_stand : Cond.instanceMethod yX12_stand ∈ mGood ∧ Cond.selects yX12_stand.cls yX12_stand yX12_stand ∈ mGood := ⟨(mG8 7 rfl rfl), mGs 84 rfl⟩
theorem iX12_stands : Cond.instanceMethod yX12_stands ∈ mGood ∧ Cond.selects yX12_stands.cls yX12_stands yX12_stands ∈ mGood := ⟨(mG8 112 rfl rfl), (mG8 113 rfl rfl)⟩
theorem iX12_starts : Cond.instanceMethod yX12_starts ∈ mGood ∧ Cond.selects yX12_starts.cls yX12_starts yX12_starts ∈ mGood := ⟨(mG7 53 rfl rfl), mGs 47 rfl⟩
theorem iX12_stone : Cond.instanceMethod yX12_stone ∈ mGood ∧ Cond.selects yX12_stone.cls yX12_stone yX12_stone ∈ mGood := ⟨(mG8 42 rfl rfl), (mG8 43 rfl rfl)⟩
theorem iX12_stoneNamed : Cond.instanceMethod yX12_stoneNamed ∈ mGood ∧ Cond.selects yX12_stoneNamed.cls yX12_stoneNamed yX12_stoneNamed ∈ mGood := ⟨(mG7 123 rfl rfl), mGs 57 rfl⟩
theorem iX12_strengthOf : Cond.instanceMethod yX12_strengthOf ∈ mGood ∧ Cond.selects yX12_strengthOf.cls yX12_strengthOf yX12_strengthOf ∈ mGood := ⟨(mG7 220 rfl rfl), mGs 78 rfl⟩
theorem iX12_sums : Cond.instanceMethod yX12_sums ∈ mGood ∧ Cond.selects yX12_sums.cls yX12_sums yX12_sums ∈ mGood := ⟨(mG7 236 rfl rfl), mGs 82 rfl⟩
theorem iX12_sure : Cond.instanceMethod yX12_sure ∈ mGood ∧ Cond.selects yX12_sure.cls yX12_sure yX12_sure ∈ mGood := ⟨(mG8 135 rfl rfl), (mG8 136 rfl rfl)⟩
theorem iX12_sureOf : Cond.instanceMethod yX12_sureOf ∈ mGood ∧ Cond.selects yX12_sureOf.cls yX12_sureOf yX12_sureOf ∈ mGood := ⟨(mG8 140 rfl rfl), mGs 101 rfl⟩
theorem iX12_surest : Cond.instanceMethod yX12_surest ∈ mGood ∧ Cond.selects yX12_surest.cls yX12_surest yX12_surest ∈ mGood := ⟨(mG8 143 rfl rfl), (mG8 144 rfl rfl)⟩
theorem iX12_tests : Cond.instanceMethod yX12_tests ∈ mGood ∧ Cond.selects yX12_tests.cls yX12_tests yX12_tests ∈ mGood := ⟨(mG8 0 rfl rfl), mGs 83 rfl⟩
theorem iX12_thrown : Cond.instanceMethod yX12_thrown ∈ mGood ∧ Cond.selects yX12_thrown.cls yX12_thrown yX12_thrown ∈ mGood := ⟨(mG7 35 rfl rfl), (mG7 36 rfl rfl)⟩
theorem iX12_undo : Cond.instanceMethod yX12_undo ∈ mGood ∧ Cond.selects yX12_undo.cls yX12_undo yX12_undo ∈ mGood := ⟨(mG8 89 rfl rfl), (mG8 90 rfl rfl)⟩
theorem iX12_upIf : Cond.instanceMethod yX12_upIf ∈ mGood ∧ Cond.selects yX12_upIf.cls yX12_upIf yX12_upIf ∈ mGood := ⟨(mG8 121 rfl rfl), mGs 99 rfl⟩
theorem iX12_weakest : Cond.instanceMethod yX12_weakest ∈ mGood ∧ Cond.selects yX12_weakest.cls yX12_weakest yX12_weakest ∈ mGood := ⟨(mG8 128 rfl rfl), (mG8 129 rfl rfl)⟩
theorem iX12_weighed : Cond.instanceMethod yX12_weighed ∈ mGood ∧ Cond.selects yX12_weighed.cls yX12_weighed yX12_weighed ∈ mGood := ⟨(mG8 106 rfl rfl), mGs 97 rfl⟩
theorem iX12_within : Cond.static yX12_within ∈ mGood := (mG7 138 rfl rfl)
theorem iX12_worked : Cond.instanceMethod yX12_worked ∈ mGood ∧ Cond.selects yX12_worked.cls yX12_worked yX12_worked ∈ mGood := ⟨(mG7 228 rfl rfl), mGs 80 rfl⟩
theorem iX12_years : Cond.instanceMethod yX12_years ∈ mGood ∧ Cond.selects yX12_years.cls yX12_years yX12_years ∈ mGood := ⟨(mG8 81 rfl rfl), (mG8 82 rfl rfl)⟩
theorem iX1_begin : Cond.instanceMethod yX1_begin ∈ mGood ∧ Cond.selects yX1_begin.cls yX1_begin yX1_begin ∈ mGood := ⟨(mG4 103 rfl rfl), (mG4 104 rfl rfl)⟩
theorem iX1_crack : Cond.instanceMethod yX1_crack ∈ mGood ∧ Cond.selects yX1_crack.cls yX1_crack yX1_crack ∈ mGood := ⟨(mG4 196 rfl rfl), (mG4 197 rfl rfl)⟩
theorem iX1_does : Cond.instanceMethod yX1_does ∈ mGood ∧ Cond.selects yX1_does.cls yX1_does yX1_does ∈ mGood := ⟨(mG5 3 rfl rfl), (mG5 4 rfl rfl)⟩
theorem iX1_lift : Cond.instanceMethod yX1_lift ∈ mGood ∧ Cond.selects yX1_lift.cls yX1_lift yX1_lift ∈ mGood := ⟨(mG4 217 rfl rfl), (mG4 218 rfl rfl)⟩
theorem iX1_pardon : Cond.instanceMethod yX1_pardon ∈ mGood ∧ Cond.selects yX1_pardon.cls yX1_pardon yX1_pardon ∈ mGood := ⟨(mG4 209 rfl rfl), (mG4 210 rfl rfl)⟩
theorem iX1_pass : Cond.instanceMethod yX1_pass ∈ mGood ∧ Cond.selects yX1_pass.cls yX1_pass yX1_pass ∈ mGood := ⟨(mG4 226 rfl rfl), (mG4 227 rfl rfl)⟩
theorem iX2_add : Cond.instanceMethod yX2_add ∈ mGood ∧ Cond.selects yX2_add.cls yX2_add yX2_add ∈ mGood := ⟨(mG4 57 rfl rfl), (mG4 58 rfl rfl)⟩
theorem iX2_joined : Cond.static yX2_joined ∈ mGood := (mG4 122 rfl rfl)
theorem iX2_note : Cond.instanceMethod yX2_note ∈ mGood ∧ Cond.selects yX2_note.cls yX2_note yX2_note ∈ mGood := ⟨(mG4 115 rfl rfl), (mG4 116 rfl rfl)⟩
theorem iX2_plainWorth : Cond.static yX2_plainWorth ∈ mGood := (mG4 119 rfl rfl)
theorem iX2_renew : Cond.instanceMethod yX2_renew ∈ mGood ∧ Cond.selects yX2_renew.cls yX2_renew yX2_renew ∈ mGood := ⟨(mG4 45 rfl rfl), (mG4 46 rfl rfl)⟩
theorem iX2_reset : Cond.instanceMethod yX2_reset ∈ mGood ∧ Cond.selects yX2_reset.cls yX2_reset yX2_reset ∈ mGood := ⟨(mG3 172 rfl rfl), (mG3 173 rfl rfl)⟩
theorem iX3_endPart : Cond.instanceMethod yX3_endPart ∈ mGood ∧ Cond.selects yX3_endPart.cls yX3_endPart yX3_endPart ∈ mGood := ⟨(mG4 75 rfl rfl), mGs 21 rfl⟩
theorem iX3_jointCode : Cond.instanceMethod yX3_jointCode ∈ mGood ∧ Cond.selects yX3_jointCode.cls yX3_jointCode yX3_jointCode ∈ mGood := ⟨(mG4 83 rfl rfl), mGs 23 rfl⟩
theorem iX3_partCode : Cond.instanceMethod yX3_partCode ∈ mGood ∧ Cond.selects yX3_partCode.cls yX3_partCode yX3_partCode ∈ mGood := ⟨(mG4 66 rfl rfl), mGs 19 rfl⟩
theorem iX3_push : Cond.instanceMethod yX3_push ∈ mGood ∧ Cond.selects yX3_push.cls yX3_push yX3_push ∈ mGood := ⟨(mG4 71 rfl rfl), mGs 20 rfl⟩
theorem iX3_rank : Cond.static yX3_rank ∈ mGood := (mG4 54 rfl rfl)
theorem iX3_read : Cond.instanceMethod yX3_read ∈ mGood ∧ Cond.selects yX3_read.cls yX3_read yX3_read ∈ mGood := ⟨(mG4 41 rfl rfl), (mG4 42 rfl rfl)⟩
theorem iX3_readJoint : Cond.instanceMethod yX3_readJoint ∈ mGood ∧ Cond.selects yX3_readJoint.cls yX3_readJoint yX3_readJoint ∈ mGood := ⟨(mG4 79 rfl rfl), mGs 22 rfl⟩
theorem iX3_readPart : Cond.instanceMethod yX3_readPart ∈ mGood ∧ Cond.selects yX3_readPart.cls yX3_readPart yX3_readPart ∈ mGood := ⟨(mG4 62 rfl rfl), mGs 18 rfl⟩
theorem iX3_settle : Cond.instanceMethod yX3_settle ∈ mGood ∧ Cond.selects yX3_settle.cls yX3_settle yX3_settle ∈ mGood := ⟨(mG4 51 rfl rfl), mGs 17 rfl⟩
theorem iX4_copy : Cond.instanceMethod yX4_copy ∈ mGood ∧ Cond.selects yX4_copy.cls yX4_copy yX4_copy ∈ mGood := ⟨(mG4 192 rfl rfl), (mG4 193 rfl rfl)⟩
theorem iX4_isLike : Cond.instanceMethod yX4_isLike ∈ mGood ∧ Cond.selects yX4_isLike.cls yX4_isLike yX4_isLike ∈ mGood := ⟨(mG5 28 rfl rfl), (mG5 29 rfl rfl)⟩
theorem iX5_find : Cond.static yX5_find ∈ mGood := (mG3 222 rfl rfl)
theorem iX5_readAge : Cond.instanceMethod yX5_readAge ∈ mGood ∧ Cond.selects yX5_readAge.cls yX5_readAge yX5_readAge ∈ mGood := ⟨(mG4 38 rfl rfl), mGs 16 rfl⟩
theorem iX5_readCity : Cond.instanceMethod yX5_readCity ∈ mGood ∧ Cond.selects yX5_readCity.cls yX5_readCity yX5_readCity ∈ mGood := ⟨(mG3 164 rfl rfl), (mG3 165 rfl rfl)⟩
theorem iX5_readCityLine : Cond.instanceMethod yX5_readCityLine ∈ mGood ∧ Cond.selects yX5_readCityLine.cls yX5_readCityLine yX5_readCityLine ∈ mGood := ⟨(mG3 202 rfl rfl), mGs 2 rfl⟩
theorem iX5_readClash : Cond.instanceMethod yX5_readClash ∈ mGood ∧ Cond.selects yX5_readClash.cls yX5_readClash yX5_readClash ∈ mGood := ⟨(mG4 22 rfl rfl), mGs 12 rfl⟩
theorem iX5_readLean : Cond.instanceMethod yX5_readLean ∈ mGood ∧ Cond.selects yX5_readLean.cls yX5_readLean yX5_readLean ∈ mGood := ⟨(mG4 18 rfl rfl), mGs 11 rfl⟩
theorem iX5_readLife : Cond.instanceMethod yX5_readLife ∈ mGood ∧ Cond.selects yX5_readLife.cls yX5_readLife yX5_readLife ∈ mGood := ⟨(mG4 149 rfl rfl), (mG4 150 rfl rfl)⟩
theorem iX5_readLifeLine : Cond.instanceMethod yX5_readLifeLine ∈ mGood ∧ Cond.selects yX5_readLifeLine.cls yX5_readLifeLine yX5_readLifeLine ∈ mGood := ⟨(mG4 155 rfl rfl), mGs 29 rfl⟩
theorem iX5_readMend : Cond.instanceMethod yX5_readMend ∈ mGood ∧ Cond.selects yX5_readMend.cls yX5_readMend yX5_readMend ∈ mGood := ⟨(mG4 88 rfl rfl), mGs 24 rfl⟩
theorem iX5_readOath : Cond.instanceMethod yX5_readOath ∈ mGood ∧ Cond.selects yX5_readOath.cls yX5_readOath yX5_readOath ∈ mGood := ⟨(mG4 6 rfl rfl), mGs 9 rfl⟩
theorem iX5_readOn : Cond.instanceMethod yX5_readOn ∈ mGood ∧ Cond.selects yX5_readOn.cls yX5_readOn yX5_readOn ∈ mGood := ⟨(mG4 30 rfl rfl), mGs 14 rfl⟩
theorem iX5_readPerson : Cond.instanceMethod yX5_readPerson ∈ mGood ∧ Cond.selects yX5_readPerson.cls yX5_readPerson yX5_readPerson ∈ mGood := ⟨(mG3 206 rfl rfl), mGs 3 rfl⟩
theorem iX5_readStone : Cond.instanceMethod yX5_readStone ∈ mGood ∧ Cond.selects yX5_readStone.cls yX5_readStone yX5_readStone ∈ mGood := ⟨(mG4 26 rfl rfl), mGs 13 rfl⟩
theorem iX5_readSupport : Cond.instanceMethod yX5_readSupport ∈ mGood ∧ Cond.selects yX5_readSupport.cls yX5_readSupport yX5_readSupport ∈ mGood := ⟨(mG4 34 rfl rfl), mGs 15 rfl⟩
theorem iX5_seeKnown : Cond.instanceMethod yX5_seeKnown ∈ mGood ∧ Cond.selects yX5_seeKnown.cls yX5_seeKnown yX5_seeKnown ∈ mGood := ⟨(mG4 10 rfl rfl), mGs 10 rfl⟩
theorem iX5_takeEnd : Cond.instanceMethod yX5_takeEnd ∈ mGood ∧ Cond.selects yX5_takeEnd.cls yX5_takeEnd yX5_takeEnd ∈ mGood := ⟨(mG3 238 rfl rfl), mGs 8 rfl⟩
theorem iX5_takeNewName : Cond.instanceMethod yX5_takeNewName ∈ mGood ∧ Cond.selects yX5_takeNewName.cls yX5_takeNewName yX5_takeNewName ∈ mGood := ⟨(mG3 215 rfl rfl), mGs 5 rfl⟩
theorem iX5_takeNumber : Cond.instanceMethod yX5_takeNumber ∈ mGood ∧ Cond.selects yX5_takeNumber.cls yX5_takeNumber yX5_takeNumber ∈ mGood := ⟨(mG3 234 rfl rfl), mGs 7 rfl⟩
theorem iX5_takeWord : Cond.instanceMethod yX5_takeWord ∈ mGood ∧ Cond.selects yX5_takeWord.cls yX5_takeWord yX5_takeWord ∈ mGood := ⟨(mG3 226 rfl rfl), mGs 6 rfl⟩
theorem iX5_wrong : Cond.instanceMethod yX5_wrong ∈ mGood ∧ Cond.selects yX5_wrong.cls yX5_wrong yX5_wrong ∈ mGood := ⟨(mG3 210 rfl rfl), mGs 4 rfl⟩
theorem iX6_add : Cond.instanceMethod yX6_add ∈ mGood ∧ Cond.selects yX6_add.cls yX6_add yX6_add ∈ mGood := ⟨(mG3 156 rfl rfl), (mG3 157 rfl rfl)⟩
theorem iX6_clear : Cond.instanceMethod yX6_clear ∈ mGood ∧ Cond.selects yX6_clear.cls yX6_clear yX6_clear ∈ mGood := ⟨(mG4 91 rfl rfl), (mG4 92 rfl rfl)⟩
theorem iX6_isDigit : Cond.static yX6_isDigit ∈ mGood := (mG3 191 rfl rfl)
theorem iX6_isLetter : Cond.static yX6_isLetter ∈ mGood := (mG3 184 rfl rfl)
theorem iX6_isName : Cond.instanceMethod yX6_isName ∈ mGood ∧ Cond.selects yX6_isName.cls yX6_isName yX6_isName ∈ mGood := ⟨(mG3 218 rfl rfl), (mG3 219 rfl rfl)⟩
theorem iX6_isSign : Cond.instanceMethod yX6_isSign ∈ mGood ∧ Cond.selects yX6_isSign.cls yX6_isSign yX6_isSign ∈ mGood := ⟨(mG4 1 rfl rfl), (mG4 2 rfl rfl)⟩
theorem iX6_isSignOfLanguage : Cond.static yX6_isSignOfLanguage ∈ mGood := (mG3 198 rfl rfl)
theorem iX6_isWord : Cond.instanceMethod yX6_isWord ∈ mGood ∧ Cond.selects yX6_isWord.cls yX6_isWord yX6_isWord ∈ mGood := ⟨(mG3 229 rfl rfl), (mG3 230 rfl rfl)⟩
theorem iX6_next : Cond.instanceMethod yX6_next ∈ mGood ∧ Cond.selects yX6_next.cls yX6_next yX6_next ∈ mGood := ⟨(mG3 180 rfl rfl), (mG3 181 rfl rfl)⟩
theorem iX6_readNumber : Cond.instanceMethod yX6_readNumber ∈ mGood ∧ Cond.selects yX6_readNumber.cls yX6_readNumber yX6_readNumber ∈ mGood := ⟨(mG3 195 rfl rfl), mGs 1 rfl⟩
theorem iX6_readWord : Cond.instanceMethod yX6_readWord ∈ mGood ∧ Cond.selects yX6_readWord.cls yX6_readWord yX6_readWord ∈ mGood := ⟨(mG3 188 rfl rfl), mGs 0 rfl⟩
theorem iX6_start : Cond.instanceMethod yX6_start ∈ mGood ∧ Cond.selects yX6_start.cls yX6_start yX6_start ∈ mGood := ⟨(mG3 176 rfl rfl), (mG3 177 rfl rfl)⟩
theorem iX7_apologise : Cond.instanceMethod yX7_apologise ∈ mGood ∧ Cond.selects yX7_apologise.cls yX7_apologise yX7_apologise ∈ mGood := ⟨(mG5 131 rfl rfl), mGs 39 rfl⟩
theorem iX7_draw : Cond.instanceMethod yX7_draw ∈ mGood ∧ Cond.selects yX7_draw.cls yX7_draw yX7_draw ∈ mGood := ⟨(mG5 203 rfl rfl), mGs 43 rfl⟩
theorem iX7_findRow : Cond.instanceMethod yX7_findRow ∈ mGood ∧ Cond.selects yX7_findRow.cls yX7_findRow yX7_findRow ∈ mGood := ⟨(mG5 125 rfl rfl), (mG5 126 rfl rfl)⟩
theorem iX7_firstOf : Cond.static yX7_firstOf ∈ mGood := (mG5 209 rfl rfl)
theorem iX7_judge : Cond.instanceMethod yX7_judge ∈ mGood ∧ Cond.selects yX7_judge.cls yX7_judge yX7_judge ∈ mGood := ⟨(mG4 238 rfl rfl), (mG4 239 rfl rfl)⟩
theorem iX7_live : Cond.instanceMethod yX7_live ∈ mGood ∧ Cond.selects yX7_live.cls yX7_live yX7_live ∈ mGood := ⟨(mG5 194 rfl rfl), (mG5 195 rfl rfl)⟩
theorem iX7_liveOne : Cond.instanceMethod yX7_liveOne ∈ mGood ∧ Cond.selects yX7_liveOne.cls yX7_liveOne yX7_liveOne ∈ mGood := ⟨(mG5 199 rfl rfl), mGs 42 rfl⟩
theorem iX7_preferRow : Cond.instanceMethod yX7_preferRow ∈ mGood ∧ Cond.selects yX7_preferRow.cls yX7_preferRow yX7_preferRow ∈ mGood := ⟨(mG5 142 rfl rfl), mGs 40 rfl⟩
theorem iX8_addLine : Cond.instanceMethod yX8_addLine ∈ mGood ∧ Cond.selects yX8_addLine.cls yX8_addLine yX8_addLine ∈ mGood := ⟨(mG4 158 rfl rfl), (mG4 159 rfl rfl)⟩
theorem iX8_agrees : Cond.instanceMethod yX8_agrees ∈ mGood ∧ Cond.selects yX8_agrees.cls yX8_agrees yX8_agrees ∈ mGood := ⟨(mG5 157 rfl rfl), (mG5 158 rfl rfl)⟩
theorem iX8_clear : Cond.instanceMethod yX8_clear ∈ mGood ∧ Cond.selects yX8_clear.cls yX8_clear yX8_clear ∈ mGood := ⟨(mG4 95 rfl rfl), (mG4 96 rfl rfl)⟩
theorem iX8_copy : Cond.instanceMethod yX8_copy ∈ mGood ∧ Cond.selects yX8_copy.cls yX8_copy yX8_copy ∈ mGood := ⟨(mG5 218 rfl rfl), (mG5 219 rfl rfl)⟩
theorem iX8_copyLife : Cond.instanceMethod yX8_copyLife ∈ mGood ∧ Cond.selects yX8_copyLife.cls yX8_copyLife yX8_copyLife ∈ mGood := ⟨(mG4 162 rfl rfl), (mG4 163 rfl rfl)⟩
theorem iX9_bearsNew : Cond.instanceMethod yX9_bearsNew ∈ mGood ∧ Cond.selects yX9_bearsNew.cls yX9_bearsNew yX9_bearsNew ∈ mGood := ⟨(mG5 100 rfl rfl), (mG5 101 rfl rfl)⟩
theorem iX9_lay : Cond.instanceMethod yX9_lay ∈ mGood ∧ Cond.selects yX9_lay.cls yX9_lay yX9_lay ∈ mGood := ⟨(mG4 130 rfl rfl), mGs 25 rfl⟩
theorem iX9_makeRoom : Cond.instanceMethod yX9_makeRoom ∈ mGood ∧ Cond.selects yX9_makeRoom.cls yX9_makeRoom yX9_makeRoom ∈ mGood := ⟨(mG4 134 rfl rfl), mGs 26 rfl⟩
theorem iX9_most : Cond.instanceMethod yX9_most ∈ mGood ∧ Cond.selects yX9_most.cls yX9_most yX9_most ∈ mGood := ⟨(mG5 15 rfl rfl), (mG5 16 rfl rfl)⟩
theorem iX9_moveOver : Cond.instanceMethod yX9_moveOver ∈ mGood ∧ Cond.selects yX9_moveOver.cls yX9_moveOver yX9_moveOver ∈ mGood := ⟨(mG4 142 rfl rfl), mGs 28 rfl⟩
theorem iX9_reach : Cond.instanceMethod yX9_reach ∈ mGood ∧ Cond.selects yX9_reach.cls yX9_reach yX9_reach ∈ mGood := ⟨(mG4 138 rfl rfl), mGs 27 rfl⟩
theorem iX9_save : Cond.instanceMethod yX9_save ∈ mGood ∧ Cond.selects yX9_save.cls yX9_save yX9_save ∈ mGood := ⟨(mG5 89 rfl rfl), (mG5 90 rfl rfl)⟩
theorem iX9_settle : Cond.instanceMethod yX9_settle ∈ mGood ∧ Cond.selects yX9_settle.cls yX9_settle yX9_settle ∈ mGood := ⟨(mG4 125 rfl rfl), (mG4 126 rfl rfl)⟩
theorem iX9_standing : Cond.instanceMethod yX9_standing ∈ mGood ∧ Cond.selects yX9_standing.cls yX9_standing yX9_standing ∈ mGood := ⟨(mG4 107 rfl rfl), (mG4 108 rfl rfl)⟩
theorem k6_27 : Cond.constantLong RX6 27 32 ∈ mGood := (mG2 32 rfl rfl)
theorem kL_19 : Cond.constantLong "OathWallsLaw" 19 4294967295 ∈ mGood := (mG8 221 rfl rfl)
theorem k12_161 : Cond.constantLong RX12 161 255 ∈ mGood := (mG7 42 rfl rfl)
theorem k12_189 : Cond.constantLong RX12 189 27 ∈ mGood := (mG7 63 rfl rfl)
theorem k12_191 : Cond.constantLong RX12 191 96 ∈ mGood := (mG7 64 rfl rfl)
theorem k12_199 : Cond.constantLong RX12 199 40613 ∈ mGood := (mG7 180 rfl rfl)
theorem k12_201 : Cond.constantLong RX12 201 13385674 ∈ mGood := (mG7 181 rfl rfl)
theorem k12_203 : Cond.constantLong RX12 203 223456 ∈ mGood := (mG7 182 rfl rfl)
theorem k12_205 : Cond.constantLong RX12 205 778955 ∈ mGood := (mG7 183 rfl rfl)
theorem k12_211 : Cond.constantLong RX12 211 10631 ∈ mGood := (mG7 107 rfl rfl)
theorem k12_230 : Cond.constantLong RX12 230 1111 ∈ mGood := (mG7 108 rfl rfl)
theorem k12_232 : Cond.constantLong RX12 232 423 ∈ mGood := (mG7 109 rfl rfl)
theorem k12_243 : Cond.constantLong RX12 243 232608281 ∈ mGood := (mG7 65 rfl rfl)
theorem k12_245 : Cond.constantLong RX12 245 3215438 ∈ mGood := (mG7 86 rfl rfl)
theorem k12_247 : Cond.constantLong RX12 247 10737164 ∈ mGood := (mG7 87 rfl rfl)
theorem k12_249 : Cond.constantLong RX12 249 296522 ∈ mGood := (mG7 88 rfl rfl)
theorem k12_251 : Cond.constantLong RX12 251 79 ∈ mGood := (mG7 89 rfl rfl)
theorem k12_253 : Cond.constantLong RX12 253 1162531 ∈ mGood := (mG7 90 rfl rfl)
theorem k12_255 : Cond.constantLong RX12 255 239882 ∈ mGood := (mG7 91 rfl rfl)
theorem k12_257 : Cond.constantLong RX12 257 1831769 ∈ mGood := (mG7 92 rfl rfl)
theorem k12_259 : Cond.constantLong RX12 259 10502357 ∈ mGood := (mG7 93 rfl rfl)
theorem k12_261 : Cond.constantLong RX12 261 332864551 ∈ mGood := (mG7 94 rfl rfl)
theorem k12_263 : Cond.constantLong RX12 263 358337 ∈ mGood := (mG7 95 rfl rfl)
theorem k12_265 : Cond.constantLong RX12 265 419 ∈ mGood := (mG7 96 rfl rfl)
theorem k12_267 : Cond.constantLong RX12 267 923 ∈ mGood := (mG7 97 rfl rfl)
theorem k12_269 : Cond.constantLong RX12 269 259906 ∈ mGood := (mG7 98 rfl rfl)
theorem k12_271 : Cond.constantLong RX12 271 1420859 ∈ mGood := (mG7 99 rfl rfl)
theorem k12_273 : Cond.constantLong RX12 273 2549467418 ∈ mGood := (mG7 100 rfl rfl)
theorem k12_275 : Cond.constantLong RX12 275 9592700 ∈ mGood := (mG7 101 rfl rfl)
theorem k12_277 : Cond.constantLong RX12 277 495765 ∈ mGood := (mG7 102 rfl rfl)
theorem k12_279 : Cond.constantLong RX12 279 8740238 ∈ mGood := (mG7 103 rfl rfl)
theorem k12_281 : Cond.constantLong RX12 281 11263 ∈ mGood := (mG7 104 rfl rfl)
theorem k12_283 : Cond.constantLong RX12 283 389777 ∈ mGood := (mG7 105 rfl rfl)
theorem k12_285 : Cond.constantLong RX12 285 12403634 ∈ mGood := (mG7 106 rfl rfl)
theorem k12_497 : Cond.constantLong RX12 497 1103515245 ∈ mGood := (mG8 202 rfl rfl)
theorem k12_499 : Cond.constantLong RX12 499 12345 ∈ mGood := (mG8 203 rfl rfl)
theorem k12_501 : Cond.constantLong RX12 501 2147483648 ∈ mGood := (mG8 204 rfl rfl)
theorem k12_503 : Cond.constantLong RX12 503 65536 ∈ mGood := (mG8 205 rfl rfl)
theorem k7_146 : Cond.constant RX7 146 1103515245 ∈ mGood := (mG5 205 rfl rfl)
theorem k7_147 : Cond.constant RX7 147 2147483647 ∈ mGood := (mG5 206 rfl rfl)
theorem k7_148 : Cond.constant RX7 148 65536 ∈ mGood := (mG5 207 rfl rfl)
theorem kJ6_265 : Cond.constant "java/lang/Integer" 265 1431655765 ∈ mGood := (mG5 56 rfl rfl)
theorem kJ6_266 : Cond.constant "java/lang/Integer" 266 858993459 ∈ mGood := (mG5 57 rfl rfl)
theorem kJ6_267 : Cond.constant "java/lang/Integer" 267 252645135 ∈ mGood := (mG5 58 rfl rfl)
