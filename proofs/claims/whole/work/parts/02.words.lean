/-! ===== the words that walks use: those of the tables that hold on, and how each is found there ===== -/
def gw : List Cond := lw_tbl.filter goodWord
theorem gm {w : Cond} (h : w ∈ tables_1) (hg : goodWord w = true) : w ∈ gw := List.mem_filter.mpr ⟨List.mem_append_right _ h, hg⟩
theorem gw_good : ∀ w ∈ gw, goodWord w = true := fun w h => (List.mem_filter.mp h).2
theorem gw_tbl : ∀ w ∈ gw, w ∈ lw_tbl := fun w h => (List.mem_filter.mp h).1
theorem gq1 {w : Cond} (i : Nat) (h : tables_1_1[i]? = some w) : w ∈ tables_1 := List.mem_append_left _ (List.mem_of_getElem? h)
theorem gq2 {w : Cond} (i : Nat) (h : tables_1_2[i]? = some w) : w ∈ tables_1 := List.mem_append_right _ (List.mem_append_left _ (List.mem_of_getElem? h))
theorem gq3 {w : Cond} (i : Nat) (h : tables_1_3[i]? = some w) : w ∈ tables_1 := List.mem_append_right _ (List.mem_append_right _ (List.mem_append_left _ (List.mem_of_getElem? h)))
theorem gq4 {w : Cond} (i : Nat) (h : tables_1_4[i]? = some w) : w ∈ tables_1 := List.mem_append_right _ (List.mem_append_right _ (List.mem_append_right _ (List.mem_append_left _ (List.mem_of_getElem? h))))
theorem gq5 {w : Cond} (i : Nat) (h : tables_1_5[i]? = some w) : w ∈ tables_1 := List.mem_append_right _ (List.mem_append_right _ (List.mem_append_right _ (List.mem_append_right _ (List.mem_append_left _ (List.mem_of_getElem? h)))))
theorem gq6 {w : Cond} (i : Nat) (h : tables_1_6[i]? = some w) : w ∈ tables_1 := List.mem_append_right _ (List.mem_append_right _ (List.mem_append_right _ (List.mem_append_right _ (List.mem_append_right _ (List.mem_append_left _ (List.mem_of_getElem? h))))))
theorem gq7 {w : Cond} (i : Nat) (h : tables_1_7[i]? = some w) : w ∈ tables_1 := List.mem_append_right _ (List.mem_append_right _ (List.mem_append_right _ (List.mem_append_right _ (List.mem_append_right _ (List.mem_append_right _ (List.mem_of_getElem? h))))))
theorem inX0 : ∀ w ∈ wsX00, w ∈ gw := by
  intro w hw
  obtain ⟨k, hk, rfl⟩ := List.mem_map.mp hw
  have hk := List.mem_range.mp hk
  match k, hk with
  | 0, _ => exact gm (gq2 61 rfl) rfl
  | 1, _ => exact gm (gq2 63 rfl) rfl
  | 2, _ => exact gm (gq2 65 rfl) rfl
  | 3, _ => exact gm (gq2 67 rfl) rfl
  | 4, _ => exact gm (gq2 69 rfl) rfl
  | k + 5, hk => exact absurd hk (by omega)
theorem inX1 : ∀ w ∈ wsX10, w ∈ gw := by
  intro w hw
  obtain ⟨k, hk, rfl⟩ := List.mem_map.mp hw
  have hk := List.mem_range.mp hk
  match k, hk with
  | 0, _ => exact gm (gq2 44 rfl) rfl
  | 1, _ => exact gm (gq2 46 rfl) rfl
  | 2, _ => exact gm (gq2 48 rfl) rfl
  | 3, _ => exact gm (gq2 50 rfl) rfl
  | 4, _ => exact gm (gq2 52 rfl) rfl
  | k + 5, hk => exact absurd hk (by omega)
theorem inX2 : ∀ w ∈ wsX20, w ∈ gw := by
  intro w hw
  obtain ⟨k, hk, rfl⟩ := List.mem_map.mp hw
  have hk := List.mem_range.mp hk
  match k, hk with
  | 0, _ => exact gm (gq1 133 rfl) rfl
  | 1, _ => exact gm (gq1 135 rfl) rfl
  | 2, _ => exact gm (gq1 137 rfl) rfl
  | 3, _ => exact gm (gq1 139 rfl) rfl
  | 4, _ => exact gm (gq1 141 rfl) rfl
  | 5, _ => exact gm (gq1 143 rfl) rfl
  | 6, _ => exact gm (gq1 145 rfl) rfl
  | 7, _ => exact gm (gq1 147 rfl) rfl
  | 8, _ => exact gm (gq1 149 rfl) rfl
  | 9, _ => exact gm (gq1 151 rfl) rfl
  | 10, _ => exact gm (gq1 153 rfl) rfl
  | k + 11, hk => exact absurd hk (by omega)
theorem inX3 : ∀ w ∈ wsX30, w ∈ gw := by
  intro w hw
  obtain ⟨k, hk, rfl⟩ := List.mem_map.mp hw
  have hk := List.mem_range.mp hk
  match k, hk with
  | 0, _ => exact gm (gq1 217 rfl) rfl
  | 1, _ => exact gm (gq1 219 rfl) rfl
  | 2, _ => exact gm (gq1 221 rfl) rfl
  | 3, _ => exact gm (gq1 223 rfl) rfl
  | 4, _ => exact gm (gq1 225 rfl) rfl
  | 5, _ => exact gm (gq1 227 rfl) rfl
  | 6, _ => exact gm (gq1 229 rfl) rfl
  | k + 7, hk => exact absurd hk (by omega)
theorem inX4 : ∀ w ∈ wsX40, w ∈ gw := by
  intro w hw
  obtain ⟨k, hk, rfl⟩ := List.mem_map.mp hw
  have hk := List.mem_range.mp hk
  match k, hk with
  | 0, _ => exact gm (gq1 178 rfl) rfl
  | 1, _ => exact gm (gq1 180 rfl) rfl
  | 2, _ => exact gm (gq1 182 rfl) rfl
  | k + 3, hk => exact absurd hk (by omega)
theorem inX5 : ∀ w ∈ wsX50, w ∈ gw := by
  intro w hw
  obtain ⟨k, hk, rfl⟩ := List.mem_map.mp hw
  have hk := List.mem_range.mp hk
  match k, hk with
  | 0, _ => exact gm (gq1 193 rfl) rfl
  | 1, _ => exact gm (gq1 195 rfl) rfl
  | 2, _ => exact gm (gq1 197 rfl) rfl
  | 3, _ => exact gm (gq1 199 rfl) rfl
  | 4, _ => exact gm (gq1 201 rfl) rfl
  | k + 5, hk => exact absurd hk (by omega)
theorem inX6 : ∀ w ∈ wsX60, w ∈ gw := by
  intro w hw
  obtain ⟨k, hk, rfl⟩ := List.mem_map.mp hw
  have hk := List.mem_range.mp hk
  match k, hk with
  | 0, _ => exact gm (gq2 15 rfl) rfl
  | 1, _ => exact gm (gq2 17 rfl) rfl
  | 2, _ => exact gm (gq2 19 rfl) rfl
  | 3, _ => exact gm (gq2 21 rfl) rfl
  | 4, _ => exact gm (gq2 23 rfl) rfl
  | 5, _ => exact gm (gq2 25 rfl) rfl
  | 6, _ => exact gm (gq2 27 rfl) rfl
  | 7, _ => exact gm (gq2 29 rfl) rfl
  | k + 8, hk => exact absurd hk (by omega)
theorem inX7 : ∀ w ∈ wsX70, w ∈ gw := by
  intro w hw
  obtain ⟨k, hk, rfl⟩ := List.mem_map.mp hw
  have hk := List.mem_range.mp hk
  match k, hk with
  | 0, _ => exact gm (gq1 73 rfl) rfl
  | 1, _ => exact gm (gq1 75 rfl) rfl
  | k + 2, hk => exact absurd hk (by omega)
theorem inX8 : ∀ w ∈ wsX80, w ∈ gw := by
  intro w hw
  obtain ⟨k, hk, rfl⟩ := List.mem_map.mp hw
  have hk := List.mem_range.mp hk
  match k, hk with
  | 0, _ => exact gm (gq2 82 rfl) rfl
  | 1, _ => exact gm (gq2 84 rfl) rfl
  | 2, _ => exact gm (gq2 86 rfl) rfl
  | k + 3, hk => exact absurd hk (by omega)
theorem inX9 : ∀ w ∈ wsX90, w ∈ gw := by
  intro w hw
  obtain ⟨k, hk, rfl⟩ := List.mem_map.mp hw
  have hk := List.mem_range.mp hk
  match k, hk with
  | 0, _ => exact gm (gq2 200 rfl) rfl
  | 1, _ => exact gm (gq2 202 rfl) rfl
  | 2, _ => exact gm (gq2 204 rfl) rfl
  | 3, _ => exact gm (gq2 206 rfl) rfl
  | 4, _ => exact gm (gq2 208 rfl) rfl
  | 5, _ => exact gm (gq2 210 rfl) rfl
  | 6, _ => exact gm (gq2 212 rfl) rfl
  | 7, _ => exact gm (gq2 214 rfl) rfl
  | 8, _ => exact gm (gq2 216 rfl) rfl
  | k + 9, hk => exact absurd hk (by omega)
theorem inX10 : ∀ w ∈ wsX100, w ∈ gw := by
  intro w hw
  obtain ⟨k, hk, rfl⟩ := List.mem_map.mp hw
  have hk := List.mem_range.mp hk
  match k, hk with
  | 0, _ => exact gm (gq1 46 rfl) rfl
  | 1, _ => exact gm (gq1 48 rfl) rfl
  | 2, _ => exact gm (gq1 50 rfl) rfl
  | 3, _ => exact gm (gq1 52 rfl) rfl
  | 4, _ => exact gm (gq1 54 rfl) rfl
  | 5, _ => exact gm (gq1 56 rfl) rfl
  | k + 6, hk => exact absurd hk (by omega)
theorem inX11 : ∀ w ∈ wsX110, w ∈ gw := by
  intro w hw
  obtain ⟨k, hk, rfl⟩ := List.mem_map.mp hw
  have hk := List.mem_range.mp hk
  match k, hk with
  | 0, _ => exact gm (gq2 104 rfl) rfl
  | 1, _ => exact gm (gq2 106 rfl) rfl
  | 2, _ => exact gm (gq2 108 rfl) rfl
  | 3, _ => exact gm (gq2 110 rfl) rfl
  | 4, _ => exact gm (gq2 112 rfl) rfl
  | 5, _ => exact gm (gq2 114 rfl) rfl
  | 6, _ => exact gm (gq2 116 rfl) rfl
  | 7, _ => exact gm (gq2 118 rfl) rfl
  | 8, _ => exact gm (gq2 120 rfl) rfl
  | 9, _ => exact gm (gq2 122 rfl) rfl
  | 10, _ => exact gm (gq2 124 rfl) rfl
  | 11, _ => exact gm (gq2 126 rfl) rfl
  | 12, _ => exact gm (gq2 128 rfl) rfl
  | 13, _ => exact gm (gq2 130 rfl) rfl
  | k + 14, hk => exact absurd hk (by omega)
theorem inX12 : ∀ w ∈ wsX120, w ∈ gw := by
  intro w hw
  obtain ⟨k, hk, rfl⟩ := List.mem_map.mp hw
  have hk := List.mem_range.mp hk
  match k, hk with
  | 0, _ => exact gm (gq5 116 rfl) rfl
  | 1, _ => exact gm (gq5 118 rfl) rfl
  | 2, _ => exact gm (gq5 120 rfl) rfl
  | 3, _ => exact gm (gq5 122 rfl) rfl
  | 4, _ => exact gm (gq5 124 rfl) rfl
  | 5, _ => exact gm (gq5 126 rfl) rfl
  | 6, _ => exact gm (gq5 128 rfl) rfl
  | 7, _ => exact gm (gq5 130 rfl) rfl
  | 8, _ => exact gm (gq5 132 rfl) rfl
  | 9, _ => exact gm (gq5 134 rfl) rfl
  | 10, _ => exact gm (gq5 136 rfl) rfl
  | 11, _ => exact gm (gq5 138 rfl) rfl
  | 12, _ => exact gm (gq5 140 rfl) rfl
  | 13, _ => exact gm (gq5 142 rfl) rfl
  | 14, _ => exact gm (gq5 144 rfl) rfl
  | 15, _ => exact gm (gq5 146 rfl) rfl
  | 16, _ => exact gm (gq5 148 rfl) rfl
  | 17, _ => exact gm (gq5 150 rfl) rfl
  | 18, _ => exact gm (gq5 152 rfl) rfl
  | 19, _ => exact gm (gq5 154 rfl) rfl
  | 20, _ => exact gm (gq5 156 rfl) rfl
  | 21, _ => exact gm (gq5 158 rfl) rfl
  | 22, _ => exact gm (gq5 160 rfl) rfl
  | 23, _ => exact gm (gq5 162 rfl) rfl
  | 24, _ => exact gm (gq5 164 rfl) rfl
  | 25, _ => exact gm (gq5 166 rfl) rfl
  | 26, _ => exact gm (gq5 168 rfl) rfl
  | 27, _ => exact gm (gq5 170 rfl) rfl
  | 28, _ => exact gm (gq5 172 rfl) rfl
  | 29, _ => exact gm (gq5 174 rfl) rfl
  | 30, _ => exact gm (gq5 176 rfl) rfl
  | 31, _ => exact gm (gq5 178 rfl) rfl
  | 32, _ => exact gm (gq5 180 rfl) rfl
  | 33, _ => exact gm (gq5 182 rfl) rfl
  | 34, _ => exact gm (gq5 184 rfl) rfl
  | 35, _ => exact gm (gq5 186 rfl) rfl
  | 36, _ => exact gm (gq5 188 rfl) rfl
  | 37, _ => exact gm (gq5 190 rfl) rfl
  | 38, _ => exact gm (gq5 192 rfl) rfl
  | 39, _ => exact gm (gq5 194 rfl) rfl
  | 40, _ => exact gm (gq5 196 rfl) rfl
  | 41, _ => exact gm (gq5 198 rfl) rfl
  | 42, _ => exact gm (gq5 200 rfl) rfl
  | 43, _ => exact gm (gq5 202 rfl) rfl
  | 44, _ => exact gm (gq5 204 rfl) rfl
  | 45, _ => exact gm (gq5 206 rfl) rfl
  | 46, _ => exact gm (gq5 208 rfl) rfl
  | 47, _ => exact gm (gq5 210 rfl) rfl
  | 48, _ => exact gm (gq5 212 rfl) rfl
  | 49, _ => exact gm (gq5 214 rfl) rfl
  | 50, _ => exact gm (gq5 216 rfl) rfl
  | 51, _ => exact gm (gq5 218 rfl) rfl
  | 52, _ => exact gm (gq5 220 rfl) rfl
  | 53, _ => exact gm (gq5 222 rfl) rfl
  | 54, _ => exact gm (gq5 224 rfl) rfl
  | 55, _ => exact gm (gq5 226 rfl) rfl
  | 56, _ => exact gm (gq5 228 rfl) rfl
  | 57, _ => exact gm (gq5 230 rfl) rfl
  | 58, _ => exact gm (gq5 232 rfl) rfl
  | 59, _ => exact gm (gq5 234 rfl) rfl
  | 60, _ => exact gm (gq5 236 rfl) rfl
  | 61, _ => exact gm (gq5 238 rfl) rfl
  | 62, _ => exact gm (gq6 0 rfl) rfl
  | 63, _ => exact gm (gq6 2 rfl) rfl
  | 64, _ => exact gm (gq6 4 rfl) rfl
  | 65, _ => exact gm (gq6 6 rfl) rfl
  | 66, _ => exact gm (gq6 8 rfl) rfl
  | 67, _ => exact gm (gq6 10 rfl) rfl
  | 68, _ => exact gm (gq6 12 rfl) rfl
  | 69, _ => exact gm (gq6 14 rfl) rfl
  | k + 70, hk => exact absurd hk (by omega)
theorem t_0 : (.initialized RL : Cond) ∈ gw := gm (gq1 0 rfl) rfl
theorem t_1 : (.initialized RX11 : Cond) ∈ gw := gm (gq1 1 rfl) rfl
theorem t_2 : (.initialized RX10 : Cond) ∈ gw := gm (gq1 2 rfl) rfl
theorem t_3 : (.initialized RX7 : Cond) ∈ gw := gm (gq1 3 rfl) rfl
theorem t_4 : (.initialized RX5 : Cond) ∈ gw := gm (gq1 4 rfl) rfl
theorem t_5 : (.initialized RX2 : Cond) ∈ gw := gm (gq1 5 rfl) rfl
theorem t_6 : (.initialized RX4 : Cond) ∈ gw := gm (gq1 6 rfl) rfl
theorem t_7 : (.initialized RX3 : Cond) ∈ gw := gm (gq1 7 rfl) rfl
theorem t_8 : (.initialized RX0 : Cond) ∈ gw := gm (gq1 8 rfl) rfl
theorem t_9 : (.initialized RX6 : Cond) ∈ gw := gm (gq1 9 rfl) rfl
theorem t_10 : (.initialized RX1 : Cond) ∈ gw := gm (gq1 10 rfl) rfl
theorem t_11 : (.initialized RX8 : Cond) ∈ gw := gm (gq1 11 rfl) rfl
theorem t_12 : (.initialized RX12 : Cond) ∈ gw := gm (gq1 12 rfl) rfl
theorem t_13 : (.initialized RX9 : Cond) ∈ gw := gm (gq1 13 rfl) rfl
theorem t_14 : (.initialized RJ0 : Cond) ∈ gw := gm (gq1 14 rfl) rfl
theorem t_15 : (.initialized RJ1 : Cond) ∈ gw := gm (gq1 15 rfl) rfl
theorem t_16 : (.initialized RJ3 : Cond) ∈ gw := gm (gq1 16 rfl) rfl
theorem t_17 : (.initialized RJ2 : Cond) ∈ gw := gm (gq1 17 rfl) rfl
theorem t_18 : (.initialized RJ9 : Cond) ∈ gw := gm (gq1 18 rfl) rfl
theorem t_19 : (.initialized RJ6 : Cond) ∈ gw := gm (gq1 19 rfl) rfl
theorem t_20 : (.initialized RJ13 : Cond) ∈ gw := gm (gq1 20 rfl) rfl
theorem t_21 : (.classLink RL 7 RX11 : Cond) ∈ gw := gm (gq1 21 rfl) rfl
theorem t_22 : (.instantiable RX11 14 : Cond) ∈ gw := gm (gq1 22 rfl) rfl
theorem t_23 : (.methodLink RL 9 yX11_init : Cond) ∈ gw := gm (gq1 23 rfl) rfl
theorem t_24 : (.instanceMethod yX11_init : Cond) ∈ gw := gm (gq1 24 rfl) rfl
theorem t_25 : (.code yX11_init cX11_init 1 none : Cond) ∈ gw := gm (gq1 25 rfl) rfl
theorem t_26 : (.methodLink RX11 1 objectInit : Cond) ∈ gw := gm (gq1 26 rfl) rfl
theorem t_27 : (.instanceMethod objectInit : Cond) ∈ gw := gm (gq1 27 rfl) rfl
theorem t_28 : (.code objectInit ⟨#[0xb1]⟩ 1 none : Cond) ∈ gw := gm (gq1 28 rfl) rfl
theorem t_29 : (.classLink RX11 7 RX10 : Cond) ∈ gw := gm (gq1 29 rfl) rfl
theorem t_30 : (.instantiable RX10 6 : Cond) ∈ gw := gm (gq1 30 rfl) rfl
theorem t_32 : (.instanceMethod yX10_init : Cond) ∈ gw := gm (gq1 32 rfl) rfl
theorem t_33 : (.code yX10_init cX10_init 1 none : Cond) ∈ gw := gm (gq1 33 rfl) rfl
theorem t_34 : (.methodLink RX10 3 objectInit : Cond) ∈ gw := gm (gq1 34 rfl) rfl
theorem t_35 : (.fieldLink RX10 11 "ContactHouse$Tape" "bytes" "[I" : Cond) ∈ gw := gm (gq1 35 rfl) rfl
theorem t_37 : (.fieldLink RX10 15 "ContactHouse$Tape" "size" "I" : Cond) ∈ gw := gm (gq1 37 rfl) rfl
theorem t_40 : (.fieldLink RX10 23 "ContactHouse$Tape" "cursor" "I" : Cond) ∈ gw := gm (gq1 40 rfl) rfl
theorem t_41 : (.fieldLink RX10 26 "ContactHouse$Tape" "limit" "I" : Cond) ∈ gw := gm (gq1 41 rfl) rfl
theorem t_44 : (.fieldLink RX10 29 "ContactHouse$Tape" "wordStart" "I" : Cond) ∈ gw := gm (gq1 44 rfl) rfl
theorem t_45 : (.fieldLink RX10 32 "ContactHouse$Tape" "wordLength" "I" : Cond) ∈ gw := gm (gq1 45 rfl) rfl
theorem t_59 : (.arrayClass .int : Cond) ∈ gw := gm (gq1 59 rfl) rfl
theorem t_60 : (.classLink RX11 16 RX7 : Cond) ∈ gw := gm (gq1 60 rfl) rfl
theorem t_61 : (.instantiable RX7 2 : Cond) ∈ gw := gm (gq1 61 rfl) rfl
theorem t_63 : (.instanceMethod yX7_init : Cond) ∈ gw := gm (gq1 63 rfl) rfl
theorem t_64 : (.code yX7_init cX7_init 1 none : Cond) ∈ gw := gm (gq1 64 rfl) rfl
theorem t_65 : (.methodLink RX7 3 objectInit : Cond) ∈ gw := gm (gq1 65 rfl) rfl
theorem t_66 : (.classLink RX7 9 RX9 : Cond) ∈ gw := gm (gq1 66 rfl) rfl
theorem t_68 : (.fieldLink RX7 11 "ContactHouse$Roster" "stations" "[LContactHouse$Station;" : Cond) ∈ gw := gm (gq1 68 rfl) rfl
theorem t_69 : (.fieldLink RX7 17 "ContactHouse$Roster" "size" "I" : Cond) ∈ gw := gm (gq1 69 rfl) rfl
theorem t_78 : (.classLink RX11 23 RX5 : Cond) ∈ gw := gm (gq1 78 rfl) rfl
theorem t_79 : (.instantiable RX5 5 : Cond) ∈ gw := gm (gq1 79 rfl) rfl
theorem t_81 : (.instanceMethod yX5_init : Cond) ∈ gw := gm (gq1 81 rfl) rfl
theorem t_82 : (.code yX5_init cX5_init 2 none : Cond) ∈ gw := gm (gq1 82 rfl) rfl
theorem t_83 : (.methodLink RX5 3 objectInit : Cond) ∈ gw := gm (gq1 83 rfl) rfl
theorem t_84 : (.classLink RX5 9 RX2 : Cond) ∈ gw := gm (gq1 84 rfl) rfl
theorem t_85 : (.instantiable RX2 11 : Cond) ∈ gw := gm (gq1 85 rfl) rfl
theorem t_87 : (.instanceMethod yX2_init : Cond) ∈ gw := gm (gq1 87 rfl) rfl
theorem t_88 : (.code yX2_init cX2_init 1 none : Cond) ∈ gw := gm (gq1 88 rfl) rfl
theorem t_89 : (.methodLink RX2 3 objectInit : Cond) ∈ gw := gm (gq1 89 rfl) rfl
theorem t_90 : (.fieldLink RX2 9 "ContactHouse$Entry" "kind" "I" : Cond) ∈ gw := gm (gq1 90 rfl) rfl
theorem t_94 : (.fieldLink RX2 15 "ContactHouse$Entry" "moment" "J" : Cond) ∈ gw := gm (gq1 94 rfl) rfl
theorem t_101 : (.fieldLink RX2 19 "ContactHouse$Entry" "until" "J" : Cond) ∈ gw := gm (gq1 101 rfl) rfl
theorem t_104 : (.fieldLink RX2 22 "ContactHouse$Entry" "call" "J" : Cond) ∈ gw := gm (gq1 104 rfl) rfl
theorem t_109 : (.fieldLink RX2 25 "ContactHouse$Entry" "sent" "I" : Cond) ∈ gw := gm (gq1 109 rfl) rfl
theorem t_113 : (.fieldLink RX2 28 "ContactHouse$Entry" "got" "I" : Cond) ∈ gw := gm (gq1 113 rfl) rfl
theorem t_122 : (.fieldLink RX2 31 "ContactHouse$Entry" "mateStation" "I" : Cond) ∈ gw := gm (gq1 122 rfl) rfl
theorem t_156 : (.classLink RX5 24 RX4 : Cond) ∈ gw := gm (gq1 156 rfl) rfl
theorem t_157 : (.instantiable RX4 3 : Cond) ∈ gw := gm (gq1 157 rfl) rfl
theorem t_159 : (.instanceMethod yX4_init : Cond) ∈ gw := gm (gq1 159 rfl) rfl
theorem t_160 : (.code yX4_init cX4_init 2 none : Cond) ∈ gw := gm (gq1 160 rfl) rfl
theorem t_161 : (.methodLink RX4 3 objectInit : Cond) ∈ gw := gm (gq1 161 rfl) rfl
theorem t_162 : (.classLink RX4 9 RX2 : Cond) ∈ gw := gm (gq1 162 rfl) rfl
theorem t_165 : (.fieldLink RX4 11 "ContactHouse$Log" "rows" "[LContactHouse$Entry;" : Cond) ∈ gw := gm (gq1 165 rfl) rfl
theorem t_166 : (.fieldLink RX4 22 "ContactHouse$Log" "size" "I" : Cond) ∈ gw := gm (gq1 166 rfl) rfl
theorem t_174 : (.fieldLink RX4 17 "ContactHouse$Log" "missing" "Z" : Cond) ∈ gw := gm (gq1 174 rfl) rfl
theorem t_185 : (.fieldLink RX5 31 "ContactHouse$LogReader" "tape" "LContactHouse$Tape;" : Cond) ∈ gw := gm (gq1 185 rfl) rfl
theorem t_186 : (.fieldLink RX5 12 "ContactHouse$LogReader" "line" "LContactHouse$Entry;" : Cond) ∈ gw := gm (gq1 186 rfl) rfl
theorem t_187 : (.fieldLink RX5 20 "ContactHouse$LogReader" "wrongLines" "[I" : Cond) ∈ gw := gm (gq1 187 rfl) rfl
theorem t_189 : (.fieldLink RX5 43 "ContactHouse$LogReader" "wrongCount" "I" : Cond) ∈ gw := gm (gq1 189 rfl) rfl
theorem t_191 : (.fieldLink RX5 27 "ContactHouse$LogReader" "draft" "LContactHouse$Log;" : Cond) ∈ gw := gm (gq1 191 rfl) rfl
theorem t_204 : (.classLink RX11 32 RX3 : Cond) ∈ gw := gm (gq1 204 rfl) rfl
theorem t_205 : (.instantiable RX3 7 : Cond) ∈ gw := gm (gq1 205 rfl) rfl
theorem t_207 : (.instanceMethod yX3_init : Cond) ∈ gw := gm (gq1 207 rfl) rfl
theorem t_208 : (.code yX3_init cX3_init 1 none : Cond) ∈ gw := gm (gq1 208 rfl) rfl
theorem t_209 : (.methodLink RX3 3 objectInit : Cond) ∈ gw := gm (gq1 209 rfl) rfl
theorem t_210 : (.fieldLink RX3 11 "ContactHouse$Formula" "codes" "[I" : Cond) ∈ gw := gm (gq1 210 rfl) rfl
theorem t_211 : (.fieldLink RX3 25 "ContactHouse$Formula" "size" "I" : Cond) ∈ gw := gm (gq1 211 rfl) rfl
theorem t_212 : (.fieldLink RX3 15 "ContactHouse$Formula" "draft" "[I" : Cond) ∈ gw := gm (gq1 212 rfl) rfl
theorem t_213 : (.fieldLink RX3 18 "ContactHouse$Formula" "lacking" "[I" : Cond) ∈ gw := gm (gq1 213 rfl) rfl
theorem t_214 : (.fieldLink RX3 36 "ContactHouse$Formula" "depth" "I" : Cond) ∈ gw := gm (gq1 214 rfl) rfl
theorem t_215 : (.fieldLink RX3 21 "ContactHouse$Formula" "stack" "[J" : Cond) ∈ gw := gm (gq1 215 rfl) rfl
theorem t_216 : (.fieldLink RX3 98 "ContactHouse$Formula" "top" "I" : Cond) ∈ gw := gm (gq1 216 rfl) rfl
theorem t_232 : (.arrayClass .long : Cond) ∈ gw := gm (gq1 232 rfl) rfl
theorem t_233 : (.classLink RX11 39 RX0 : Cond) ∈ gw := gm (gq1 233 rfl) rfl
theorem t_234 : (.instantiable RX0 5 : Cond) ∈ gw := gm (gq1 234 rfl) rfl
theorem t_236 : (.instanceMethod yX0_init : Cond) ∈ gw := gm (gq1 236 rfl) rfl
theorem t_237 : (.code yX0_init cX0_init 2 none : Cond) ∈ gw := gm (gq1 237 rfl) rfl
theorem t_238 : (.methodLink RX0 3 objectInit : Cond) ∈ gw := gm (gq1 238 rfl) rfl
theorem t_239 : (.classLink RX0 9 RX6 : Cond) ∈ gw := gm (gq1 239 rfl) rfl
theorem t_240 : (.instantiable RX6 8 : Cond) ∈ gw := gm (gq2 0 rfl) rfl
theorem t_242 : (.instanceMethod yX6_init : Cond) ∈ gw := gm (gq2 2 rfl) rfl
theorem t_243 : (.code yX6_init cX6_init 1 none : Cond) ∈ gw := gm (gq2 3 rfl) rfl
theorem t_244 : (.methodLink RX6 3 objectInit : Cond) ∈ gw := gm (gq2 4 rfl) rfl
theorem t_245 : (.classLink RX6 9 "[[I" : Cond) ∈ gw := gm (gq2 5 rfl) rfl
theorem t_247 : (.fieldLink RX6 11 "ContactHouse$Pairing" "worth" "[[I" : Cond) ∈ gw := gm (gq2 7 rfl) rfl
theorem t_248 : (.fieldLink RX6 16 "ContactHouse$Pairing" "best" "[[I" : Cond) ∈ gw := gm (gq2 8 rfl) rfl
theorem t_249 : (.fieldLink RX6 19 "ContactHouse$Pairing" "order" "[I" : Cond) ∈ gw := gm (gq2 9 rfl) rfl
theorem t_250 : (.fieldLink RX6 23 "ContactHouse$Pairing" "otherOrder" "[I" : Cond) ∈ gw := gm (gq2 10 rfl) rfl
theorem t_251 : (.fieldLink RX6 49 "ContactHouse$Pairing" "size" "I" : Cond) ∈ gw := gm (gq2 11 rfl) rfl
theorem t_252 : (.fieldLink RX6 53 "ContactHouse$Pairing" "otherSize" "I" : Cond) ∈ gw := gm (gq2 12 rfl) rfl
theorem t_253 : (.fieldLink RX6 26 "ContactHouse$Pairing" "settled" "[Z" : Cond) ∈ gw := gm (gq2 13 rfl) rfl
theorem t_254 : (.fieldLink RX6 30 "ContactHouse$Pairing" "otherSettled" "[Z" : Cond) ∈ gw := gm (gq2 14 rfl) rfl
theorem t_272 : (.arrayClass .boolean : Cond) ∈ gw := gm (gq2 32 rfl) rfl
theorem t_273 : (.classLink RX0 26 RX1 : Cond) ∈ gw := gm (gq2 33 rfl) rfl
theorem t_274 : (.instantiable RX1 5 : Cond) ∈ gw := gm (gq2 34 rfl) rfl
theorem t_276 : (.instanceMethod yX1_init : Cond) ∈ gw := gm (gq2 36 rfl) rfl
theorem t_277 : (.code yX1_init cX1_init 2 none : Cond) ∈ gw := gm (gq2 37 rfl) rfl
theorem t_278 : (.methodLink RX1 3 objectInit : Cond) ∈ gw := gm (gq2 38 rfl) rfl
theorem t_279 : (.fieldLink RX1 19 "ContactHouse$Clocks" "roster" "LContactHouse$Roster;" : Cond) ∈ gw := gm (gq2 39 rfl) rfl
theorem t_280 : (.fieldLink RX1 11 "ContactHouse$Clocks" "gaps" "[J" : Cond) ∈ gw := gm (gq2 40 rfl) rfl
theorem t_281 : (.fieldLink RX1 15 "ContactHouse$Clocks" "gapContacts" "[I" : Cond) ∈ gw := gm (gq2 41 rfl) rfl
theorem t_282 : (.fieldLink RX1 31 "ContactHouse$Clocks" "gapCount" "I" : Cond) ∈ gw := gm (gq2 42 rfl) rfl
theorem t_283 : (.fieldLink RX1 49 "ContactHouse$Clocks" "contacts" "I" : Cond) ∈ gw := gm (gq2 43 rfl) rfl
theorem t_295 : (.fieldLink RX0 22 "ContactHouse$Checker" "roster" "LContactHouse$Roster;" : Cond) ∈ gw := gm (gq2 55 rfl) rfl
theorem t_296 : (.fieldLink RX0 31 "ContactHouse$Checker" "clocks" "LContactHouse$Clocks;" : Cond) ∈ gw := gm (gq2 56 rfl) rfl
theorem t_297 : (.fieldLink RX0 12 "ContactHouse$Checker" "pairing" "LContactHouse$Pairing;" : Cond) ∈ gw := gm (gq2 57 rfl) rfl
theorem t_298 : (.fieldLink RX0 18 "ContactHouse$Checker" "window" "I" : Cond) ∈ gw := gm (gq2 58 rfl) rfl
theorem t_299 : (.fieldLink RX0 35 "ContactHouse$Checker" "fresh" "Z" : Cond) ∈ gw := gm (gq2 59 rfl) rfl
theorem t_312 : (.classLink RX11 48 RX8 : Cond) ∈ gw := gm (gq2 72 rfl) rfl
theorem t_313 : (.instantiable RX8 3 : Cond) ∈ gw := gm (gq2 73 rfl) rfl
theorem t_315 : (.instanceMethod yX8_init : Cond) ∈ gw := gm (gq2 75 rfl) rfl
theorem t_316 : (.code yX8_init cX8_init 3 none : Cond) ∈ gw := gm (gq2 76 rfl) rfl
theorem t_317 : (.methodLink RX8 3 objectInit : Cond) ∈ gw := gm (gq2 77 rfl) rfl
theorem t_318 : (.fieldLink RX8 9 "ContactHouse$Scores" "roster" "LContactHouse$Roster;" : Cond) ∈ gw := gm (gq2 78 rfl) rfl
theorem t_319 : (.fieldLink RX8 15 "ContactHouse$Scores" "formula" "LContactHouse$Formula;" : Cond) ∈ gw := gm (gq2 79 rfl) rfl
theorem t_320 : (.fieldLink RX8 85 "ContactHouse$Scores" "penalty" "I" : Cond) ∈ gw := gm (gq2 80 rfl) rfl
theorem t_329 : (.classLink RX11 57 "[[I" : Cond) ∈ gw := gm (gq2 89 rfl) rfl
theorem t_330 : (.fieldLink RX11 10 "ContactHouse" "tape" "LContactHouse$Tape;" : Cond) ∈ gw := gm (gq2 90 rfl) rfl
theorem t_331 : (.fieldLink RX11 19 "ContactHouse" "roster" "LContactHouse$Roster;" : Cond) ∈ gw := gm (gq2 91 rfl) rfl
theorem t_332 : (.fieldLink RX11 28 "ContactHouse" "reader" "LContactHouse$LogReader;" : Cond) ∈ gw := gm (gq2 92 rfl) rfl
theorem t_333 : (.fieldLink RX11 35 "ContactHouse" "formula" "LContactHouse$Formula;" : Cond) ∈ gw := gm (gq2 93 rfl) rfl
theorem t_334 : (.fieldLink RX11 44 "ContactHouse" "checker" "LContactHouse$Checker;" : Cond) ∈ gw := gm (gq2 94 rfl) rfl
theorem t_335 : (.fieldLink RX11 53 "ContactHouse" "scores" "LContactHouse$Scores;" : Cond) ∈ gw := gm (gq2 95 rfl) rfl
theorem t_336 : (.fieldLink RX11 59 "ContactHouse" "editions" "[[I" : Cond) ∈ gw := gm (gq2 96 rfl) rfl
theorem t_337 : (.fieldLink RX11 62 "ContactHouse" "editionSizes" "[I" : Cond) ∈ gw := gm (gq2 97 rfl) rfl
theorem t_338 : (.fieldLink RX11 247 "ContactHouse" "editionCount" "I" : Cond) ∈ gw := gm (gq2 98 rfl) rfl
theorem t_339 : (.fieldLink RX11 250 "ContactHouse" "latestFinding" "I" : Cond) ∈ gw := gm (gq2 99 rfl) rfl
theorem t_340 : (.fieldLink RX11 253 "ContactHouse" "opened" "I" : Cond) ∈ gw := gm (gq2 100 rfl) rfl
theorem t_341 : (.fieldLink RX11 256 "ContactHouse" "closed" "I" : Cond) ∈ gw := gm (gq2 101 rfl) rfl
theorem t_342 : (.fieldLink RX11 259 "ContactHouse" "asks" "I" : Cond) ∈ gw := gm (gq2 102 rfl) rfl
theorem t_343 : (.fieldLink RX11 262 "ContactHouse" "asksWithFinding" "I" : Cond) ∈ gw := gm (gq2 103 rfl) rfl
theorem t_373 : (.methodLink RL 13 yX11_feed : Cond) ∈ gw := gm (gq2 133 rfl) rfl
theorem t_374 : (.instanceMethod yX11_feed : Cond) ∈ gw := gm (gq2 134 rfl) rfl
theorem t_375 : (.selects RX11 yX11_feed yX11_feed : Cond) ∈ gw := gm (gq2 135 rfl) rfl
theorem t_376 : (.code yX11_feed cX11_feed 6 (some .int) : Cond) ∈ gw := gm (gq2 136 rfl) rfl
theorem t_379 : (.instanceMethod yX10_hasRoomFor : Cond) ∈ gw := gm (gq2 139 rfl) rfl
theorem t_380 : (.code yX10_hasRoomFor cX10_hasRoomFor 2 (some .boolean) : Cond) ∈ gw := gm (gq2 140 rfl) rfl
theorem t_383 : (.instanceMethod yX10_add : Cond) ∈ gw := gm (gq2 143 rfl) rfl
theorem t_384 : (.code yX10_add cX10_add 3 none : Cond) ∈ gw := gm (gq2 144 rfl) rfl
theorem t_385 : (.methodLink RL 18 yX11_end : Cond) ∈ gw := gm (gq2 145 rfl) rfl
theorem t_386 : (.instanceMethod yX11_end : Cond) ∈ gw := gm (gq2 146 rfl) rfl
theorem t_387 : (.selects RX11 yX11_end yX11_end : Cond) ∈ gw := gm (gq2 147 rfl) rfl
theorem t_388 : (.code yX11_end cX11_end 2 (some .int) : Cond) ∈ gw := gm (gq2 148 rfl) rfl
theorem t_389 : (.methodLink RL 23 yX11_station : Cond) ∈ gw := gm (gq2 149 rfl) rfl
theorem t_390 : (.instanceMethod yX11_station : Cond) ∈ gw := gm (gq2 150 rfl) rfl
theorem t_391 : (.selects RX11 yX11_station yX11_station : Cond) ∈ gw := gm (gq2 151 rfl) rfl
theorem t_392 : (.code yX11_station cX11_station 7 (some .int) : Cond) ∈ gw := gm (gq2 152 rfl) rfl
theorem t_395 : (.instanceMethod yX10_callBetween : Cond) ∈ gw := gm (gq2 155 rfl) rfl
theorem t_396 : (.code yX10_callBetween cX10_callBetween 7 (some .long) : Cond) ∈ gw := gm (gq2 156 rfl) rfl
theorem t_397 : (.methodLink RX10 19 yX10_byteAt : Cond) ∈ gw := gm (gq2 157 rfl) rfl
theorem t_399 : (.instanceMethod yX10_byteAt : Cond) ∈ gw := gm (gq2 159 rfl) rfl
theorem t_400 : (.code yX10_byteAt cX10_byteAt 2 (some .int) : Cond) ∈ gw := gm (gq2 160 rfl) rfl
theorem t_401 : (.methodLink RX10 47 yX10_isDigit : Cond) ∈ gw := gm (gq2 161 rfl) rfl
theorem t_402 : (.static yX10_isDigit : Cond) ∈ gw := gm (gq2 162 rfl) rfl
theorem t_403 : (.code yX10_isDigit cX10_isDigit 1 (some .boolean) : Cond) ∈ gw := gm (gq2 163 rfl) rfl
theorem t_404 : (.methodLink RX11 82 yX11_isBelow : Cond) ∈ gw := gm (gq2 164 rfl) rfl
theorem t_405 : (.static yX11_isBelow : Cond) ∈ gw := gm (gq2 165 rfl) rfl
theorem t_406 : (.code yX11_isBelow cX11_isBelow 2 (some .boolean) : Cond) ∈ gw := gm (gq2 166 rfl) rfl
theorem t_409 : (.instanceMethod yX7_numberOf : Cond) ∈ gw := gm (gq2 169 rfl) rfl
theorem t_410 : (.code yX7_numberOf cX7_numberOf 4 (some .int) : Cond) ∈ gw := gm (gq2 170 rfl) rfl
theorem t_411 : (.classLink RX11 95 RX9 : Cond) ∈ gw := gm (gq2 171 rfl) rfl
theorem t_412 : (.instantiable RX9 9 : Cond) ∈ gw := gm (gq2 172 rfl) rfl
theorem t_414 : (.instanceMethod yX9_init : Cond) ∈ gw := gm (gq2 174 rfl) rfl
theorem t_415 : (.code yX9_init cX9_init 8 none : Cond) ∈ gw := gm (gq2 175 rfl) rfl
theorem t_416 : (.methodLink RX9 3 objectInit : Cond) ∈ gw := gm (gq2 176 rfl) rfl
theorem t_417 : (.classLink RX9 9 RX4 : Cond) ∈ gw := gm (gq2 177 rfl) rfl
theorem t_420 : (.fieldLink RX9 21 "ContactHouse$Station" "kind" "I" : Cond) ∈ gw := gm (gq2 180 rfl) rfl
theorem t_424 : (.fieldLink RX9 24 "ContactHouse$Station" "zone" "I" : Cond) ∈ gw := gm (gq2 184 rfl) rfl
theorem t_427 : (.fieldLink RX9 27 "ContactHouse$Station" "x" "I" : Cond) ∈ gw := gm (gq2 187 rfl) rfl
theorem t_428 : (.fieldLink RX9 30 "ContactHouse$Station" "y" "I" : Cond) ∈ gw := gm (gq2 188 rfl) rfl
theorem t_429 : (.fieldLink RX9 33 "ContactHouse$Station" "call" "J" : Cond) ∈ gw := gm (gq2 189 rfl) rfl
theorem t_432 : (.fieldLink RX9 11 "ContactHouse$Station" "logs" "[LContactHouse$Log;" : Cond) ∈ gw := gm (gq2 192 rfl) rfl
theorem t_433 : (.fieldLink RX9 17 "ContactHouse$Station" "team" "I" : Cond) ∈ gw := gm (gq2 193 rfl) rfl
theorem t_438 : (.fieldLink RX9 47 "ContactHouse$Station" "offset" "J" : Cond) ∈ gw := gm (gq2 198 rfl) rfl
theorem t_461 : (.instanceMethod yX7_add : Cond) ∈ gw := gm (gq2 221 rfl) rfl
theorem t_462 : (.code yX7_add cX7_add 2 (some .int) : Cond) ∈ gw := gm (gq2 222 rfl) rfl
theorem t_463 : (.methodLink RL 28 yX11_join : Cond) ∈ gw := gm (gq2 223 rfl) rfl
theorem t_464 : (.instanceMethod yX11_join : Cond) ∈ gw := gm (gq2 224 rfl) rfl
theorem t_465 : (.selects RX11 yX11_join yX11_join : Cond) ∈ gw := gm (gq2 225 rfl) rfl
theorem t_466 : (.code yX11_join cX11_join 5 (some .int) : Cond) ∈ gw := gm (gq2 226 rfl) rfl
theorem t_469 : (.instanceMethod yX7_at : Cond) ∈ gw := gm (gq2 229 rfl) rfl
theorem t_470 : (.code yX7_at cX7_at 2 (some (.object "ContactHouse$Station") ) : Cond) ∈ gw := gm (gq2 230 rfl) rfl
theorem t_471 : (.methodLink RL 33 yX11_log : Cond) ∈ gw := gm (gq2 231 rfl) rfl
theorem t_472 : (.instanceMethod yX11_log : Cond) ∈ gw := gm (gq2 232 rfl) rfl
theorem t_473 : (.selects RX11 yX11_log yX11_log : Cond) ∈ gw := gm (gq2 233 rfl) rfl
theorem t_474 : (.code yX11_log cX11_log 5 (some .int) : Cond) ∈ gw := gm (gq2 234 rfl) rfl
theorem t_477 : (.instanceMethod yX5_readTape : Cond) ∈ gw := gm (gq2 237 rfl) rfl
theorem t_478 : (.code yX5_readTape cX5_readTape 4 (some .boolean) : Cond) ∈ gw := gm (gq2 238 rfl) rfl
theorem t_481 : (.instanceMethod yX10_lineEnd : Cond) ∈ gw := gm (gq3 1 rfl) rfl
theorem t_482 : (.code yX10_lineEnd cX10_lineEnd 3 (some .int) : Cond) ∈ gw := gm (gq3 2 rfl) rfl
theorem t_485 : (.instanceMethod yX10_startWords : Cond) ∈ gw := gm (gq3 5 rfl) rfl
theorem t_486 : (.code yX10_startWords cX10_startWords 3 none : Cond) ∈ gw := gm (gq3 6 rfl) rfl
theorem t_487 : (.methodLink RX5 55 yX5_readLine : Cond) ∈ gw := gm (gq3 7 rfl) rfl
theorem t_489 : (.instanceMethod yX5_readLine : Cond) ∈ gw := gm (gq3 9 rfl) rfl
theorem t_490 : (.code yX5_readLine cX5_readLine 1 (some .boolean) : Cond) ∈ gw := gm (gq3 10 rfl) rfl
theorem t_493 : (.instanceMethod yX10_nextWord : Cond) ∈ gw := gm (gq3 13 rfl) rfl
theorem t_494 : (.code yX10_nextWord cX10_nextWord 2 (some .boolean) : Cond) ∈ gw := gm (gq3 14 rfl) rfl
theorem t_498 : (.instanceMethod yX10_wordIs : Cond) ∈ gw := gm (gq3 18 rfl) rfl
theorem t_499 : (.code yX10_wordIs cX10_wordIs 3 (some .boolean) : Cond) ∈ gw := gm (gq3 19 rfl) rfl
theorem t_500 : (.methodLink RX10 35 yJ0_length_8abf5 : Cond) ∈ gw := gm (gq3 20 rfl) rfl
theorem t_501 : (.instanceMethod yJ0_length_8abf5 : Cond) ∈ gw := gm (gq3 21 rfl) rfl
theorem t_502 : (.selects RJ0 yJ0_length_8abf5 yJ0_length_8abf5 : Cond) ∈ gw := gm (gq3 22 rfl) rfl
theorem t_503 : (.code yJ0_length_8abf5 cJ0_length_8abf5 1 (some .int) : Cond) ∈ gw := gm (gq3 23 rfl) rfl
theorem t_504 : (.methodLink RJ0 335 yJ0_coder_7d493 : Cond) ∈ gw := gm (gq3 24 rfl) rfl
theorem t_505 : (.instanceMethod yJ0_coder_7d493 : Cond) ∈ gw := gm (gq3 25 rfl) rfl
theorem t_506 : (.selects RJ0 yJ0_coder_7d493 yJ0_coder_7d493 : Cond) ∈ gw := gm (gq3 26 rfl) rfl
theorem t_507 : (.code yJ0_coder_7d493 cJ0_coder_7d493 1 (some .byte) : Cond) ∈ gw := gm (gq3 27 rfl) rfl
theorem t_508 : (.fieldLink RJ0 38 "java/lang/String" "COMPACT_STRINGS" "Z" : Cond) ∈ gw := gm (gq3 28 rfl) rfl
theorem t_510 : (.methodLink RX10 41 yJ0_charAt_5068e : Cond) ∈ gw := gm (gq3 30 rfl) rfl
theorem t_511 : (.instanceMethod yJ0_charAt_5068e : Cond) ∈ gw := gm (gq3 31 rfl) rfl
theorem t_512 : (.selects RJ0 yJ0_charAt_5068e yJ0_charAt_5068e : Cond) ∈ gw := gm (gq3 32 rfl) rfl
theorem t_513 : (.code yJ0_charAt_5068e cJ0_charAt_5068e 2 (some .char) : Cond) ∈ gw := gm (gq3 33 rfl) rfl
theorem t_514 : (.methodLink RJ0 492 yJ0_isLatin1_aae02 : Cond) ∈ gw := gm (gq3 34 rfl) rfl
theorem t_515 : (.instanceMethod yJ0_isLatin1_aae02 : Cond) ∈ gw := gm (gq3 35 rfl) rfl
theorem t_516 : (.selects RJ0 yJ0_isLatin1_aae02 yJ0_isLatin1_aae02 : Cond) ∈ gw := gm (gq3 36 rfl) rfl
theorem t_517 : (.code yJ0_isLatin1_aae02 cJ0_isLatin1_aae02 1 (some .boolean) : Cond) ∈ gw := gm (gq3 37 rfl) rfl
theorem t_518 : (.methodLink RJ0 495 yJ1_charAt_3b067 : Cond) ∈ gw := gm (gq3 38 rfl) rfl
theorem t_519 : (.static yJ1_charAt_3b067 : Cond) ∈ gw := gm (gq3 39 rfl) rfl
theorem t_520 : (.code yJ1_charAt_3b067 cJ1_charAt_3b067 2 (some .char) : Cond) ∈ gw := gm (gq3 40 rfl) rfl
theorem t_521 : (.methodLink RJ1 9 yJ0_checkIndex_df160 : Cond) ∈ gw := gm (gq3 41 rfl) rfl
theorem t_522 : (.static yJ0_checkIndex_df160 : Cond) ∈ gw := gm (gq3 42 rfl) rfl
theorem t_523 : (.code yJ0_checkIndex_df160 cJ0_checkIndex_df160 2 none : Cond) ∈ gw := gm (gq3 43 rfl) rfl
theorem t_524 : (.fieldLink RJ0 1053 "jdk/internal/util/Preconditions" "SIOOBE_FORMATTER" "Ljava/util/function/BiFunction;" : Cond) ∈ gw := gm (gq3 44 rfl) rfl
theorem t_526 : (.methodLink RJ0 1059 yJ3_checkIndex_8e157 : Cond) ∈ gw := gm (gq3 46 rfl) rfl
theorem t_527 : (.static yJ3_checkIndex_8e157 : Cond) ∈ gw := gm (gq3 47 rfl) rfl
theorem t_528 : (.code yJ3_checkIndex_8e157 cJ3_checkIndex_8e157 3 (some .int) : Cond) ∈ gw := gm (gq3 48 rfl) rfl
theorem t_529 : (.methodLink RJ0 498 yJ2_charAt_3b067 : Cond) ∈ gw := gm (gq3 49 rfl) rfl
theorem t_530 : (.static yJ2_charAt_3b067 : Cond) ∈ gw := gm (gq3 50 rfl) rfl
theorem t_531 : (.code yJ2_charAt_3b067 cJ2_charAt_3b067 2 (some .char) : Cond) ∈ gw := gm (gq3 51 rfl) rfl
theorem t_532 : (.methodLink RJ2 67 yJ2_checkIndex_2214a : Cond) ∈ gw := gm (gq3 52 rfl) rfl
theorem t_533 : (.static yJ2_checkIndex_2214a : Cond) ∈ gw := gm (gq3 53 rfl) rfl
theorem t_534 : (.code yJ2_checkIndex_2214a cJ2_checkIndex_2214a 2 none : Cond) ∈ gw := gm (gq3 54 rfl) rfl
theorem t_535 : (.methodLink RJ2 48 yJ2_length_9d52b : Cond) ∈ gw := gm (gq3 55 rfl) rfl
theorem t_536 : (.static yJ2_length_9d52b : Cond) ∈ gw := gm (gq3 56 rfl) rfl
theorem t_537 : (.code yJ2_length_9d52b cJ2_length_9d52b 1 (some .int) : Cond) ∈ gw := gm (gq3 57 rfl) rfl
theorem t_538 : (.methodLink RJ2 414 yJ0_checkIndex_df160 : Cond) ∈ gw := gm (gq3 58 rfl) rfl
theorem t_539 : (.methodLink RJ2 71 yJ2_getChar_3b067 : Cond) ∈ gw := gm (gq3 59 rfl) rfl
theorem t_540 : (.static yJ2_getChar_3b067 : Cond) ∈ gw := gm (gq3 60 rfl) rfl
theorem t_541 : (.code yJ2_getChar_3b067 cJ2_getChar_3b067 2 (some .char) : Cond) ∈ gw := gm (gq3 61 rfl) rfl
theorem t_542 : (.fieldLink RJ2 44 "java/lang/StringUTF16" "$assertionsDisabled" "Z" : Cond) ∈ gw := gm (gq3 62 rfl) rfl
theorem t_544 : (.fieldLink RJ2 59 "java/lang/StringUTF16" "HI_BYTE_SHIFT" "I" : Cond) ∈ gw := gm (gq3 64 rfl) rfl
theorem t_546 : (.fieldLink RJ2 63 "java/lang/StringUTF16" "LO_BYTE_SHIFT" "I" : Cond) ∈ gw := gm (gq3 66 rfl) rfl
theorem t_548 : (.methodLink RX5 82 yX5_readContact : Cond) ∈ gw := gm (gq3 68 rfl) rfl
theorem t_550 : (.instanceMethod yX5_readContact : Cond) ∈ gw := gm (gq3 70 rfl) rfl
theorem t_551 : (.code yX5_readContact cX5_readContact 1 (some .boolean) : Cond) ∈ gw := gm (gq3 71 rfl) rfl
theorem t_552 : (.methodLink RX5 98 yX5_readMoment : Cond) ∈ gw := gm (gq3 72 rfl) rfl
theorem t_554 : (.instanceMethod yX5_readMoment : Cond) ∈ gw := gm (gq3 74 rfl) rfl
theorem t_555 : (.code yX5_readMoment cX5_readMoment 1 (some .boolean) : Cond) ∈ gw := gm (gq3 75 rfl) rfl
theorem t_558 : (.instanceMethod yX10_wordAsNumber : Cond) ∈ gw := gm (gq3 78 rfl) rfl
theorem t_559 : (.code yX10_wordAsNumber cX10_wordAsNumber 6 (some .long) : Cond) ∈ gw := gm (gq3 79 rfl) rfl
theorem t_560 : (.constantLong RX10 45 (-1) : Cond) ∈ gw := gm (gq3 80 rfl) rfl
theorem t_561 : (.constantLong RX10 51 (10) : Cond) ∈ gw := gm (gq3 81 rfl) rfl
theorem t_562 : (.constantLong RX5 116 (-1) : Cond) ∈ gw := gm (gq3 82 rfl) rfl
theorem t_565 : (.instanceMethod yX10_wordAsCall : Cond) ∈ gw := gm (gq3 85 rfl) rfl
theorem t_566 : (.code yX10_wordAsCall cX10_wordAsCall 1 (some .long) : Cond) ∈ gw := gm (gq3 86 rfl) rfl
theorem t_567 : (.methodLink RX10 53 yX10_callBetween : Cond) ∈ gw := gm (gq3 87 rfl) rfl
theorem t_569 : (.methodLink RX5 87 yX5_readRest : Cond) ∈ gw := gm (gq3 89 rfl) rfl
theorem t_571 : (.instanceMethod yX5_readRest : Cond) ∈ gw := gm (gq3 91 rfl) rfl
theorem t_572 : (.code yX5_readRest cX5_readRest 1 (some .boolean) : Cond) ∈ gw := gm (gq3 92 rfl) rfl
theorem t_574 : (.methodLink RX5 62 yX5_addWrong : Cond) ∈ gw := gm (gq3 94 rfl) rfl
theorem t_576 : (.instanceMethod yX5_addWrong : Cond) ∈ gw := gm (gq3 96 rfl) rfl
theorem t_577 : (.code yX5_addWrong cX5_addWrong 2 none : Cond) ∈ gw := gm (gq3 97 rfl) rfl
theorem t_580 : (.instanceMethod yX4_add : Cond) ∈ gw := gm (gq3 100 rfl) rfl
theorem t_581 : (.code yX4_add cX4_add 2 (some .boolean) : Cond) ∈ gw := gm (gq3 101 rfl) rfl
theorem t_584 : (.instanceMethod yX2_copyLine : Cond) ∈ gw := gm (gq3 104 rfl) rfl
theorem t_585 : (.code yX2_copyLine cX2_copyLine 2 none : Cond) ∈ gw := gm (gq3 105 rfl) rfl
theorem t_588 : (.instanceMethod yX9_putLog : Cond) ∈ gw := gm (gq3 108 rfl) rfl
theorem t_589 : (.code yX9_putLog cX9_putLog 4 (some (.object "ContactHouse$Log") ) : Cond) ∈ gw := gm (gq3 109 rfl) rfl
theorem t_590 : (.arrayClass .byte : Cond) ∈ gw := gm (gq3 110 rfl) rfl
theorem t_591 : (.methodLink RL 37 yX11_wrong : Cond) ∈ gw := gm (gq3 111 rfl) rfl
theorem t_592 : (.instanceMethod yX11_wrong : Cond) ∈ gw := gm (gq3 112 rfl) rfl
theorem t_593 : (.selects RX11 yX11_wrong yX11_wrong : Cond) ∈ gw := gm (gq3 113 rfl) rfl
theorem t_594 : (.code yX11_wrong cX11_wrong 2 (some .int) : Cond) ∈ gw := gm (gq3 114 rfl) rfl
theorem t_595 : (.methodLink RL 41 yX11_rule : Cond) ∈ gw := gm (gq3 115 rfl) rfl
theorem t_596 : (.instanceMethod yX11_rule : Cond) ∈ gw := gm (gq3 116 rfl) rfl
theorem t_597 : (.selects RX11 yX11_rule yX11_rule : Cond) ∈ gw := gm (gq3 117 rfl) rfl
theorem t_598 : (.code yX11_rule cX11_rule 2 (some .int) : Cond) ∈ gw := gm (gq3 118 rfl) rfl
theorem t_601 : (.instanceMethod yX3_read : Cond) ∈ gw := gm (gq3 121 rfl) rfl
theorem t_602 : (.code yX3_read cX3_read 3 (some .int) : Cond) ∈ gw := gm (gq3 122 rfl) rfl
theorem t_605 : (.methodLink RX3 43 yX3_codeOf : Cond) ∈ gw := gm (gq3 125 rfl) rfl
theorem t_606 : (.static yX3_codeOf : Cond) ∈ gw := gm (gq3 126 rfl) rfl
theorem t_607 : (.code yX3_codeOf cX3_codeOf 3 (some .int) : Cond) ∈ gw := gm (gq3 127 rfl) rfl
theorem t_609 : (.constantLong RX3 62 (-1) : Cond) ∈ gw := gm (gq3 129 rfl) rfl
theorem t_621 : (.methodLink RX3 47 yX3_addCode : Cond) ∈ gw := gm (gq3 141 rfl) rfl
theorem t_623 : (.instanceMethod yX3_addCode : Cond) ∈ gw := gm (gq3 143 rfl) rfl
theorem t_624 : (.code yX3_addCode cX3_addCode 4 (some .boolean) : Cond) ∈ gw := gm (gq3 144 rfl) rfl
theorem t_626 : (.methodLink RX3 91 yX3_operandsOf : Cond) ∈ gw := gm (gq3 146 rfl) rfl
theorem t_627 : (.static yX3_operandsOf : Cond) ∈ gw := gm (gq3 147 rfl) rfl
theorem t_628 : (.code yX3_operandsOf cX3_operandsOf 1 (some .int) : Cond) ∈ gw := gm (gq3 148 rfl) rfl
theorem t_629 : (.methodLink RX3 95 yX3_endOperand : Cond) ∈ gw := gm (gq3 149 rfl) rfl
theorem t_631 : (.instanceMethod yX3_endOperand : Cond) ∈ gw := gm (gq3 151 rfl) rfl
theorem t_632 : (.code yX3_endOperand cX3_endOperand 1 none : Cond) ∈ gw := gm (gq3 152 rfl) rfl
theorem t_633 : (.methodLink RX3 54 yX3_takeDraft : Cond) ∈ gw := gm (gq3 153 rfl) rfl
theorem t_635 : (.instanceMethod yX3_takeDraft : Cond) ∈ gw := gm (gq3 155 rfl) rfl
theorem t_636 : (.code yX3_takeDraft cX3_takeDraft 3 none : Cond) ∈ gw := gm (gq3 156 rfl) rfl
theorem t_637 : (.methodLink RL 46 yX11_window : Cond) ∈ gw := gm (gq3 157 rfl) rfl
theorem t_638 : (.instanceMethod yX11_window : Cond) ∈ gw := gm (gq3 158 rfl) rfl
theorem t_639 : (.selects RX11 yX11_window yX11_window : Cond) ∈ gw := gm (gq3 159 rfl) rfl
theorem t_640 : (.code yX11_window cX11_window 2 (some .int) : Cond) ∈ gw := gm (gq3 160 rfl) rfl
theorem t_643 : (.instanceMethod yX0_setWindow : Cond) ∈ gw := gm (gq3 163 rfl) rfl
theorem t_644 : (.code yX0_setWindow cX0_setWindow 2 none : Cond) ∈ gw := gm (gq3 164 rfl) rfl
theorem t_645 : (.methodLink RL 50 yX11_penalty : Cond) ∈ gw := gm (gq3 165 rfl) rfl
theorem t_646 : (.instanceMethod yX11_penalty : Cond) ∈ gw := gm (gq3 166 rfl) rfl
theorem t_647 : (.selects RX11 yX11_penalty yX11_penalty : Cond) ∈ gw := gm (gq3 167 rfl) rfl
theorem t_648 : (.code yX11_penalty cX11_penalty 2 (some .int) : Cond) ∈ gw := gm (gq3 168 rfl) rfl
theorem t_649 : (.methodLink RL 54 yX11_lines : Cond) ∈ gw := gm (gq3 169 rfl) rfl
theorem t_650 : (.instanceMethod yX11_lines : Cond) ∈ gw := gm (gq3 170 rfl) rfl
theorem t_651 : (.selects RX11 yX11_lines yX11_lines : Cond) ∈ gw := gm (gq3 171 rfl) rfl
theorem t_652 : (.code yX11_lines cX11_lines 4 (some .int) : Cond) ∈ gw := gm (gq3 172 rfl) rfl
theorem t_653 : (.methodLink RX11 147 yX11_askedLog : Cond) ∈ gw := gm (gq3 173 rfl) rfl
theorem t_655 : (.instanceMethod yX11_askedLog : Cond) ∈ gw := gm (gq3 175 rfl) rfl
theorem t_656 : (.code yX11_askedLog cX11_askedLog 5 (some (.object "ContactHouse$Log") ) : Cond) ∈ gw := gm (gq3 176 rfl) rfl
theorem t_657 : (.methodLink RX11 226 yX11_askedStation : Cond) ∈ gw := gm (gq3 177 rfl) rfl
theorem t_659 : (.instanceMethod yX11_askedStation : Cond) ∈ gw := gm (gq3 179 rfl) rfl
theorem t_660 : (.code yX11_askedStation cX11_askedStation 3 (some (.object "ContactHouse$Station") ) : Cond) ∈ gw := gm (gq3 180 rfl) rfl
theorem t_663 : (.instanceMethod yX9_logOf : Cond) ∈ gw := gm (gq3 183 rfl) rfl
theorem t_664 : (.code yX9_logOf cX9_logOf 2 (some (.object "ContactHouse$Log") ) : Cond) ∈ gw := gm (gq3 184 rfl) rfl
theorem t_665 : (.methodLink RX11 151 yX11_answered : Cond) ∈ gw := gm (gq3 185 rfl) rfl
theorem t_667 : (.instanceMethod yX11_answered : Cond) ∈ gw := gm (gq3 187 rfl) rfl
theorem t_668 : (.code yX11_answered cX11_answered 3 (some .long) : Cond) ∈ gw := gm (gq3 188 rfl) rfl
theorem t_669 : (.methodLink RL 58 yX11_entry : Cond) ∈ gw := gm (gq3 189 rfl) rfl
theorem t_670 : (.instanceMethod yX11_entry : Cond) ∈ gw := gm (gq3 190 rfl) rfl
theorem t_671 : (.selects RX11 yX11_entry yX11_entry : Cond) ∈ gw := gm (gq3 191 rfl) rfl
theorem t_672 : (.code yX11_entry cX11_entry 5 (some .int) : Cond) ∈ gw := gm (gq3 192 rfl) rfl
theorem t_673 : (.methodLink RX11 155 yX11_askedLine : Cond) ∈ gw := gm (gq3 193 rfl) rfl
theorem t_675 : (.instanceMethod yX11_askedLine : Cond) ∈ gw := gm (gq3 195 rfl) rfl
theorem t_676 : (.code yX11_askedLine cX11_askedLine 6 (some (.object "ContactHouse$Entry") ) : Cond) ∈ gw := gm (gq3 196 rfl) rfl
theorem t_679 : (.instanceMethod yX4_at : Cond) ∈ gw := gm (gq3 199 rfl) rfl
theorem t_680 : (.code yX4_at cX4_at 2 (some (.object "ContactHouse$Entry") ) : Cond) ∈ gw := gm (gq3 200 rfl) rfl
theorem t_681 : (.methodLink RL 63 yX11_moment : Cond) ∈ gw := gm (gq3 201 rfl) rfl
theorem t_682 : (.instanceMethod yX11_moment : Cond) ∈ gw := gm (gq3 202 rfl) rfl
theorem t_683 : (.selects RX11 yX11_moment yX11_moment : Cond) ∈ gw := gm (gq3 203 rfl) rfl
theorem t_684 : (.code yX11_moment cX11_moment 6 (some .long) : Cond) ∈ gw := gm (gq3 204 rfl) rfl
theorem t_685 : (.methodLink RX11 162 yX11_refused : Cond) ∈ gw := gm (gq3 205 rfl) rfl
theorem t_687 : (.instanceMethod yX11_refused : Cond) ∈ gw := gm (gq3 207 rfl) rfl
theorem t_688 : (.code yX11_refused cX11_refused 2 (some .long) : Cond) ∈ gw := gm (gq3 208 rfl) rfl
theorem t_689 : (.methodLink RL 68 yX11_character : Cond) ∈ gw := gm (gq3 209 rfl) rfl
theorem t_690 : (.instanceMethod yX11_character : Cond) ∈ gw := gm (gq3 210 rfl) rfl
theorem t_691 : (.selects RX11 yX11_character yX11_character : Cond) ∈ gw := gm (gq3 211 rfl) rfl
theorem t_692 : (.code yX11_character cX11_character 6 (some .int) : Cond) ∈ gw := gm (gq3 212 rfl) rfl
theorem t_693 : (.methodLink RX11 173 yX11_askedContact : Cond) ∈ gw := gm (gq3 213 rfl) rfl
theorem t_695 : (.instanceMethod yX11_askedContact : Cond) ∈ gw := gm (gq3 215 rfl) rfl
theorem t_696 : (.code yX11_askedContact cX11_askedContact 5 (some (.object "ContactHouse$Entry") ) : Cond) ∈ gw := gm (gq3 216 rfl) rfl
theorem t_699 : (.instanceMethod yX2_callLength : Cond) ∈ gw := gm (gq3 219 rfl) rfl
theorem t_700 : (.code yX2_callLength cX2_callLength 2 (some .int) : Cond) ∈ gw := gm (gq3 220 rfl) rfl
theorem t_703 : (.instanceMethod yX2_callCharacter : Cond) ∈ gw := gm (gq3 223 rfl) rfl
theorem t_704 : (.code yX2_callCharacter cX2_callCharacter 2 (some .int) : Cond) ∈ gw := gm (gq3 224 rfl) rfl
theorem t_705 : (.methodLink RX2 34 yX2_callLength : Cond) ∈ gw := gm (gq3 225 rfl) rfl
theorem t_706 : (.methodLink RL 72 yX11_number : Cond) ∈ gw := gm (gq3 226 rfl) rfl
theorem t_707 : (.instanceMethod yX11_number : Cond) ∈ gw := gm (gq3 227 rfl) rfl
theorem t_708 : (.selects RX11 yX11_number yX11_number : Cond) ∈ gw := gm (gq3 228 rfl) rfl
theorem t_709 : (.code yX11_number cX11_number 7 (some .int) : Cond) ∈ gw := gm (gq3 229 rfl) rfl
theorem t_710 : (.methodLink RL 76 yX11_offset : Cond) ∈ gw := gm (gq3 230 rfl) rfl
theorem t_711 : (.instanceMethod yX11_offset : Cond) ∈ gw := gm (gq3 231 rfl) rfl
theorem t_712 : (.selects RX11 yX11_offset yX11_offset : Cond) ∈ gw := gm (gq3 232 rfl) rfl
theorem t_713 : (.code yX11_offset cX11_offset 3 (some .long) : Cond) ∈ gw := gm (gq3 233 rfl) rfl
theorem t_716 : (.instanceMethod yX0_refresh : Cond) ∈ gw := gm (gq3 236 rfl) rfl
theorem t_717 : (.code yX0_refresh cX0_refresh 4 none : Cond) ∈ gw := gm (gq3 237 rfl) rfl
theorem t_718 : (.methodLink RX0 44 yX0_clearContacts : Cond) ∈ gw := gm (gq3 238 rfl) rfl
theorem t_720 : (.instanceMethod yX0_clearContacts : Cond) ∈ gw := gm (gq4 0 rfl) rfl
theorem t_721 : (.code yX0_clearContacts cX0_clearContacts 7 none : Cond) ∈ gw := gm (gq4 1 rfl) rfl
theorem t_726 : (.instanceMethod yX4_contactAt : Cond) ∈ gw := gm (gq4 6 rfl) rfl
theorem t_727 : (.code yX4_contactAt cX4_contactAt 2 (some (.object "ContactHouse$Entry") ) : Cond) ∈ gw := gm (gq4 7 rfl) rfl
theorem t_731 : (.instanceMethod yX1_offsetOf : Cond) ∈ gw := gm (gq4 11 rfl) rfl
theorem t_732 : (.code yX1_offsetOf cX1_offsetOf 8 (some .long) : Cond) ∈ gw := gm (gq4 12 rfl) rfl
theorem t_733 : (.methodLink RX1 23 yX1_gatherGaps : Cond) ∈ gw := gm (gq4 13 rfl) rfl
theorem t_735 : (.instanceMethod yX1_gatherGaps : Cond) ∈ gw := gm (gq4 15 rfl) rfl
theorem t_736 : (.code yX1_gatherGaps cX1_gatherGaps 7 none : Cond) ∈ gw := gm (gq4 16 rfl) rfl
theorem t_740 : (.methodLink RX1 78 yX1_gatherGapsOf : Cond) ∈ gw := gm (gq4 20 rfl) rfl
theorem t_742 : (.instanceMethod yX1_gatherGapsOf : Cond) ∈ gw := gm (gq4 22 rfl) rfl
theorem t_743 : (.code yX1_gatherGapsOf cX1_gatherGapsOf 8 none : Cond) ∈ gw := gm (gq4 23 rfl) rfl
theorem t_746 : (.instanceMethod yX7_withLogAt : Cond) ∈ gw := gm (gq4 26 rfl) rfl
theorem t_747 : (.code yX7_withLogAt cX7_withLogAt 3 (some (.object "ContactHouse$Station") ) : Cond) ∈ gw := gm (gq4 27 rfl) rfl
theorem t_748 : (.methodLink RX7 21 yX7_at : Cond) ∈ gw := gm (gq4 28 rfl) rfl
theorem t_751 : (.instanceMethod yX9_hasLog : Cond) ∈ gw := gm (gq4 31 rfl) rfl
theorem t_752 : (.code yX9_hasLog cX9_hasLog 5 (some .boolean) : Cond) ∈ gw := gm (gq4 32 rfl) rfl
theorem t_755 : (.instanceMethod yX2_answersTo : Cond) ∈ gw := gm (gq4 35 rfl) rfl
theorem t_756 : (.code yX2_answersTo cX2_answersTo 2 (some .boolean) : Cond) ∈ gw := gm (gq4 36 rfl) rfl
theorem t_757 : (.methodLink RX1 27 yX1_mostAgreeBy : Cond) ∈ gw := gm (gq4 37 rfl) rfl
theorem t_759 : (.instanceMethod yX1_mostAgreeBy : Cond) ∈ gw := gm (gq4 39 rfl) rfl
theorem t_760 : (.code yX1_mostAgreeBy cX1_mostAgreeBy 7 (some .boolean) : Cond) ∈ gw := gm (gq4 40 rfl) rfl
theorem t_761 : (.methodLink RX1 43 yJ9_abs_067f4 : Cond) ∈ gw := gm (gq4 41 rfl) rfl
theorem t_762 : (.static yJ9_abs_067f4 : Cond) ∈ gw := gm (gq4 42 rfl) rfl
theorem t_763 : (.code yJ9_abs_067f4 cJ9_abs_067f4 2 (some .long) : Cond) ∈ gw := gm (gq4 43 rfl) rfl
theorem t_764 : (.methodLink RX1 35 yX1_edgeTowardsZero : Cond) ∈ gw := gm (gq4 44 rfl) rfl
theorem t_765 : (.static yX1_edgeTowardsZero : Cond) ∈ gw := gm (gq4 45 rfl) rfl
theorem t_766 : (.code yX1_edgeTowardsZero cX1_edgeTowardsZero 3 (some .long) : Cond) ∈ gw := gm (gq4 46 rfl) rfl
theorem t_767 : (.methodLink RX1 39 yX1_isNearer : Cond) ∈ gw := gm (gq4 47 rfl) rfl
theorem t_768 : (.static yX1_isNearer : Cond) ∈ gw := gm (gq4 48 rfl) rfl
theorem t_769 : (.code yX1_isNearer cX1_isNearer 4 (some .boolean) : Cond) ∈ gw := gm (gq4 49 rfl) rfl
theorem t_772 : (.instanceMethod yX6_pairUp : Cond) ∈ gw := gm (gq4 52 rfl) rfl
theorem t_773 : (.code yX6_pairUp cX6_pairUp 13 none : Cond) ∈ gw := gm (gq4 53 rfl) rfl
theorem t_776 : (.methodLink RX6 45 yX6_putInOrder : Cond) ∈ gw := gm (gq4 56 rfl) rfl
theorem t_777 : (.static yX6_putInOrder : Cond) ∈ gw := gm (gq4 57 rfl) rfl
theorem t_778 : (.code yX6_putInOrder cX6_putInOrder 8 (some .int) : Cond) ∈ gw := gm (gq4 58 rfl) rfl
theorem t_782 : (.instanceMethod yX2_isComplete : Cond) ∈ gw := gm (gq4 62 rfl) rfl
theorem t_783 : (.code yX2_isComplete cX2_isComplete 1 (some .boolean) : Cond) ∈ gw := gm (gq4 63 rfl) rfl
theorem t_784 : (.methodLink RX6 97 yX6_isAhead : Cond) ∈ gw := gm (gq4 64 rfl) rfl
theorem t_785 : (.static yX6_isAhead : Cond) ∈ gw := gm (gq4 65 rfl) rfl
theorem t_786 : (.code yX6_isAhead cX6_isAhead 7 (some .boolean) : Cond) ∈ gw := gm (gq4 66 rfl) rfl
theorem t_787 : (.methodLink RX6 104 yJ6_compare_7cf53 : Cond) ∈ gw := gm (gq4 67 rfl) rfl
theorem t_788 : (.static yJ6_compare_7cf53 : Cond) ∈ gw := gm (gq4 68 rfl) rfl
theorem t_789 : (.code yJ6_compare_7cf53 cJ6_compare_7cf53 2 (some .int) : Cond) ∈ gw := gm (gq4 69 rfl) rfl
theorem t_790 : (.methodLink RX6 56 yX6_clearMeasures : Cond) ∈ gw := gm (gq4 70 rfl) rfl
theorem t_792 : (.instanceMethod yX6_clearMeasures : Cond) ∈ gw := gm (gq4 72 rfl) rfl
theorem t_793 : (.code yX6_clearMeasures cX6_clearMeasures 3 none : Cond) ∈ gw := gm (gq4 73 rfl) rfl
theorem t_794 : (.methodLink RX6 59 yX6_measure : Cond) ∈ gw := gm (gq4 74 rfl) rfl
theorem t_796 : (.instanceMethod yX6_measure : Cond) ∈ gw := gm (gq4 76 rfl) rfl
theorem t_797 : (.code yX6_measure cX6_measure 13 none : Cond) ∈ gw := gm (gq4 77 rfl) rfl
theorem t_801 : (.instanceMethod yX9_putRight : Cond) ∈ gw := gm (gq4 81 rfl) rfl
theorem t_802 : (.code yX9_putRight cX9_putRight 2 (some .long) : Cond) ∈ gw := gm (gq4 82 rfl) rfl
theorem t_803 : (.methodLink RX6 124 yJ9_abs_067f4 : Cond) ∈ gw := gm (gq4 83 rfl) rfl
theorem t_804 : (.constant RX6 130 (100000) : Cond) ∈ gw := gm (gq4 84 rfl) rfl
theorem t_805 : (.methodLink RX6 63 yX6_bestOfUnsettled : Cond) ∈ gw := gm (gq4 85 rfl) rfl
theorem t_807 : (.instanceMethod yX6_bestOfUnsettled : Cond) ∈ gw := gm (gq4 87 rfl) rfl
theorem t_808 : (.code yX6_bestOfUnsettled cX6_bestOfUnsettled 6 (some .int) : Cond) ∈ gw := gm (gq4 88 rfl) rfl
theorem t_809 : (.methodLink RX6 131 yJ9_max_7cf53 : Cond) ∈ gw := gm (gq4 89 rfl) rfl
theorem t_810 : (.static yJ9_max_7cf53 : Cond) ∈ gw := gm (gq4 90 rfl) rfl
theorem t_811 : (.code yJ9_max_7cf53 cJ9_max_7cf53 2 (some .int) : Cond) ∈ gw := gm (gq4 91 rfl) rfl
theorem t_812 : (.methodLink RX6 70 yX6_firstMate : Cond) ∈ gw := gm (gq4 92 rfl) rfl
theorem t_814 : (.instanceMethod yX6_firstMate : Cond) ∈ gw := gm (gq4 94 rfl) rfl
theorem t_815 : (.code yX6_firstMate cX6_firstMate 4 (some .int) : Cond) ∈ gw := gm (gq4 95 rfl) rfl
theorem t_816 : (.methodLink RX6 78 yX6_setMate : Cond) ∈ gw := gm (gq4 96 rfl) rfl
theorem t_817 : (.static yX6_setMate : Cond) ∈ gw := gm (gq4 97 rfl) rfl
theorem t_818 : (.code yX6_setMate cX6_setMate 3 none : Cond) ∈ gw := gm (gq4 98 rfl) rfl
theorem t_819 : (.methodLink RX0 66 yX0_explainContacts : Cond) ∈ gw := gm (gq4 99 rfl) rfl
theorem t_821 : (.instanceMethod yX0_explainContacts : Cond) ∈ gw := gm (gq4 101 rfl) rfl
theorem t_822 : (.code yX0_explainContacts cX0_explainContacts 7 none : Cond) ∈ gw := gm (gq4 102 rfl) rfl
theorem t_823 : (.methodLink RX0 95 yX0_mayBeMisheard : Cond) ∈ gw := gm (gq4 103 rfl) rfl
theorem t_824 : (.static yX0_mayBeMisheard : Cond) ∈ gw := gm (gq4 104 rfl) rfl
theorem t_825 : (.code yX0_mayBeMisheard cX0_mayBeMisheard 1 (some .boolean) : Cond) ∈ gw := gm (gq4 105 rfl) rfl
theorem t_827 : (.methodLink RX0 99 yX0_stationMeant : Cond) ∈ gw := gm (gq4 107 rfl) rfl
theorem t_829 : (.instanceMethod yX0_stationMeant : Cond) ∈ gw := gm (gq4 109 rfl) rfl
theorem t_830 : (.code yX0_stationMeant cX0_stationMeant 11 (some .int) : Cond) ∈ gw := gm (gq4 110 rfl) rfl
theorem t_831 : (.constantLong RX0 134 (1099511627776) : Cond) ∈ gw := gm (gq4 111 rfl) rfl
theorem t_834 : (.instanceMethod yX2_isMisheardFrom : Cond) ∈ gw := gm (gq4 114 rfl) rfl
theorem t_835 : (.code yX2_isMisheardFrom cX2_isMisheardFrom 9 (some .boolean) : Cond) ∈ gw := gm (gq4 115 rfl) rfl
theorem t_836 : (.constantLong RX2 38 (255) : Cond) ∈ gw := gm (gq4 116 rfl) rfl
theorem t_837 : (.methodLink RX0 140 yX0_earliestAnswer : Cond) ∈ gw := gm (gq4 117 rfl) rfl
theorem t_839 : (.instanceMethod yX0_earliestAnswer : Cond) ∈ gw := gm (gq4 119 rfl) rfl
theorem t_840 : (.code yX0_earliestAnswer cX0_earliestAnswer 13 (some .long) : Cond) ∈ gw := gm (gq4 120 rfl) rfl
theorem t_843 : (.instanceMethod yX2_isPaired : Cond) ∈ gw := gm (gq4 123 rfl) rfl
theorem t_844 : (.code yX2_isPaired cX2_isPaired 1 (some .boolean) : Cond) ∈ gw := gm (gq4 124 rfl) rfl
theorem t_847 : (.methodLink RX0 151 yJ9_abs_067f4 : Cond) ∈ gw := gm (gq4 127 rfl) rfl
theorem t_848 : (.methodLink RX0 157 yJ9_min_f86c9 : Cond) ∈ gw := gm (gq4 128 rfl) rfl
theorem t_849 : (.static yJ9_min_f86c9 : Cond) ∈ gw := gm (gq4 129 rfl) rfl
theorem t_850 : (.code yJ9_min_f86c9 cJ9_min_f86c9 4 (some .long) : Cond) ∈ gw := gm (gq4 130 rfl) rfl
theorem t_851 : (.methodLink RX0 110 yX0_isDupe : Cond) ∈ gw := gm (gq4 131 rfl) rfl
theorem t_852 : (.static yX0_isDupe : Cond) ∈ gw := gm (gq4 132 rfl) rfl
theorem t_853 : (.code yX0_isDupe cX0_isDupe 5 (some .boolean) : Cond) ∈ gw := gm (gq4 133 rfl) rfl
theorem t_854 : (.methodLink RX0 114 yX0_explain : Cond) ∈ gw := gm (gq4 134 rfl) rfl
theorem t_856 : (.instanceMethod yX0_explain : Cond) ∈ gw := gm (gq4 136 rfl) rfl
theorem t_857 : (.code yX0_explain cX0_explain 3 (some .int) : Cond) ∈ gw := gm (gq4 137 rfl) rfl
theorem t_858 : (.methodLink RX0 127 yX0_isUnique : Cond) ∈ gw := gm (gq4 138 rfl) rfl
theorem t_860 : (.instanceMethod yX0_isUnique : Cond) ∈ gw := gm (gq4 140 rfl) rfl
theorem t_861 : (.code yX0_isUnique cX0_isUnique 6 (some .boolean) : Cond) ∈ gw := gm (gq4 141 rfl) rfl
theorem t_864 : (.instanceMethod yX9_holdsCall : Cond) ∈ gw := gm (gq4 144 rfl) rfl
theorem t_865 : (.code yX9_holdsCall cX9_holdsCall 7 (some .boolean) : Cond) ∈ gw := gm (gq4 145 rfl) rfl
theorem t_868 : (.instanceMethod yX4_holdsCall : Cond) ∈ gw := gm (gq4 148 rfl) rfl
theorem t_869 : (.code yX4_holdsCall cX4_holdsCall 4 (some .boolean) : Cond) ∈ gw := gm (gq4 149 rfl) rfl
theorem t_871 : (.methodLink RX11 193 yX11_askedStationWithLog : Cond) ∈ gw := gm (gq4 151 rfl) rfl
theorem t_873 : (.instanceMethod yX11_askedStationWithLog : Cond) ∈ gw := gm (gq4 153 rfl) rfl
theorem t_874 : (.code yX11_askedStationWithLog cX11_askedStationWithLog 3 (some (.object "ContactHouse$Station") ) : Cond) ∈ gw := gm (gq4 154 rfl) rfl
theorem t_876 : (.methodLink RL 81 yX11_pair : Cond) ∈ gw := gm (gq4 156 rfl) rfl
theorem t_877 : (.instanceMethod yX11_pair : Cond) ∈ gw := gm (gq4 157 rfl) rfl
theorem t_878 : (.selects RX11 yX11_pair yX11_pair : Cond) ∈ gw := gm (gq4 158 rfl) rfl
theorem t_879 : (.code yX11_pair cX11_pair 5 (some .int) : Cond) ∈ gw := gm (gq4 159 rfl) rfl
theorem t_881 : (.constantLong RX11 208 (-1) : Cond) ∈ gw := gm (gq4 161 rfl) rfl
theorem t_882 : (.methodLink RL 85 yX11_why : Cond) ∈ gw := gm (gq4 162 rfl) rfl
theorem t_883 : (.instanceMethod yX11_why : Cond) ∈ gw := gm (gq4 163 rfl) rfl
theorem t_884 : (.selects RX11 yX11_why yX11_why : Cond) ∈ gw := gm (gq4 164 rfl) rfl
theorem t_885 : (.code yX11_why cX11_why 5 (some .int) : Cond) ∈ gw := gm (gq4 165 rfl) rfl
theorem t_886 : (.methodLink RL 89 yX11_meant : Cond) ∈ gw := gm (gq4 166 rfl) rfl
theorem t_887 : (.instanceMethod yX11_meant : Cond) ∈ gw := gm (gq4 167 rfl) rfl
theorem t_888 : (.selects RX11 yX11_meant yX11_meant : Cond) ∈ gw := gm (gq4 168 rfl) rfl
theorem t_889 : (.code yX11_meant cX11_meant 5 (some .int) : Cond) ∈ gw := gm (gq4 169 rfl) rfl
theorem t_890 : (.methodLink RL 93 yX11_points : Cond) ∈ gw := gm (gq4 170 rfl) rfl
theorem t_891 : (.instanceMethod yX11_points : Cond) ∈ gw := gm (gq4 171 rfl) rfl
theorem t_892 : (.selects RX11 yX11_points yX11_points : Cond) ∈ gw := gm (gq4 172 rfl) rfl
theorem t_893 : (.code yX11_points cX11_points 6 (some .int) : Cond) ∈ gw := gm (gq4 173 rfl) rfl
theorem t_896 : (.instanceMethod yX3_valueFor : Cond) ∈ gw := gm (gq4 176 rfl) rfl
theorem t_897 : (.code yX3_valueFor cX3_valueFor 6 (some .long) : Cond) ∈ gw := gm (gq4 177 rfl) rfl
theorem t_898 : (.methodLink RX3 101 yX3_workOperator : Cond) ∈ gw := gm (gq4 178 rfl) rfl
theorem t_900 : (.instanceMethod yX3_workOperator : Cond) ∈ gw := gm (gq4 180 rfl) rfl
theorem t_901 : (.code yX3_workOperator cX3_workOperator 8 (some .long) : Cond) ∈ gw := gm (gq4 181 rfl) rfl
theorem t_902 : (.methodLink RX3 112 yX3_pop : Cond) ∈ gw := gm (gq4 182 rfl) rfl
theorem t_904 : (.instanceMethod yX3_pop : Cond) ∈ gw := gm (gq4 184 rfl) rfl
theorem t_905 : (.code yX3_pop cX3_pop 1 (some .long) : Cond) ∈ gw := gm (gq4 185 rfl) rfl
theorem t_906 : (.constantLong RX3 126 (1099511627776) : Cond) ∈ gw := gm (gq4 186 rfl) rfl
theorem t_907 : (.methodLink RX3 104 yX3_plainValue : Cond) ∈ gw := gm (gq4 187 rfl) rfl
theorem t_908 : (.static yX3_plainValue : Cond) ∈ gw := gm (gq4 188 rfl) rfl
theorem t_909 : (.code yX3_plainValue cX3_plainValue 4 (some .int) : Cond) ∈ gw := gm (gq4 189 rfl) rfl
theorem t_912 : (.instanceMethod yX9_distanceTo : Cond) ∈ gw := gm (gq4 192 rfl) rfl
theorem t_913 : (.code yX9_distanceTo cX9_distanceTo 8 (some .int) : Cond) ∈ gw := gm (gq4 193 rfl) rfl
theorem t_914 : (.methodLink RX3 108 yX3_push : Cond) ∈ gw := gm (gq4 194 rfl) rfl
theorem t_916 : (.instanceMethod yX3_push : Cond) ∈ gw := gm (gq4 196 rfl) rfl
theorem t_917 : (.code yX3_push cX3_push 3 none : Cond) ∈ gw := gm (gq4 197 rfl) rfl
theorem t_918 : (.methodLink RX11 223 yX11_answeredSum : Cond) ∈ gw := gm (gq4 198 rfl) rfl
theorem t_920 : (.instanceMethod yX11_answeredSum : Cond) ∈ gw := gm (gq4 200 rfl) rfl
theorem t_921 : (.code yX11_answeredSum cX11_answeredSum 3 (some .long) : Cond) ∈ gw := gm (gq4 201 rfl) rfl
theorem t_922 : (.constantLong RX11 278 (1099511627776) : Cond) ∈ gw := gm (gq4 202 rfl) rfl
theorem t_923 : (.methodLink RL 97 yX11_total : Cond) ∈ gw := gm (gq4 203 rfl) rfl
theorem t_924 : (.instanceMethod yX11_total : Cond) ∈ gw := gm (gq4 204 rfl) rfl
theorem t_925 : (.selects RX11 yX11_total yX11_total : Cond) ∈ gw := gm (gq4 205 rfl) rfl
theorem t_926 : (.code yX11_total cX11_total 3 (some .int) : Cond) ∈ gw := gm (gq4 206 rfl) rfl
theorem t_929 : (.instanceMethod yX8_totalOf : Cond) ∈ gw := gm (gq4 209 rfl) rfl
theorem t_930 : (.code yX8_totalOf cX8_totalOf 7 (some .long) : Cond) ∈ gw := gm (gq4 210 rfl) rfl
theorem t_932 : (.methodLink RX8 34 yX8_ownTotal : Cond) ∈ gw := gm (gq4 212 rfl) rfl
theorem t_934 : (.instanceMethod yX8_ownTotal : Cond) ∈ gw := gm (gq4 214 rfl) rfl
theorem t_935 : (.code yX8_ownTotal cX8_ownTotal 4 (some .long) : Cond) ∈ gw := gm (gq4 215 rfl) rfl
theorem t_936 : (.methodLink RX8 43 yX8_checkedSum : Cond) ∈ gw := gm (gq4 216 rfl) rfl
theorem t_938 : (.instanceMethod yX8_checkedSum : Cond) ∈ gw := gm (gq4 218 rfl) rfl
theorem t_939 : (.code yX8_checkedSum cX8_checkedSum 14 (some .long) : Cond) ∈ gw := gm (gq4 219 rfl) rfl
theorem t_943 : (.constantLong RX8 38 (1099511627776) : Cond) ∈ gw := gm (gq4 223 rfl) rfl
theorem t_944 : (.methodLink RX8 79 yJ13_bitCount_95d88 : Cond) ∈ gw := gm (gq4 224 rfl) rfl
theorem t_945 : (.static yJ13_bitCount_95d88 : Cond) ∈ gw := gm (gq4 225 rfl) rfl
theorem t_946 : (.code yJ13_bitCount_95d88 cJ13_bitCount_95d88 2 (some .int) : Cond) ∈ gw := gm (gq4 226 rfl) rfl
theorem t_947 : (.constantLong RJ13 314 (6148914691236517205) : Cond) ∈ gw := gm (gq4 227 rfl) rfl
theorem t_948 : (.constantLong RJ13 316 (3689348814741910323) : Cond) ∈ gw := gm (gq4 228 rfl) rfl
theorem t_949 : (.constantLong RJ13 318 (1085102592571150095) : Cond) ∈ gw := gm (gq4 229 rfl) rfl
theorem t_952 : (.instanceMethod yX9_contactsWithWhy : Cond) ∈ gw := gm (gq4 232 rfl) rfl
theorem t_953 : (.code yX9_contactsWithWhy cX9_contactsWithWhy 9 (some .int) : Cond) ∈ gw := gm (gq4 233 rfl) rfl
theorem t_955 : (.methodLink RX8 47 yX8_twoThirds : Cond) ∈ gw := gm (gq4 235 rfl) rfl
theorem t_956 : (.static yX8_twoThirds : Cond) ∈ gw := gm (gq4 236 rfl) rfl
theorem t_957 : (.code yX8_twoThirds cX8_twoThirds 1 (some .int) : Cond) ∈ gw := gm (gq4 237 rfl) rfl
theorem t_958 : (.methodLink RL 101 yX11_rate : Cond) ∈ gw := gm (gq4 238 rfl) rfl
theorem t_959 : (.instanceMethod yX11_rate : Cond) ∈ gw := gm (gq4 239 rfl) rfl
theorem t_960 : (.selects RX11 yX11_rate yX11_rate : Cond) ∈ gw := gm (gq5 0 rfl) rfl
theorem t_961 : (.code yX11_rate cX11_rate 5 (some .long) : Cond) ∈ gw := gm (gq5 1 rfl) rfl
theorem t_964 : (.instanceMethod yX9_spanOfContacts : Cond) ∈ gw := gm (gq5 4 rfl) rfl
theorem t_965 : (.code yX9_spanOfContacts cX9_spanOfContacts 11 (some .long) : Cond) ∈ gw := gm (gq5 5 rfl) rfl
theorem t_966 : (.constantLong RX9 64 (1099511627776) : Cond) ∈ gw := gm (gq5 6 rfl) rfl
theorem t_967 : (.methodLink RX9 66 yJ9_min_f86c9 : Cond) ∈ gw := gm (gq5 7 rfl) rfl
theorem t_968 : (.methodLink RX9 72 yJ9_max_f86c9 : Cond) ∈ gw := gm (gq5 8 rfl) rfl
theorem t_969 : (.static yJ9_max_f86c9 : Cond) ∈ gw := gm (gq5 9 rfl) rfl
theorem t_970 : (.code yJ9_max_f86c9 cJ9_max_f86c9 4 (some .long) : Cond) ∈ gw := gm (gq5 10 rfl) rfl
theorem t_971 : (.constantLong RX11 236 (3600) : Cond) ∈ gw := gm (gq5 11 rfl) rfl
theorem t_973 : (.methodLink RL 105 yX11_place : Cond) ∈ gw := gm (gq5 13 rfl) rfl
theorem t_974 : (.instanceMethod yX11_place : Cond) ∈ gw := gm (gq5 14 rfl) rfl
theorem t_975 : (.selects RX11 yX11_place yX11_place : Cond) ∈ gw := gm (gq5 15 rfl) rfl
theorem t_976 : (.code yX11_place cX11_place 7 (some .int) : Cond) ∈ gw := gm (gq5 16 rfl) rfl
theorem t_979 : (.instanceMethod yX9_isRanked : Cond) ∈ gw := gm (gq5 19 rfl) rfl
theorem t_980 : (.code yX9_isRanked cX9_isRanked 1 (some .boolean) : Cond) ∈ gw := gm (gq5 20 rfl) rfl
theorem t_981 : (.methodLink RX11 244 yX11_orZero : Cond) ∈ gw := gm (gq5 21 rfl) rfl
theorem t_982 : (.static yX11_orZero : Cond) ∈ gw := gm (gq5 22 rfl) rfl
theorem t_983 : (.code yX11_orZero cX11_orZero 2 (some .int) : Cond) ∈ gw := gm (gq5 23 rfl) rfl
theorem t_984 : (.methodLink RL 109 yX11_publish : Cond) ∈ gw := gm (gq5 24 rfl) rfl
theorem t_985 : (.instanceMethod yX11_publish : Cond) ∈ gw := gm (gq5 25 rfl) rfl
theorem t_986 : (.selects RX11 yX11_publish yX11_publish : Cond) ∈ gw := gm (gq5 26 rfl) rfl
theorem t_987 : (.code yX11_publish cX11_publish 2 (some .int) : Cond) ∈ gw := gm (gq5 27 rfl) rfl
theorem t_988 : (.methodLink RL 113 yX11_known : Cond) ∈ gw := gm (gq5 28 rfl) rfl
theorem t_989 : (.instanceMethod yX11_known : Cond) ∈ gw := gm (gq5 29 rfl) rfl
theorem t_990 : (.selects RX11 yX11_known yX11_known : Cond) ∈ gw := gm (gq5 30 rfl) rfl
theorem t_991 : (.code yX11_known cX11_known 4 (some .int) : Cond) ∈ gw := gm (gq5 31 rfl) rfl
theorem t_992 : (.methodLink RL 117 yX11_finding : Cond) ∈ gw := gm (gq5 32 rfl) rfl
theorem t_993 : (.instanceMethod yX11_finding : Cond) ∈ gw := gm (gq5 33 rfl) rfl
theorem t_994 : (.selects RX11 yX11_finding yX11_finding : Cond) ∈ gw := gm (gq5 34 rfl) rfl
theorem t_995 : (.code yX11_finding cX11_finding 1 (some .int) : Cond) ∈ gw := gm (gq5 35 rfl) rfl
theorem t_996 : (.methodLink RL 121 yX11_count : Cond) ∈ gw := gm (gq5 36 rfl) rfl
theorem t_997 : (.instanceMethod yX11_count : Cond) ∈ gw := gm (gq5 37 rfl) rfl
theorem t_998 : (.selects RX11 yX11_count yX11_count : Cond) ∈ gw := gm (gq5 38 rfl) rfl
theorem t_999 : (.code yX11_count cX11_count 2 (some .int) : Cond) ∈ gw := gm (gq5 39 rfl) rfl
theorem t_1000 : (.classLink RL 10 RX12 : Cond) ∈ gw := gm (gq5 40 rfl) rfl
theorem t_1001 : (.instantiable RX12 70 : Cond) ∈ gw := gm (gq5 41 rfl) rfl
theorem t_1002 : (.methodLink RL 12 yX12_init : Cond) ∈ gw := gm (gq5 42 rfl) rfl
theorem t_1003 : (.instanceMethod yX12_init : Cond) ∈ gw := gm (gq5 43 rfl) rfl
theorem t_1004 : (.code yX12_init cX12_init 2 none : Cond) ∈ gw := gm (gq5 44 rfl) rfl
theorem t_1005 : (.methodLink RX12 1 objectInit : Cond) ∈ gw := gm (gq5 45 rfl) rfl
theorem t_1006 : (.fieldLink RX12 436 "ContactHouseModel" "latestEdition" "I" : Cond) ∈ gw := gm (gq5 46 rfl) rfl
theorem t_1007 : (.fieldLink RX12 130 "ContactHouseModel" "stations" "I" : Cond) ∈ gw := gm (gq5 47 rfl) rfl
theorem t_1008 : (.fieldLink RX12 7 "ContactHouseModel" "kinds" "[I" : Cond) ∈ gw := gm (gq5 48 rfl) rfl
theorem t_1009 : (.fieldLink RX12 13 "ContactHouseModel" "zones" "[I" : Cond) ∈ gw := gm (gq5 49 rfl) rfl
theorem t_1010 : (.fieldLink RX12 16 "ContactHouseModel" "squareX" "[I" : Cond) ∈ gw := gm (gq5 50 rfl) rfl
theorem t_1011 : (.fieldLink RX12 19 "ContactHouseModel" "squareY" "[I" : Cond) ∈ gw := gm (gq5 51 rfl) rfl
theorem t_1012 : (.fieldLink RX12 22 "ContactHouseModel" "callLength" "[I" : Cond) ∈ gw := gm (gq5 52 rfl) rfl
theorem t_1013 : (.fieldLink RX12 25 "ContactHouseModel" "calls" "[I" : Cond) ∈ gw := gm (gq5 53 rfl) rfl
theorem t_1014 : (.fieldLink RX12 28 "ContactHouseModel" "teams" "[I" : Cond) ∈ gw := gm (gq5 54 rfl) rfl
theorem t_1015 : (.fieldLink RX12 31 "ContactHouseModel" "entries" "[I" : Cond) ∈ gw := gm (gq5 55 rfl) rfl
theorem t_1016 : (.fieldLink RX12 34 "ContactHouseModel" "sorts" "[I" : Cond) ∈ gw := gm (gq5 56 rfl) rfl
theorem t_1017 : (.fieldLink RX12 37 "ContactHouseModel" "moments" "[J" : Cond) ∈ gw := gm (gq5 57 rfl) rfl
theorem t_1018 : (.fieldLink RX12 41 "ContactHouseModel" "seconds" "[J" : Cond) ∈ gw := gm (gq5 58 rfl) rfl
theorem t_1019 : (.fieldLink RX12 44 "ContactHouseModel" "toldLength" "[I" : Cond) ∈ gw := gm (gq5 59 rfl) rfl
theorem t_1020 : (.fieldLink RX12 47 "ContactHouseModel" "told" "[I" : Cond) ∈ gw := gm (gq5 60 rfl) rfl
theorem t_1021 : (.fieldLink RX12 50 "ContactHouseModel" "sent" "[I" : Cond) ∈ gw := gm (gq5 61 rfl) rfl
theorem t_1022 : (.fieldLink RX12 53 "ContactHouseModel" "got" "[I" : Cond) ∈ gw := gm (gq5 62 rfl) rfl
theorem t_1023 : (.fieldLink RX12 186 "ContactHouseModel" "isChecked" "Z" : Cond) ∈ gw := gm (gq5 63 rfl) rfl
theorem t_1024 : (.fieldLink RX12 56 "ContactHouseModel" "called" "[I" : Cond) ∈ gw := gm (gq5 64 rfl) rfl
theorem t_1025 : (.fieldLink RX12 59 "ContactHouseModel" "partner" "[I" : Cond) ∈ gw := gm (gq5 65 rfl) rfl
theorem t_1026 : (.fieldLink RX12 62 "ContactHouseModel" "offsets" "[J" : Cond) ∈ gw := gm (gq5 66 rfl) rfl
theorem t_1027 : (.fieldLink RX12 65 "ContactHouseModel" "window" "I" : Cond) ∈ gw := gm (gq5 67 rfl) rfl
theorem t_1028 : (.fieldLink RX12 292 "ContactHouseModel" "penalty" "I" : Cond) ∈ gw := gm (gq5 68 rfl) rfl
theorem t_1029 : (.fieldLink RX12 69 "ContactHouseModel" "words" "I" : Cond) ∈ gw := gm (gq5 69 rfl) rfl
theorem t_1030 : (.fieldLink RX12 72 "ContactHouseModel" "wordOf" "[I" : Cond) ∈ gw := gm (gq5 70 rfl) rfl
theorem t_1031 : (.fieldLink RX12 75 "ContactHouseModel" "numberOf" "[I" : Cond) ∈ gw := gm (gq5 71 rfl) rfl
theorem t_1032 : (.fieldLink RX12 78 "ContactHouseModel" "newWord" "[I" : Cond) ∈ gw := gm (gq5 72 rfl) rfl
theorem t_1033 : (.fieldLink RX12 81 "ContactHouseModel" "newNumber" "[I" : Cond) ∈ gw := gm (gq5 73 rfl) rfl
theorem t_1034 : (.fieldLink RX12 84 "ContactHouseModel" "tape" "[I" : Cond) ∈ gw := gm (gq5 74 rfl) rfl
theorem t_1035 : (.fieldLink RX12 137 "ContactHouseModel" "taped" "I" : Cond) ∈ gw := gm (gq5 75 rfl) rfl
theorem t_1036 : (.fieldLink RX12 235 "ContactHouseModel" "wrongs" "I" : Cond) ∈ gw := gm (gq5 76 rfl) rfl
theorem t_1037 : (.fieldLink RX12 87 "ContactHouseModel" "wrongAt" "[I" : Cond) ∈ gw := gm (gq5 77 rfl) rfl
theorem t_1038 : (.fieldLink RX12 433 "ContactHouseModel" "editions" "I" : Cond) ∈ gw := gm (gq5 78 rfl) rfl
theorem t_1039 : (.fieldLink RX12 90 "ContactHouseModel" "editionNumber" "[I" : Cond) ∈ gw := gm (gq5 79 rfl) rfl
theorem t_1040 : (.fieldLink RX12 93 "ContactHouseModel" "editionMany" "[I" : Cond) ∈ gw := gm (gq5 80 rfl) rfl
theorem t_1041 : (.fieldLink RX12 96 "ContactHouseModel" "editionTotal" "[I" : Cond) ∈ gw := gm (gq5 81 rfl) rfl
theorem t_1042 : (.fieldLink RX12 399 "ContactHouseModel" "finding" "I" : Cond) ∈ gw := gm (gq5 82 rfl) rfl
theorem t_1043 : (.fieldLink RX12 393 "ContactHouseModel" "asks" "I" : Cond) ∈ gw := gm (gq5 83 rfl) rfl
theorem t_1044 : (.fieldLink RX12 405 "ContactHouseModel" "failedAsks" "I" : Cond) ∈ gw := gm (gq5 84 rfl) rfl
theorem t_1045 : (.fieldLink RX12 396 "ContactHouseModel" "opened" "I" : Cond) ∈ gw := gm (gq5 85 rfl) rfl
theorem t_1046 : (.fieldLink RX12 140 "ContactHouseModel" "at" "I" : Cond) ∈ gw := gm (gq5 86 rfl) rfl
theorem t_1047 : (.fieldLink RX12 143 "ContactHouseModel" "stop" "I" : Cond) ∈ gw := gm (gq5 87 rfl) rfl
theorem t_1048 : (.fieldLink RX12 146 "ContactHouseModel" "wordFrom" "I" : Cond) ∈ gw := gm (gq5 88 rfl) rfl
theorem t_1049 : (.fieldLink RX12 149 "ContactHouseModel" "wordLength" "I" : Cond) ∈ gw := gm (gq5 89 rfl) rfl
theorem t_1050 : (.fieldLink RX12 225 "ContactHouseModel" "newSort" "I" : Cond) ∈ gw := gm (gq5 90 rfl) rfl
theorem t_1051 : (.fieldLink RX12 203 "ContactHouseModel" "newMoment" "J" : Cond) ∈ gw := gm (gq5 91 rfl) rfl
theorem t_1052 : (.fieldLink RX12 219 "ContactHouseModel" "newSecond" "J" : Cond) ∈ gw := gm (gq5 92 rfl) rfl
theorem t_1053 : (.fieldLink RX12 207 "ContactHouseModel" "newCallFrom" "I" : Cond) ∈ gw := gm (gq5 93 rfl) rfl
theorem t_1054 : (.fieldLink RX12 210 "ContactHouseModel" "newCallLength" "I" : Cond) ∈ gw := gm (gq5 94 rfl) rfl
theorem t_1055 : (.fieldLink RX12 213 "ContactHouseModel" "newSent" "I" : Cond) ∈ gw := gm (gq5 95 rfl) rfl
theorem t_1056 : (.fieldLink RX12 216 "ContactHouseModel" "newGot" "I" : Cond) ∈ gw := gm (gq5 96 rfl) rfl
theorem t_1057 : (.fieldLink RX12 99 "ContactHouseModel" "wants" "[I" : Cond) ∈ gw := gm (gq5 97 rfl) rfl
theorem t_1058 : (.fieldLink RX12 285 "ContactHouseModel" "byNought" "Z" : Cond) ∈ gw := gm (gq5 98 rfl) rfl
theorem t_1059 : (.fieldLink RX12 266 "ContactHouseModel" "mineStation" "I" : Cond) ∈ gw := gm (gq5 99 rfl) rfl
theorem t_1060 : (.fieldLink RX12 269 "ContactHouseModel" "otherStation" "I" : Cond) ∈ gw := gm (gq5 100 rfl) rfl
theorem t_1061 : (.fieldLink RX12 275 "ContactHouseModel" "bandHere" "I" : Cond) ∈ gw := gm (gq5 101 rfl) rfl
theorem t_1062 : (.fieldLink RX12 272 "ContactHouseModel" "wordAt" "I" : Cond) ∈ gw := gm (gq5 102 rfl) rfl
theorem t_1063 : (.fieldLink RX12 332 "ContactHouseModel" "rows" "I" : Cond) ∈ gw := gm (gq5 103 rfl) rfl
theorem t_1064 : (.fieldLink RX12 325 "ContactHouseModel" "columns" "I" : Cond) ∈ gw := gm (gq5 104 rfl) rfl
theorem t_1065 : (.fieldLink RX12 102 "ContactHouseModel" "rowEntry" "[I" : Cond) ∈ gw := gm (gq5 105 rfl) rfl
theorem t_1066 : (.fieldLink RX12 105 "ContactHouseModel" "columnEntry" "[I" : Cond) ∈ gw := gm (gq5 106 rfl) rfl
theorem t_1067 : (.fieldLink RX12 108 "ContactHouseModel" "far" "[J" : Cond) ∈ gw := gm (gq5 107 rfl) rfl
theorem t_1068 : (.fieldLink RX12 111 "ContactHouseModel" "taken" "[Z" : Cond) ∈ gw := gm (gq5 108 rfl) rfl
theorem t_1069 : (.fieldLink RX12 115 "ContactHouseModel" "rowOf" "[I" : Cond) ∈ gw := gm (gq5 109 rfl) rfl
theorem t_1070 : (.fieldLink RX12 118 "ContactHouseModel" "columnOf" "[I" : Cond) ∈ gw := gm (gq5 110 rfl) rfl
theorem t_1071 : (.fieldLink RX12 121 "ContactHouseModel" "cost" "[J" : Cond) ∈ gw := gm (gq5 111 rfl) rfl
theorem t_1072 : (.fieldLink RX12 124 "ContactHouseModel" "from" "[I" : Cond) ∈ gw := gm (gq5 112 rfl) rfl
theorem t_1073 : (.fieldLink RX12 338 "ContactHouseModel" "pairMany" "I" : Cond) ∈ gw := gm (gq5 113 rfl) rfl
theorem t_1074 : (.fieldLink RX12 335 "ContactHouseModel" "pairSum" "J" : Cond) ∈ gw := gm (gq5 114 rfl) rfl
theorem t_1075 : (.fieldLink RX12 127 "ContactHouseModel" "zoneMet" "[Z" : Cond) ∈ gw := gm (gq5 115 rfl) rfl
theorem t_1217 : (.methodLink RL 17 yX12_feed : Cond) ∈ gw := gm (gq6 17 rfl) rfl
theorem t_1218 : (.instanceMethod yX12_feed : Cond) ∈ gw := gm (gq6 18 rfl) rfl
theorem t_1219 : (.selects RX12 yX12_feed yX12_feed : Cond) ∈ gw := gm (gq6 19 rfl) rfl
theorem t_1220 : (.code yX12_feed cX12_feed 8 (some .int) : Cond) ∈ gw := gm (gq6 20 rfl) rfl
theorem t_1221 : (.methodLink RL 22 yX12_end : Cond) ∈ gw := gm (gq6 21 rfl) rfl
theorem t_1222 : (.instanceMethod yX12_end : Cond) ∈ gw := gm (gq6 22 rfl) rfl
theorem t_1223 : (.selects RX12 yX12_end yX12_end : Cond) ∈ gw := gm (gq6 23 rfl) rfl
theorem t_1224 : (.code yX12_end cX12_end 2 (some .int) : Cond) ∈ gw := gm (gq6 24 rfl) rfl
theorem t_1225 : (.methodLink RX12 133 yX12_isIn : Cond) ∈ gw := gm (gq6 25 rfl) rfl
theorem t_1226 : (.static yX12_isIn : Cond) ∈ gw := gm (gq6 26 rfl) rfl
theorem t_1227 : (.code yX12_isIn cX12_isIn 6 (some .boolean) : Cond) ∈ gw := gm (gq6 27 rfl) rfl
theorem t_1228 : (.methodLink RL 27 yX12_station : Cond) ∈ gw := gm (gq6 28 rfl) rfl
theorem t_1229 : (.instanceMethod yX12_station : Cond) ∈ gw := gm (gq6 29 rfl) rfl
theorem t_1230 : (.selects RX12 yX12_station yX12_station : Cond) ∈ gw := gm (gq6 30 rfl) rfl
theorem t_1231 : (.code yX12_station cX12_station 7 (some .int) : Cond) ∈ gw := gm (gq6 31 rfl) rfl
theorem t_1232 : (.constantLong RX12 172 (4) : Cond) ∈ gw := gm (gq6 32 rfl) rfl
theorem t_1233 : (.constantLong RX12 174 (39) : Cond) ∈ gw := gm (gq6 33 rfl) rfl
theorem t_1234 : (.constantLong RX12 176 (99) : Cond) ∈ gw := gm (gq6 34 rfl) rfl
theorem t_1235 : (.methodLink RX12 178 yX12_isCall : Cond) ∈ gw := gm (gq6 35 rfl) rfl
theorem t_1237 : (.instanceMethod yX12_isCall : Cond) ∈ gw := gm (gq6 37 rfl) rfl
theorem t_1238 : (.code yX12_isCall cX12_isCall 5 (some .boolean) : Cond) ∈ gw := gm (gq6 38 rfl) rfl
theorem t_1239 : (.constantLong RX12 160 (6) : Cond) ∈ gw := gm (gq6 39 rfl) rfl
theorem t_1240 : (.methodLink RX12 162 yX12_isCallByte : Cond) ∈ gw := gm (gq6 40 rfl) rfl
theorem t_1241 : (.static yX12_isCallByte : Cond) ∈ gw := gm (gq6 41 rfl) rfl
theorem t_1242 : (.code yX12_isCallByte cX12_isCallByte 1 (some .boolean) : Cond) ∈ gw := gm (gq6 42 rfl) rfl
theorem t_1243 : (.constantLong RX12 152 (48) : Cond) ∈ gw := gm (gq6 43 rfl) rfl
theorem t_1244 : (.constantLong RX12 154 (57) : Cond) ∈ gw := gm (gq6 44 rfl) rfl
theorem t_1245 : (.constantLong RX12 156 (65) : Cond) ∈ gw := gm (gq6 45 rfl) rfl
theorem t_1246 : (.constantLong RX12 158 (90) : Cond) ∈ gw := gm (gq6 46 rfl) rfl
theorem t_1247 : (.methodLink RX12 182 yX12_withCall : Cond) ∈ gw := gm (gq6 47 rfl) rfl
theorem t_1249 : (.instanceMethod yX12_withCall : Cond) ∈ gw := gm (gq6 49 rfl) rfl
theorem t_1250 : (.code yX12_withCall cX12_withCall 6 (some .int) : Cond) ∈ gw := gm (gq6 50 rfl) rfl
theorem t_1251 : (.methodLink RX12 168 yX12_hasCall : Cond) ∈ gw := gm (gq6 51 rfl) rfl
theorem t_1253 : (.instanceMethod yX12_hasCall : Cond) ∈ gw := gm (gq6 53 rfl) rfl
theorem t_1254 : (.code yX12_hasCall cX12_hasCall 7 (some .boolean) : Cond) ∈ gw := gm (gq6 54 rfl) rfl
theorem t_1255 : (.methodLink RL 32 yX12_join : Cond) ∈ gw := gm (gq6 55 rfl) rfl
theorem t_1256 : (.instanceMethod yX12_join : Cond) ∈ gw := gm (gq6 56 rfl) rfl
theorem t_1257 : (.selects RX12 yX12_join yX12_join : Cond) ∈ gw := gm (gq6 57 rfl) rfl
theorem t_1258 : (.code yX12_join cX12_join 5 (some .int) : Cond) ∈ gw := gm (gq6 58 rfl) rfl
theorem t_1259 : (.methodLink RX12 190 yX12_isStation : Cond) ∈ gw := gm (gq6 59 rfl) rfl
theorem t_1261 : (.instanceMethod yX12_isStation : Cond) ∈ gw := gm (gq6 61 rfl) rfl
theorem t_1262 : (.code yX12_isStation cX12_isStation 2 (some .boolean) : Cond) ∈ gw := gm (gq6 62 rfl) rfl
theorem t_1263 : (.methodLink RL 36 yX12_log : Cond) ∈ gw := gm (gq6 63 rfl) rfl
theorem t_1264 : (.instanceMethod yX12_log : Cond) ∈ gw := gm (gq6 64 rfl) rfl
theorem t_1265 : (.selects RX12 yX12_log yX12_log : Cond) ∈ gw := gm (gq6 65 rfl) rfl
theorem t_1266 : (.code yX12_log cX12_log 5 (some .int) : Cond) ∈ gw := gm (gq6 66 rfl) rfl
theorem t_1267 : (.constantLong RX12 245 (2) : Cond) ∈ gw := gm (gq6 67 rfl) rfl
theorem t_1268 : (.methodLink RX12 247 yX12_readLines : Cond) ∈ gw := gm (gq6 68 rfl) rfl
theorem t_1270 : (.instanceMethod yX12_readLines : Cond) ∈ gw := gm (gq6 70 rfl) rfl
theorem t_1271 : (.code yX12_readLines cX12_readLines 8 (some .int) : Cond) ∈ gw := gm (gq6 71 rfl) rfl
theorem t_1272 : (.methodLink RX12 238 yX12_isLine : Cond) ∈ gw := gm (gq6 72 rfl) rfl
theorem t_1274 : (.instanceMethod yX12_isLine : Cond) ∈ gw := gm (gq6 74 rfl) rfl
theorem t_1275 : (.code yX12_isLine cX12_isLine 1 (some .boolean) : Cond) ∈ gw := gm (gq6 75 rfl) rfl
theorem t_1276 : (.methodLink RX12 193 yX12_next : Cond) ∈ gw := gm (gq6 76 rfl) rfl
theorem t_1278 : (.instanceMethod yX12_next : Cond) ∈ gw := gm (gq6 78 rfl) rfl
theorem t_1279 : (.code yX12_next cX12_next 1 none : Cond) ∈ gw := gm (gq6 79 rfl) rfl
theorem t_1280 : (.methodLink RX12 222 yX12_isByte : Cond) ∈ gw := gm (gq6 80 rfl) rfl
theorem t_1282 : (.instanceMethod yX12_isByte : Cond) ∈ gw := gm (gq6 82 rfl) rfl
theorem t_1283 : (.code yX12_isByte cX12_isByte 2 (some .boolean) : Cond) ∈ gw := gm (gq6 83 rfl) rfl
theorem t_1284 : (.methodLink RX12 228 yX12_isContact : Cond) ∈ gw := gm (gq6 84 rfl) rfl
theorem t_1286 : (.instanceMethod yX12_isContact : Cond) ∈ gw := gm (gq6 86 rfl) rfl
theorem t_1287 : (.code yX12_isContact cX12_isContact 1 (some .boolean) : Cond) ∈ gw := gm (gq6 87 rfl) rfl
theorem t_1288 : (.methodLink RX12 196 yX12_isNumber : Cond) ∈ gw := gm (gq6 88 rfl) rfl
theorem t_1290 : (.instanceMethod yX12_isNumber : Cond) ∈ gw := gm (gq6 90 rfl) rfl
theorem t_1291 : (.code yX12_isNumber cX12_isNumber 4 (some .boolean) : Cond) ∈ gw := gm (gq6 91 rfl) rfl
theorem t_1292 : (.methodLink RX12 199 yX12_numberHere : Cond) ∈ gw := gm (gq6 92 rfl) rfl
theorem t_1294 : (.instanceMethod yX12_numberHere : Cond) ∈ gw := gm (gq6 94 rfl) rfl
theorem t_1295 : (.code yX12_numberHere cX12_numberHere 4 (some .long) : Cond) ∈ gw := gm (gq6 95 rfl) rfl
theorem t_1296 : (.constantLong RX12 166 (10) : Cond) ∈ gw := gm (gq6 96 rfl) rfl
theorem t_1297 : (.methodLink RX12 232 yX12_isRest : Cond) ∈ gw := gm (gq6 97 rfl) rfl
theorem t_1299 : (.instanceMethod yX12_isRest : Cond) ∈ gw := gm (gq6 99 rfl) rfl
theorem t_1300 : (.code yX12_isRest cX12_isRest 1 (some .boolean) : Cond) ∈ gw := gm (gq6 100 rfl) rfl
theorem t_1301 : (.methodLink RX12 241 yX12_write : Cond) ∈ gw := gm (gq6 101 rfl) rfl
theorem t_1303 : (.instanceMethod yX12_write : Cond) ∈ gw := gm (gq6 103 rfl) rfl
theorem t_1304 : (.code yX12_write cX12_write 3 none : Cond) ∈ gw := gm (gq6 104 rfl) rfl
theorem t_1305 : (.methodLink RL 40 yX12_wrong : Cond) ∈ gw := gm (gq6 105 rfl) rfl
theorem t_1306 : (.instanceMethod yX12_wrong : Cond) ∈ gw := gm (gq6 106 rfl) rfl
theorem t_1307 : (.selects RX12 yX12_wrong yX12_wrong : Cond) ∈ gw := gm (gq6 107 rfl) rfl
theorem t_1308 : (.code yX12_wrong cX12_wrong 2 (some .int) : Cond) ∈ gw := gm (gq6 108 rfl) rfl
theorem t_1309 : (.methodLink RL 45 yX12_rule : Cond) ∈ gw := gm (gq6 109 rfl) rfl
theorem t_1310 : (.instanceMethod yX12_rule : Cond) ∈ gw := gm (gq6 110 rfl) rfl
theorem t_1311 : (.selects RX12 yX12_rule yX12_rule : Cond) ∈ gw := gm (gq6 111 rfl) rfl
theorem t_1312 : (.code yX12_rule cX12_rule 4 (some .int) : Cond) ∈ gw := gm (gq6 112 rfl) rfl
theorem t_1313 : (.methodLink RX12 259 yX12_wordHere : Cond) ∈ gw := gm (gq6 113 rfl) rfl
theorem t_1315 : (.instanceMethod yX12_wordHere : Cond) ∈ gw := gm (gq6 115 rfl) rfl
theorem t_1316 : (.code yX12_wordHere cX12_wordHere 1 (some .int) : Cond) ∈ gw := gm (gq6 116 rfl) rfl
theorem t_1317 : (.methodLink RX12 251 yX12_isWord : Cond) ∈ gw := gm (gq6 117 rfl) rfl
theorem t_1319 : (.instanceMethod yX12_isWord : Cond) ∈ gw := gm (gq6 119 rfl) rfl
theorem t_1320 : (.code yX12_isWord cX12_isWord 6 (some .boolean) : Cond) ∈ gw := gm (gq6 120 rfl) rfl
theorem t_1321 : (.methodLink RX12 263 yX12_isOperator : Cond) ∈ gw := gm (gq6 121 rfl) rfl
theorem t_1322 : (.static yX12_isOperator : Cond) ∈ gw := gm (gq6 122 rfl) rfl
theorem t_1323 : (.code yX12_isOperator cX12_isOperator 1 (some .boolean) : Cond) ∈ gw := gm (gq6 123 rfl) rfl
theorem t_1324 : (.constantLong RX12 255 (5) : Cond) ∈ gw := gm (gq6 124 rfl) rfl
theorem t_1325 : (.constantLong RX12 257 (9) : Cond) ∈ gw := gm (gq6 125 rfl) rfl
theorem t_1326 : (.methodLink RL 49 yX12_window : Cond) ∈ gw := gm (gq6 126 rfl) rfl
theorem t_1327 : (.instanceMethod yX12_window : Cond) ∈ gw := gm (gq6 127 rfl) rfl
theorem t_1328 : (.selects RX12 yX12_window yX12_window : Cond) ∈ gw := gm (gq6 128 rfl) rfl
theorem t_1329 : (.code yX12_window cX12_window 2 (some .int) : Cond) ∈ gw := gm (gq6 129 rfl) rfl
theorem t_1330 : (.constantLong RX12 288 (3600) : Cond) ∈ gw := gm (gq6 130 rfl) rfl
theorem t_1331 : (.methodLink RL 53 yX12_penalty : Cond) ∈ gw := gm (gq6 131 rfl) rfl
theorem t_1332 : (.instanceMethod yX12_penalty : Cond) ∈ gw := gm (gq6 132 rfl) rfl
theorem t_1333 : (.selects RX12 yX12_penalty yX12_penalty : Cond) ∈ gw := gm (gq6 133 rfl) rfl
theorem t_1334 : (.code yX12_penalty cX12_penalty 2 (some .int) : Cond) ∈ gw := gm (gq6 134 rfl) rfl
theorem t_1335 : (.constantLong RX12 290 (1000) : Cond) ∈ gw := gm (gq6 135 rfl) rfl
theorem t_1336 : (.methodLink RL 57 yX12_lines : Cond) ∈ gw := gm (gq6 136 rfl) rfl
theorem t_1337 : (.instanceMethod yX12_lines : Cond) ∈ gw := gm (gq6 137 rfl) rfl
theorem t_1338 : (.selects RX12 yX12_lines yX12_lines : Cond) ∈ gw := gm (gq6 138 rfl) rfl
theorem t_1339 : (.code yX12_lines cX12_lines 4 (some .int) : Cond) ∈ gw := gm (gq6 139 rfl) rfl
theorem t_1340 : (.methodLink RX12 415 yX12_begin : Cond) ∈ gw := gm (gq6 140 rfl) rfl
theorem t_1342 : (.instanceMethod yX12_begin : Cond) ∈ gw := gm (gq6 142 rfl) rfl
theorem t_1343 : (.code yX12_begin cX12_begin 2 none : Cond) ∈ gw := gm (gq6 143 rfl) rfl
theorem t_1344 : (.methodLink RX12 402 yX12_check : Cond) ∈ gw := gm (gq6 144 rfl) rfl
theorem t_1346 : (.instanceMethod yX12_check : Cond) ∈ gw := gm (gq6 146 rfl) rfl
theorem t_1347 : (.code yX12_check cX12_check 4 none : Cond) ∈ gw := gm (gq6 147 rfl) rfl
theorem t_1348 : (.methodLink RX12 351 yX12_setCalled : Cond) ∈ gw := gm (gq6 148 rfl) rfl
theorem t_1350 : (.instanceMethod yX12_setCalled : Cond) ∈ gw := gm (gq6 150 rfl) rfl
theorem t_1351 : (.code yX12_setCalled cX12_setCalled 3 none : Cond) ∈ gw := gm (gq6 151 rfl) rfl
theorem t_1352 : (.methodLink RX12 307 yX12_isContactAt : Cond) ∈ gw := gm (gq6 152 rfl) rfl
theorem t_1354 : (.instanceMethod yX12_isContactAt : Cond) ∈ gw := gm (gq6 154 rfl) rfl
theorem t_1355 : (.code yX12_isContactAt cX12_isContactAt 2 (some .boolean) : Cond) ∈ gw := gm (gq6 155 rfl) rfl
theorem t_1356 : (.methodLink RX12 314 yX12_hasLog : Cond) ∈ gw := gm (gq6 156 rfl) rfl
theorem t_1358 : (.instanceMethod yX12_hasLog : Cond) ∈ gw := gm (gq6 158 rfl) rfl
theorem t_1359 : (.code yX12_hasLog cX12_hasLog 2 (some .boolean) : Cond) ∈ gw := gm (gq6 159 rfl) rfl
theorem t_1360 : (.methodLink RX12 354 yX12_offsetOf : Cond) ∈ gw := gm (gq6 160 rfl) rfl
theorem t_1362 : (.instanceMethod yX12_offsetOf : Cond) ∈ gw := gm (gq6 162 rfl) rfl
theorem t_1363 : (.code yX12_offsetOf cX12_offsetOf 13 (some .long) : Cond) ∈ gw := gm (gq6 163 rfl) rfl
theorem t_1364 : (.methodLink RX12 317 yX12_agreeing : Cond) ∈ gw := gm (gq6 164 rfl) rfl
theorem t_1366 : (.instanceMethod yX12_agreeing : Cond) ∈ gw := gm (gq6 166 rfl) rfl
theorem t_1367 : (.code yX12_agreeing cX12_agreeing 9 (some .int) : Cond) ∈ gw := gm (gq6 167 rfl) rfl
theorem t_1368 : (.methodLink RX12 310 yX12_distanceOf : Cond) ∈ gw := gm (gq6 168 rfl) rfl
theorem t_1370 : (.instanceMethod yX12_distanceOf : Cond) ∈ gw := gm (gq6 170 rfl) rfl
theorem t_1371 : (.code yX12_distanceOf cX12_distanceOf 11 (some .long) : Cond) ∈ gw := gm (gq6 171 rfl) rfl
theorem t_1372 : (.methodLink RX12 298 yX12_fit : Cond) ∈ gw := gm (gq6 172 rfl) rfl
theorem t_1374 : (.instanceMethod yX12_fit : Cond) ∈ gw := gm (gq6 174 rfl) rfl
theorem t_1375 : (.code yX12_fit cX12_fit 3 (some .boolean) : Cond) ∈ gw := gm (gq6 175 rfl) rfl
theorem t_1376 : (.methodLink RX12 295 yX12_isWhole : Cond) ∈ gw := gm (gq6 176 rfl) rfl
theorem t_1378 : (.instanceMethod yX12_isWhole : Cond) ∈ gw := gm (gq6 178 rfl) rfl
theorem t_1379 : (.code yX12_isWhole cX12_isWhole 2 (some .boolean) : Cond) ∈ gw := gm (gq6 179 rfl) rfl
theorem t_1380 : (.constantLong RX12 301 (-1) : Cond) ∈ gw := gm (gq6 180 rfl) rfl
theorem t_1381 : (.methodLink RX12 303 yX12_apart : Cond) ∈ gw := gm (gq6 181 rfl) rfl
theorem t_1382 : (.static yX12_apart : Cond) ∈ gw := gm (gq6 182 rfl) rfl
theorem t_1383 : (.code yX12_apart cX12_apart 4 (some .long) : Cond) ∈ gw := gm (gq6 183 rfl) rfl
theorem t_1384 : (.methodLink RX12 321 yX12_plain : Cond) ∈ gw := gm (gq6 184 rfl) rfl
theorem t_1385 : (.static yX12_plain : Cond) ∈ gw := gm (gq6 185 rfl) rfl
theorem t_1386 : (.code yX12_plain cX12_plain 2 (some .long) : Cond) ∈ gw := gm (gq6 186 rfl) rfl
theorem t_1387 : (.methodLink RX12 358 yX12_pairAll : Cond) ∈ gw := gm (gq6 187 rfl) rfl
theorem t_1389 : (.instanceMethod yX12_pairAll : Cond) ∈ gw := gm (gq6 189 rfl) rfl
theorem t_1390 : (.code yX12_pairAll cX12_pairAll 9 none : Cond) ∈ gw := gm (gq6 190 rfl) rfl
theorem t_1391 : (.methodLink RX12 344 yX12_lay : Cond) ∈ gw := gm (gq6 191 rfl) rfl
theorem t_1393 : (.instanceMethod yX12_lay : Cond) ∈ gw := gm (gq6 193 rfl) rfl
theorem t_1394 : (.code yX12_lay cX12_lay 7 none : Cond) ∈ gw := gm (gq6 194 rfl) rfl
theorem t_1395 : (.methodLink RX12 348 yX12_solve : Cond) ∈ gw := gm (gq6 195 rfl) rfl
theorem t_1397 : (.instanceMethod yX12_solve : Cond) ∈ gw := gm (gq6 197 rfl) rfl
theorem t_1398 : (.code yX12_solve cX12_solve 3 none : Cond) ∈ gw := gm (gq6 198 rfl) rfl
theorem t_1399 : (.methodLink RX12 341 yX12_grows : Cond) ∈ gw := gm (gq6 199 rfl) rfl
theorem t_1401 : (.instanceMethod yX12_grows : Cond) ∈ gw := gm (gq6 201 rfl) rfl
theorem t_1402 : (.code yX12_grows cX12_grows 8 (some .boolean) : Cond) ∈ gw := gm (gq6 202 rfl) rfl
theorem t_1403 : (.constantLong RX12 330 (9223372036854775807) : Cond) ∈ gw := gm (gq6 203 rfl) rfl
theorem t_1404 : (.methodLink RX12 408 yX12_reasonOfLog : Cond) ∈ gw := gm (gq6 204 rfl) rfl
theorem t_1406 : (.instanceMethod yX12_reasonOfLog : Cond) ∈ gw := gm (gq6 206 rfl) rfl
theorem t_1407 : (.code yX12_reasonOfLog cX12_reasonOfLog 3 (some .int) : Cond) ∈ gw := gm (gq6 207 rfl) rfl
theorem t_1408 : (.methodLink RX12 418 yX12_found : Cond) ∈ gw := gm (gq6 208 rfl) rfl
theorem t_1410 : (.instanceMethod yX12_found : Cond) ∈ gw := gm (gq6 210 rfl) rfl
theorem t_1411 : (.code yX12_found cX12_found 2 (some .int) : Cond) ∈ gw := gm (gq6 211 rfl) rfl
theorem t_1412 : (.methodLink RL 62 yX12_entry : Cond) ∈ gw := gm (gq6 212 rfl) rfl
theorem t_1413 : (.instanceMethod yX12_entry : Cond) ∈ gw := gm (gq6 213 rfl) rfl
theorem t_1414 : (.selects RX12 yX12_entry yX12_entry : Cond) ∈ gw := gm (gq6 214 rfl) rfl
theorem t_1415 : (.code yX12_entry cX12_entry 5 (some .int) : Cond) ∈ gw := gm (gq6 215 rfl) rfl
theorem t_1416 : (.methodLink RX12 411 yX12_reasonOfLine : Cond) ∈ gw := gm (gq6 216 rfl) rfl
theorem t_1418 : (.instanceMethod yX12_reasonOfLine : Cond) ∈ gw := gm (gq6 218 rfl) rfl
theorem t_1419 : (.code yX12_reasonOfLine cX12_reasonOfLine 5 (some .int) : Cond) ∈ gw := gm (gq6 219 rfl) rfl
theorem t_1420 : (.methodLink RX12 421 yX12_entryAt : Cond) ∈ gw := gm (gq6 220 rfl) rfl
theorem t_1421 : (.static yX12_entryAt : Cond) ∈ gw := gm (gq6 221 rfl) rfl
theorem t_1422 : (.code yX12_entryAt cX12_entryAt 3 (some .int) : Cond) ∈ gw := gm (gq6 222 rfl) rfl
theorem t_1423 : (.methodLink RL 67 yX12_moment : Cond) ∈ gw := gm (gq6 223 rfl) rfl
theorem t_1424 : (.instanceMethod yX12_moment : Cond) ∈ gw := gm (gq6 224 rfl) rfl
theorem t_1425 : (.selects RX12 yX12_moment yX12_moment : Cond) ∈ gw := gm (gq6 225 rfl) rfl
theorem t_1426 : (.code yX12_moment cX12_moment 7 (some .long) : Cond) ∈ gw := gm (gq6 226 rfl) rfl
theorem t_1427 : (.methodLink RL 71 yX12_character : Cond) ∈ gw := gm (gq6 227 rfl) rfl
theorem t_1428 : (.instanceMethod yX12_character : Cond) ∈ gw := gm (gq6 228 rfl) rfl
theorem t_1429 : (.selects RX12 yX12_character yX12_character : Cond) ∈ gw := gm (gq6 229 rfl) rfl
theorem t_1430 : (.code yX12_character cX12_character 7 (some .int) : Cond) ∈ gw := gm (gq6 230 rfl) rfl
theorem t_1431 : (.methodLink RX12 424 yX12_reasonOfContact : Cond) ∈ gw := gm (gq6 231 rfl) rfl
theorem t_1433 : (.instanceMethod yX12_reasonOfContact : Cond) ∈ gw := gm (gq6 233 rfl) rfl
theorem t_1434 : (.code yX12_reasonOfContact cX12_reasonOfContact 5 (some .int) : Cond) ∈ gw := gm (gq6 234 rfl) rfl
theorem t_1435 : (.methodLink RL 75 yX12_number : Cond) ∈ gw := gm (gq6 235 rfl) rfl
theorem t_1436 : (.instanceMethod yX12_number : Cond) ∈ gw := gm (gq6 236 rfl) rfl
theorem t_1437 : (.selects RX12 yX12_number yX12_number : Cond) ∈ gw := gm (gq6 237 rfl) rfl
theorem t_1438 : (.code yX12_number cX12_number 8 (some .int) : Cond) ∈ gw := gm (gq6 238 rfl) rfl
theorem t_1439 : (.methodLink RL 80 yX12_offset : Cond) ∈ gw := gm (gq6 239 rfl) rfl
theorem t_1440 : (.instanceMethod yX12_offset : Cond) ∈ gw := gm (gq7 0 rfl) rfl
theorem t_1441 : (.selects RX12 yX12_offset yX12_offset : Cond) ∈ gw := gm (gq7 1 rfl) rfl
theorem t_1442 : (.code yX12_offset cX12_offset 2 (some .long) : Cond) ∈ gw := gm (gq7 2 rfl) rfl
theorem t_1443 : (.methodLink RL 84 yX12_pair : Cond) ∈ gw := gm (gq7 3 rfl) rfl
theorem t_1444 : (.instanceMethod yX12_pair : Cond) ∈ gw := gm (gq7 4 rfl) rfl
theorem t_1445 : (.selects RX12 yX12_pair yX12_pair : Cond) ∈ gw := gm (gq7 5 rfl) rfl
theorem t_1446 : (.code yX12_pair cX12_pair 6 (some .int) : Cond) ∈ gw := gm (gq7 6 rfl) rfl
theorem t_1447 : (.methodLink RL 88 yX12_why : Cond) ∈ gw := gm (gq7 7 rfl) rfl
theorem t_1448 : (.instanceMethod yX12_why : Cond) ∈ gw := gm (gq7 8 rfl) rfl
theorem t_1449 : (.selects RX12 yX12_why yX12_why : Cond) ∈ gw := gm (gq7 9 rfl) rfl
theorem t_1450 : (.code yX12_why cX12_why 5 (some .int) : Cond) ∈ gw := gm (gq7 10 rfl) rfl
theorem t_1451 : (.methodLink RX12 377 yX12_whyOf : Cond) ∈ gw := gm (gq7 11 rfl) rfl
theorem t_1453 : (.instanceMethod yX12_whyOf : Cond) ∈ gw := gm (gq7 13 rfl) rfl
theorem t_1454 : (.code yX12_whyOf cX12_whyOf 2 (some .int) : Cond) ∈ gw := gm (gq7 14 rfl) rfl
theorem t_1455 : (.methodLink RX12 367 yX12_isDupe : Cond) ∈ gw := gm (gq7 15 rfl) rfl
theorem t_1457 : (.instanceMethod yX12_isDupe : Cond) ∈ gw := gm (gq7 17 rfl) rfl
theorem t_1458 : (.code yX12_isDupe cX12_isDupe 6 (some .boolean) : Cond) ∈ gw := gm (gq7 18 rfl) rfl
theorem t_1459 : (.methodLink RX12 370 yX12_meantBy : Cond) ∈ gw := gm (gq7 19 rfl) rfl
theorem t_1461 : (.instanceMethod yX12_meantBy : Cond) ∈ gw := gm (gq7 21 rfl) rfl
theorem t_1462 : (.code yX12_meantBy cX12_meantBy 11 (some .int) : Cond) ∈ gw := gm (gq7 22 rfl) rfl
theorem t_1463 : (.methodLink RX12 361 yX12_isNear : Cond) ∈ gw := gm (gq7 23 rfl) rfl
theorem t_1465 : (.instanceMethod yX12_isNear : Cond) ∈ gw := gm (gq7 25 rfl) rfl
theorem t_1466 : (.code yX12_isNear cX12_isNear 5 (some .boolean) : Cond) ∈ gw := gm (gq7 26 rfl) rfl
theorem t_1467 : (.methodLink RX12 374 yX12_standsIn : Cond) ∈ gw := gm (gq7 27 rfl) rfl
theorem t_1469 : (.instanceMethod yX12_standsIn : Cond) ∈ gw := gm (gq7 29 rfl) rfl
theorem t_1470 : (.code yX12_standsIn cX12_standsIn 6 (some .int) : Cond) ∈ gw := gm (gq7 30 rfl) rfl
theorem t_1471 : (.methodLink RX12 364 yX12_isSameCall : Cond) ∈ gw := gm (gq7 31 rfl) rfl
theorem t_1473 : (.instanceMethod yX12_isSameCall : Cond) ∈ gw := gm (gq7 33 rfl) rfl
theorem t_1474 : (.code yX12_isSameCall cX12_isSameCall 5 (some .boolean) : Cond) ∈ gw := gm (gq7 34 rfl) rfl
theorem t_1475 : (.methodLink RL 92 yX12_meant : Cond) ∈ gw := gm (gq7 35 rfl) rfl
theorem t_1476 : (.instanceMethod yX12_meant : Cond) ∈ gw := gm (gq7 36 rfl) rfl
theorem t_1477 : (.selects RX12 yX12_meant yX12_meant : Cond) ∈ gw := gm (gq7 37 rfl) rfl
theorem t_1478 : (.code yX12_meant cX12_meant 6 (some .int) : Cond) ∈ gw := gm (gq7 38 rfl) rfl
theorem t_1479 : (.methodLink RL 96 yX12_points : Cond) ∈ gw := gm (gq7 39 rfl) rfl
theorem t_1480 : (.instanceMethod yX12_points : Cond) ∈ gw := gm (gq7 40 rfl) rfl
theorem t_1481 : (.selects RX12 yX12_points yX12_points : Cond) ∈ gw := gm (gq7 41 rfl) rfl
theorem t_1482 : (.code yX12_points cX12_points 6 (some .int) : Cond) ∈ gw := gm (gq7 42 rfl) rfl
theorem t_1483 : (.methodLink RX12 380 yX12_pointsOf : Cond) ∈ gw := gm (gq7 43 rfl) rfl
theorem t_1485 : (.instanceMethod yX12_pointsOf : Cond) ∈ gw := gm (gq7 45 rfl) rfl
theorem t_1486 : (.code yX12_pointsOf cX12_pointsOf 2 (some .int) : Cond) ∈ gw := gm (gq7 46 rfl) rfl
theorem t_1487 : (.methodLink RX12 281 yX12_worked : Cond) ∈ gw := gm (gq7 47 rfl) rfl
theorem t_1489 : (.instanceMethod yX12_worked : Cond) ∈ gw := gm (gq7 49 rfl) rfl
theorem t_1490 : (.code yX12_worked cX12_worked 6 (some .int) : Cond) ∈ gw := gm (gq7 50 rfl) rfl
theorem t_1491 : (.methodLink RX12 278 yX12_distance : Cond) ∈ gw := gm (gq7 51 rfl) rfl
theorem t_1493 : (.instanceMethod yX12_distance : Cond) ∈ gw := gm (gq7 53 rfl) rfl
theorem t_1494 : (.code yX12_distance cX12_distance 4 (some .int) : Cond) ∈ gw := gm (gq7 54 rfl) rfl
theorem t_1495 : (.methodLink RL 100 yX12_total : Cond) ∈ gw := gm (gq7 55 rfl) rfl
theorem t_1496 : (.instanceMethod yX12_total : Cond) ∈ gw := gm (gq7 56 rfl) rfl
theorem t_1497 : (.selects RX12 yX12_total yX12_total : Cond) ∈ gw := gm (gq7 57 rfl) rfl
theorem t_1498 : (.code yX12_total cX12_total 3 (some .int) : Cond) ∈ gw := gm (gq7 58 rfl) rfl
theorem t_1499 : (.methodLink RX12 390 yX12_totalOf : Cond) ∈ gw := gm (gq7 59 rfl) rfl
theorem t_1501 : (.instanceMethod yX12_totalOf : Cond) ∈ gw := gm (gq7 61 rfl) rfl
theorem t_1502 : (.code yX12_totalOf cX12_totalOf 4 (some .int) : Cond) ∈ gw := gm (gq7 62 rfl) rfl
theorem t_1503 : (.methodLink RX12 387 yX12_own : Cond) ∈ gw := gm (gq7 63 rfl) rfl
theorem t_1505 : (.instanceMethod yX12_own : Cond) ∈ gw := gm (gq7 65 rfl) rfl
theorem t_1506 : (.code yX12_own cX12_own 3 (some .int) : Cond) ∈ gw := gm (gq7 66 rfl) rfl
theorem t_1507 : (.methodLink RX12 383 yX12_checkedSum : Cond) ∈ gw := gm (gq7 67 rfl) rfl
theorem t_1509 : (.instanceMethod yX12_checkedSum : Cond) ∈ gw := gm (gq7 69 rfl) rfl
theorem t_1510 : (.code yX12_checkedSum cX12_checkedSum 9 (some .int) : Cond) ∈ gw := gm (gq7 70 rfl) rfl
theorem t_1511 : (.methodLink RL 104 yX12_rate : Cond) ∈ gw := gm (gq7 71 rfl) rfl
theorem t_1512 : (.instanceMethod yX12_rate : Cond) ∈ gw := gm (gq7 72 rfl) rfl
theorem t_1513 : (.selects RX12 yX12_rate yX12_rate : Cond) ∈ gw := gm (gq7 73 rfl) rfl
theorem t_1514 : (.code yX12_rate cX12_rate 9 (some .long) : Cond) ∈ gw := gm (gq7 74 rfl) rfl
theorem t_1515 : (.methodLink RL 108 yX12_place : Cond) ∈ gw := gm (gq7 75 rfl) rfl
theorem t_1516 : (.instanceMethod yX12_place : Cond) ∈ gw := gm (gq7 76 rfl) rfl
theorem t_1517 : (.selects RX12 yX12_place yX12_place : Cond) ∈ gw := gm (gq7 77 rfl) rfl
theorem t_1518 : (.code yX12_place cX12_place 5 (some .int) : Cond) ∈ gw := gm (gq7 78 rfl) rfl
theorem t_1519 : (.methodLink RX12 427 yX12_isPlaced : Cond) ∈ gw := gm (gq7 79 rfl) rfl
theorem t_1521 : (.instanceMethod yX12_isPlaced : Cond) ∈ gw := gm (gq7 81 rfl) rfl
theorem t_1522 : (.code yX12_isPlaced cX12_isPlaced 2 (some .boolean) : Cond) ∈ gw := gm (gq7 82 rfl) rfl
theorem t_1523 : (.methodLink RX12 430 yX12_totalOrNone : Cond) ∈ gw := gm (gq7 83 rfl) rfl
theorem t_1525 : (.instanceMethod yX12_totalOrNone : Cond) ∈ gw := gm (gq7 85 rfl) rfl
theorem t_1526 : (.code yX12_totalOrNone cX12_totalOrNone 3 (some .int) : Cond) ∈ gw := gm (gq7 86 rfl) rfl
theorem t_1527 : (.methodLink RL 112 yX12_publish : Cond) ∈ gw := gm (gq7 87 rfl) rfl
theorem t_1528 : (.instanceMethod yX12_publish : Cond) ∈ gw := gm (gq7 88 rfl) rfl
theorem t_1529 : (.selects RX12 yX12_publish yX12_publish : Cond) ∈ gw := gm (gq7 89 rfl) rfl
theorem t_1530 : (.code yX12_publish cX12_publish 2 (some .int) : Cond) ∈ gw := gm (gq7 90 rfl) rfl
theorem t_1531 : (.methodLink RL 116 yX12_known : Cond) ∈ gw := gm (gq7 91 rfl) rfl
theorem t_1532 : (.instanceMethod yX12_known : Cond) ∈ gw := gm (gq7 92 rfl) rfl
theorem t_1533 : (.selects RX12 yX12_known yX12_known : Cond) ∈ gw := gm (gq7 93 rfl) rfl
theorem t_1534 : (.code yX12_known cX12_known 5 (some .int) : Cond) ∈ gw := gm (gq7 94 rfl) rfl
theorem t_1535 : (.methodLink RL 120 yX12_finding : Cond) ∈ gw := gm (gq7 95 rfl) rfl
theorem t_1536 : (.instanceMethod yX12_finding : Cond) ∈ gw := gm (gq7 96 rfl) rfl
theorem t_1537 : (.selects RX12 yX12_finding yX12_finding : Cond) ∈ gw := gm (gq7 97 rfl) rfl
theorem t_1538 : (.code yX12_finding cX12_finding 1 (some .int) : Cond) ∈ gw := gm (gq7 98 rfl) rfl
theorem t_1539 : (.methodLink RL 124 yX12_count : Cond) ∈ gw := gm (gq7 99 rfl) rfl
theorem t_1540 : (.instanceMethod yX12_count : Cond) ∈ gw := gm (gq7 100 rfl) rfl
theorem t_1541 : (.selects RX12 yX12_count yX12_count : Cond) ∈ gw := gm (gq7 101 rfl) rfl
theorem t_1542 : (.code yX12_count cX12_count 2 (some .int) : Cond) ∈ gw := gm (gq7 102 rfl) rfl
theorem t_1543 : (.fieldLink RJ0 9 "java/lang/String" "value" "[B" : Cond) ∈ gw := gm (gq7 103 rfl) rfl
theorem t_1544 : (.fieldLink RJ0 15 "java/lang/String" "coder" "B" : Cond) ∈ gw := gm (gq7 104 rfl) rfl
theorem tS_0 : (.selects RX10 yX10_hasRoomFor yX10_hasRoomFor : Cond) ∈ gw := List.mem_filter.mpr ⟨List.mem_append_left _ (List.mem_of_getElem? (i := 0) rfl), rfl⟩
theorem tS_1 : (.selects RX10 yX10_add yX10_add : Cond) ∈ gw := List.mem_filter.mpr ⟨List.mem_append_left _ (List.mem_of_getElem? (i := 1) rfl), rfl⟩
theorem tS_2 : (.selects RX10 yX10_callBetween yX10_callBetween : Cond) ∈ gw := List.mem_filter.mpr ⟨List.mem_append_left _ (List.mem_of_getElem? (i := 2) rfl), rfl⟩
theorem tS_3 : (.selects RX10 yX10_byteAt yX10_byteAt : Cond) ∈ gw := List.mem_filter.mpr ⟨List.mem_append_left _ (List.mem_of_getElem? (i := 3) rfl), rfl⟩
theorem tS_4 : (.selects RX7 yX7_numberOf yX7_numberOf : Cond) ∈ gw := List.mem_filter.mpr ⟨List.mem_append_left _ (List.mem_of_getElem? (i := 4) rfl), rfl⟩
theorem tS_5 : (.selects RX7 yX7_add yX7_add : Cond) ∈ gw := List.mem_filter.mpr ⟨List.mem_append_left _ (List.mem_of_getElem? (i := 5) rfl), rfl⟩
theorem tS_6 : (.selects RX7 yX7_at yX7_at : Cond) ∈ gw := List.mem_filter.mpr ⟨List.mem_append_left _ (List.mem_of_getElem? (i := 6) rfl), rfl⟩
theorem tS_7 : (.selects RX5 yX5_readTape yX5_readTape : Cond) ∈ gw := List.mem_filter.mpr ⟨List.mem_append_left _ (List.mem_of_getElem? (i := 7) rfl), rfl⟩
theorem tS_8 : (.selects RX10 yX10_lineEnd yX10_lineEnd : Cond) ∈ gw := List.mem_filter.mpr ⟨List.mem_append_left _ (List.mem_of_getElem? (i := 8) rfl), rfl⟩
theorem tS_9 : (.selects RX10 yX10_startWords yX10_startWords : Cond) ∈ gw := List.mem_filter.mpr ⟨List.mem_append_left _ (List.mem_of_getElem? (i := 9) rfl), rfl⟩
theorem tS_10 : (.selects RX5 yX5_readLine yX5_readLine : Cond) ∈ gw := List.mem_filter.mpr ⟨List.mem_append_left _ (List.mem_of_getElem? (i := 10) rfl), rfl⟩
theorem tS_11 : (.selects RX10 yX10_nextWord yX10_nextWord : Cond) ∈ gw := List.mem_filter.mpr ⟨List.mem_append_left _ (List.mem_of_getElem? (i := 11) rfl), rfl⟩
theorem tS_12 : (.selects RX10 yX10_wordIs yX10_wordIs : Cond) ∈ gw := List.mem_filter.mpr ⟨List.mem_append_left _ (List.mem_of_getElem? (i := 12) rfl), rfl⟩
theorem tS_13 : (.selects RX5 yX5_readContact yX5_readContact : Cond) ∈ gw := List.mem_filter.mpr ⟨List.mem_append_left _ (List.mem_of_getElem? (i := 13) rfl), rfl⟩
theorem tS_14 : (.selects RX5 yX5_readMoment yX5_readMoment : Cond) ∈ gw := List.mem_filter.mpr ⟨List.mem_append_left _ (List.mem_of_getElem? (i := 14) rfl), rfl⟩
theorem tS_15 : (.selects RX10 yX10_wordAsNumber yX10_wordAsNumber : Cond) ∈ gw := List.mem_filter.mpr ⟨List.mem_append_left _ (List.mem_of_getElem? (i := 15) rfl), rfl⟩
theorem tS_16 : (.selects RX10 yX10_wordAsCall yX10_wordAsCall : Cond) ∈ gw := List.mem_filter.mpr ⟨List.mem_append_left _ (List.mem_of_getElem? (i := 16) rfl), rfl⟩
theorem tS_17 : (.selects RX5 yX5_readRest yX5_readRest : Cond) ∈ gw := List.mem_filter.mpr ⟨List.mem_append_left _ (List.mem_of_getElem? (i := 17) rfl), rfl⟩
theorem tS_18 : (.selects RX5 yX5_addWrong yX5_addWrong : Cond) ∈ gw := List.mem_filter.mpr ⟨List.mem_append_left _ (List.mem_of_getElem? (i := 18) rfl), rfl⟩
theorem tS_19 : (.selects RX4 yX4_add yX4_add : Cond) ∈ gw := List.mem_filter.mpr ⟨List.mem_append_left _ (List.mem_of_getElem? (i := 19) rfl), rfl⟩
theorem tS_20 : (.selects RX2 yX2_copyLine yX2_copyLine : Cond) ∈ gw := List.mem_filter.mpr ⟨List.mem_append_left _ (List.mem_of_getElem? (i := 20) rfl), rfl⟩
theorem tS_21 : (.selects RX9 yX9_putLog yX9_putLog : Cond) ∈ gw := List.mem_filter.mpr ⟨List.mem_append_left _ (List.mem_of_getElem? (i := 21) rfl), rfl⟩
theorem tS_22 : (.selects RX3 yX3_read yX3_read : Cond) ∈ gw := List.mem_filter.mpr ⟨List.mem_append_left _ (List.mem_of_getElem? (i := 22) rfl), rfl⟩
theorem tS_23 : (.selects RX3 yX3_addCode yX3_addCode : Cond) ∈ gw := List.mem_filter.mpr ⟨List.mem_append_left _ (List.mem_of_getElem? (i := 23) rfl), rfl⟩
theorem tS_24 : (.selects RX3 yX3_endOperand yX3_endOperand : Cond) ∈ gw := List.mem_filter.mpr ⟨List.mem_append_left _ (List.mem_of_getElem? (i := 24) rfl), rfl⟩
theorem tS_25 : (.selects RX3 yX3_takeDraft yX3_takeDraft : Cond) ∈ gw := List.mem_filter.mpr ⟨List.mem_append_left _ (List.mem_of_getElem? (i := 25) rfl), rfl⟩
theorem tS_26 : (.selects RX0 yX0_setWindow yX0_setWindow : Cond) ∈ gw := List.mem_filter.mpr ⟨List.mem_append_left _ (List.mem_of_getElem? (i := 26) rfl), rfl⟩
theorem tS_27 : (.selects RX11 yX11_askedLog yX11_askedLog : Cond) ∈ gw := List.mem_filter.mpr ⟨List.mem_append_left _ (List.mem_of_getElem? (i := 27) rfl), rfl⟩
theorem tS_28 : (.selects RX11 yX11_askedStation yX11_askedStation : Cond) ∈ gw := List.mem_filter.mpr ⟨List.mem_append_left _ (List.mem_of_getElem? (i := 28) rfl), rfl⟩
theorem tS_29 : (.selects RX9 yX9_logOf yX9_logOf : Cond) ∈ gw := List.mem_filter.mpr ⟨List.mem_append_left _ (List.mem_of_getElem? (i := 29) rfl), rfl⟩
theorem tS_30 : (.selects RX11 yX11_answered yX11_answered : Cond) ∈ gw := List.mem_filter.mpr ⟨List.mem_append_left _ (List.mem_of_getElem? (i := 30) rfl), rfl⟩
theorem tS_31 : (.selects RX11 yX11_askedLine yX11_askedLine : Cond) ∈ gw := List.mem_filter.mpr ⟨List.mem_append_left _ (List.mem_of_getElem? (i := 31) rfl), rfl⟩
theorem tS_32 : (.selects RX4 yX4_at yX4_at : Cond) ∈ gw := List.mem_filter.mpr ⟨List.mem_append_left _ (List.mem_of_getElem? (i := 32) rfl), rfl⟩
theorem tS_33 : (.selects RX11 yX11_refused yX11_refused : Cond) ∈ gw := List.mem_filter.mpr ⟨List.mem_append_left _ (List.mem_of_getElem? (i := 33) rfl), rfl⟩
theorem tS_34 : (.selects RX11 yX11_askedContact yX11_askedContact : Cond) ∈ gw := List.mem_filter.mpr ⟨List.mem_append_left _ (List.mem_of_getElem? (i := 34) rfl), rfl⟩
theorem tS_35 : (.selects RX2 yX2_callLength yX2_callLength : Cond) ∈ gw := List.mem_filter.mpr ⟨List.mem_append_left _ (List.mem_of_getElem? (i := 35) rfl), rfl⟩
theorem tS_36 : (.selects RX2 yX2_callCharacter yX2_callCharacter : Cond) ∈ gw := List.mem_filter.mpr ⟨List.mem_append_left _ (List.mem_of_getElem? (i := 36) rfl), rfl⟩
theorem tS_37 : (.selects RX0 yX0_refresh yX0_refresh : Cond) ∈ gw := List.mem_filter.mpr ⟨List.mem_append_left _ (List.mem_of_getElem? (i := 37) rfl), rfl⟩
theorem tS_38 : (.selects RX0 yX0_clearContacts yX0_clearContacts : Cond) ∈ gw := List.mem_filter.mpr ⟨List.mem_append_left _ (List.mem_of_getElem? (i := 38) rfl), rfl⟩
theorem tS_39 : (.selects RX4 yX4_contactAt yX4_contactAt : Cond) ∈ gw := List.mem_filter.mpr ⟨List.mem_append_left _ (List.mem_of_getElem? (i := 39) rfl), rfl⟩
theorem tS_40 : (.selects RX1 yX1_offsetOf yX1_offsetOf : Cond) ∈ gw := List.mem_filter.mpr ⟨List.mem_append_left _ (List.mem_of_getElem? (i := 40) rfl), rfl⟩
theorem tS_41 : (.selects RX1 yX1_gatherGaps yX1_gatherGaps : Cond) ∈ gw := List.mem_filter.mpr ⟨List.mem_append_left _ (List.mem_of_getElem? (i := 41) rfl), rfl⟩
theorem tS_42 : (.selects RX1 yX1_gatherGapsOf yX1_gatherGapsOf : Cond) ∈ gw := List.mem_filter.mpr ⟨List.mem_append_left _ (List.mem_of_getElem? (i := 42) rfl), rfl⟩
theorem tS_43 : (.selects RX7 yX7_withLogAt yX7_withLogAt : Cond) ∈ gw := List.mem_filter.mpr ⟨List.mem_append_left _ (List.mem_of_getElem? (i := 43) rfl), rfl⟩
theorem tS_44 : (.selects RX9 yX9_hasLog yX9_hasLog : Cond) ∈ gw := List.mem_filter.mpr ⟨List.mem_append_left _ (List.mem_of_getElem? (i := 44) rfl), rfl⟩
theorem tS_45 : (.selects RX2 yX2_answersTo yX2_answersTo : Cond) ∈ gw := List.mem_filter.mpr ⟨List.mem_append_left _ (List.mem_of_getElem? (i := 45) rfl), rfl⟩
theorem tS_46 : (.selects RX1 yX1_mostAgreeBy yX1_mostAgreeBy : Cond) ∈ gw := List.mem_filter.mpr ⟨List.mem_append_left _ (List.mem_of_getElem? (i := 46) rfl), rfl⟩
theorem tS_47 : (.selects RX6 yX6_pairUp yX6_pairUp : Cond) ∈ gw := List.mem_filter.mpr ⟨List.mem_append_left _ (List.mem_of_getElem? (i := 47) rfl), rfl⟩
theorem tS_48 : (.selects RX2 yX2_isComplete yX2_isComplete : Cond) ∈ gw := List.mem_filter.mpr ⟨List.mem_append_left _ (List.mem_of_getElem? (i := 48) rfl), rfl⟩
theorem tS_49 : (.selects RX6 yX6_clearMeasures yX6_clearMeasures : Cond) ∈ gw := List.mem_filter.mpr ⟨List.mem_append_left _ (List.mem_of_getElem? (i := 49) rfl), rfl⟩
theorem tS_50 : (.selects RX6 yX6_measure yX6_measure : Cond) ∈ gw := List.mem_filter.mpr ⟨List.mem_append_left _ (List.mem_of_getElem? (i := 50) rfl), rfl⟩
theorem tS_51 : (.selects RX9 yX9_putRight yX9_putRight : Cond) ∈ gw := List.mem_filter.mpr ⟨List.mem_append_left _ (List.mem_of_getElem? (i := 51) rfl), rfl⟩
theorem tS_52 : (.selects RX6 yX6_bestOfUnsettled yX6_bestOfUnsettled : Cond) ∈ gw := List.mem_filter.mpr ⟨List.mem_append_left _ (List.mem_of_getElem? (i := 52) rfl), rfl⟩
theorem tS_53 : (.selects RX6 yX6_firstMate yX6_firstMate : Cond) ∈ gw := List.mem_filter.mpr ⟨List.mem_append_left _ (List.mem_of_getElem? (i := 53) rfl), rfl⟩
theorem tS_54 : (.selects RX0 yX0_explainContacts yX0_explainContacts : Cond) ∈ gw := List.mem_filter.mpr ⟨List.mem_append_left _ (List.mem_of_getElem? (i := 54) rfl), rfl⟩
theorem tS_55 : (.selects RX0 yX0_stationMeant yX0_stationMeant : Cond) ∈ gw := List.mem_filter.mpr ⟨List.mem_append_left _ (List.mem_of_getElem? (i := 55) rfl), rfl⟩
theorem tS_56 : (.selects RX2 yX2_isMisheardFrom yX2_isMisheardFrom : Cond) ∈ gw := List.mem_filter.mpr ⟨List.mem_append_left _ (List.mem_of_getElem? (i := 56) rfl), rfl⟩
theorem tS_57 : (.selects RX0 yX0_earliestAnswer yX0_earliestAnswer : Cond) ∈ gw := List.mem_filter.mpr ⟨List.mem_append_left _ (List.mem_of_getElem? (i := 57) rfl), rfl⟩
theorem tS_58 : (.selects RX2 yX2_isPaired yX2_isPaired : Cond) ∈ gw := List.mem_filter.mpr ⟨List.mem_append_left _ (List.mem_of_getElem? (i := 58) rfl), rfl⟩
theorem tS_59 : (.selects RX0 yX0_explain yX0_explain : Cond) ∈ gw := List.mem_filter.mpr ⟨List.mem_append_left _ (List.mem_of_getElem? (i := 59) rfl), rfl⟩
theorem tS_60 : (.selects RX0 yX0_isUnique yX0_isUnique : Cond) ∈ gw := List.mem_filter.mpr ⟨List.mem_append_left _ (List.mem_of_getElem? (i := 60) rfl), rfl⟩
theorem tS_61 : (.selects RX9 yX9_holdsCall yX9_holdsCall : Cond) ∈ gw := List.mem_filter.mpr ⟨List.mem_append_left _ (List.mem_of_getElem? (i := 61) rfl), rfl⟩
theorem tS_62 : (.selects RX4 yX4_holdsCall yX4_holdsCall : Cond) ∈ gw := List.mem_filter.mpr ⟨List.mem_append_left _ (List.mem_of_getElem? (i := 62) rfl), rfl⟩
theorem tS_63 : (.selects RX11 yX11_askedStationWithLog yX11_askedStationWithLog : Cond) ∈ gw := List.mem_filter.mpr ⟨List.mem_append_left _ (List.mem_of_getElem? (i := 63) rfl), rfl⟩
theorem tS_64 : (.selects RX3 yX3_valueFor yX3_valueFor : Cond) ∈ gw := List.mem_filter.mpr ⟨List.mem_append_left _ (List.mem_of_getElem? (i := 64) rfl), rfl⟩
theorem tS_65 : (.selects RX3 yX3_workOperator yX3_workOperator : Cond) ∈ gw := List.mem_filter.mpr ⟨List.mem_append_left _ (List.mem_of_getElem? (i := 65) rfl), rfl⟩
theorem tS_66 : (.selects RX3 yX3_pop yX3_pop : Cond) ∈ gw := List.mem_filter.mpr ⟨List.mem_append_left _ (List.mem_of_getElem? (i := 66) rfl), rfl⟩
theorem tS_67 : (.selects RX9 yX9_distanceTo yX9_distanceTo : Cond) ∈ gw := List.mem_filter.mpr ⟨List.mem_append_left _ (List.mem_of_getElem? (i := 67) rfl), rfl⟩
theorem tS_68 : (.selects RX3 yX3_push yX3_push : Cond) ∈ gw := List.mem_filter.mpr ⟨List.mem_append_left _ (List.mem_of_getElem? (i := 68) rfl), rfl⟩
theorem tS_69 : (.selects RX11 yX11_answeredSum yX11_answeredSum : Cond) ∈ gw := List.mem_filter.mpr ⟨List.mem_append_left _ (List.mem_of_getElem? (i := 69) rfl), rfl⟩
theorem tS_70 : (.selects RX8 yX8_totalOf yX8_totalOf : Cond) ∈ gw := List.mem_filter.mpr ⟨List.mem_append_left _ (List.mem_of_getElem? (i := 70) rfl), rfl⟩
theorem tS_71 : (.selects RX8 yX8_ownTotal yX8_ownTotal : Cond) ∈ gw := List.mem_filter.mpr ⟨List.mem_append_left _ (List.mem_of_getElem? (i := 71) rfl), rfl⟩
theorem tS_72 : (.selects RX8 yX8_checkedSum yX8_checkedSum : Cond) ∈ gw := List.mem_filter.mpr ⟨List.mem_append_left _ (List.mem_of_getElem? (i := 72) rfl), rfl⟩
theorem tS_73 : (.selects RX9 yX9_contactsWithWhy yX9_contactsWithWhy : Cond) ∈ gw := List.mem_filter.mpr ⟨List.mem_append_left _ (List.mem_of_getElem? (i := 73) rfl), rfl⟩
theorem tS_74 : (.selects RX9 yX9_spanOfContacts yX9_spanOfContacts : Cond) ∈ gw := List.mem_filter.mpr ⟨List.mem_append_left _ (List.mem_of_getElem? (i := 74) rfl), rfl⟩
theorem tS_75 : (.selects RX9 yX9_isRanked yX9_isRanked : Cond) ∈ gw := List.mem_filter.mpr ⟨List.mem_append_left _ (List.mem_of_getElem? (i := 75) rfl), rfl⟩
theorem tS_76 : (.selects RX12 yX12_isCall yX12_isCall : Cond) ∈ gw := List.mem_filter.mpr ⟨List.mem_append_left _ (List.mem_of_getElem? (i := 76) rfl), rfl⟩
theorem tS_77 : (.selects RX12 yX12_withCall yX12_withCall : Cond) ∈ gw := List.mem_filter.mpr ⟨List.mem_append_left _ (List.mem_of_getElem? (i := 77) rfl), rfl⟩
theorem tS_78 : (.selects RX12 yX12_hasCall yX12_hasCall : Cond) ∈ gw := List.mem_filter.mpr ⟨List.mem_append_left _ (List.mem_of_getElem? (i := 78) rfl), rfl⟩
theorem tS_79 : (.selects RX12 yX12_isStation yX12_isStation : Cond) ∈ gw := List.mem_filter.mpr ⟨List.mem_append_left _ (List.mem_of_getElem? (i := 79) rfl), rfl⟩
theorem tS_80 : (.selects RX12 yX12_readLines yX12_readLines : Cond) ∈ gw := List.mem_filter.mpr ⟨List.mem_append_left _ (List.mem_of_getElem? (i := 80) rfl), rfl⟩
theorem tS_81 : (.selects RX12 yX12_isLine yX12_isLine : Cond) ∈ gw := List.mem_filter.mpr ⟨List.mem_append_left _ (List.mem_of_getElem? (i := 81) rfl), rfl⟩
theorem tS_82 : (.selects RX12 yX12_next yX12_next : Cond) ∈ gw := List.mem_filter.mpr ⟨List.mem_append_left _ (List.mem_of_getElem? (i := 82) rfl), rfl⟩
theorem tS_83 : (.selects RX12 yX12_isByte yX12_isByte : Cond) ∈ gw := List.mem_filter.mpr ⟨List.mem_append_left _ (List.mem_of_getElem? (i := 83) rfl), rfl⟩
theorem tS_84 : (.selects RX12 yX12_isContact yX12_isContact : Cond) ∈ gw := List.mem_filter.mpr ⟨List.mem_append_left _ (List.mem_of_getElem? (i := 84) rfl), rfl⟩
theorem tS_85 : (.selects RX12 yX12_isNumber yX12_isNumber : Cond) ∈ gw := List.mem_filter.mpr ⟨List.mem_append_left _ (List.mem_of_getElem? (i := 85) rfl), rfl⟩
theorem tS_86 : (.selects RX12 yX12_numberHere yX12_numberHere : Cond) ∈ gw := List.mem_filter.mpr ⟨List.mem_append_left _ (List.mem_of_getElem? (i := 86) rfl), rfl⟩
theorem tS_87 : (.selects RX12 yX12_isRest yX12_isRest : Cond) ∈ gw := List.mem_filter.mpr ⟨List.mem_append_left _ (List.mem_of_getElem? (i := 87) rfl), rfl⟩
theorem tS_88 : (.selects RX12 yX12_write yX12_write : Cond) ∈ gw := List.mem_filter.mpr ⟨List.mem_append_left _ (List.mem_of_getElem? (i := 88) rfl), rfl⟩
theorem tS_89 : (.selects RX12 yX12_wordHere yX12_wordHere : Cond) ∈ gw := List.mem_filter.mpr ⟨List.mem_append_left _ (List.mem_of_getElem? (i := 89) rfl), rfl⟩
theorem tS_90 : (.selects RX12 yX12_isWord yX12_isWord : Cond) ∈ gw := List.mem_filter.mpr ⟨List.mem_append_left _ (List.mem_of_getElem? (i := 90) rfl), rfl⟩
theorem tS_91 : (.selects RX12 yX12_begin yX12_begin : Cond) ∈ gw := List.mem_filter.mpr ⟨List.mem_append_left _ (List.mem_of_getElem? (i := 91) rfl), rfl⟩
theorem tS_92 : (.selects RX12 yX12_check yX12_check : Cond) ∈ gw := List.mem_filter.mpr ⟨List.mem_append_left _ (List.mem_of_getElem? (i := 92) rfl), rfl⟩
theorem tS_93 : (.selects RX12 yX12_setCalled yX12_setCalled : Cond) ∈ gw := List.mem_filter.mpr ⟨List.mem_append_left _ (List.mem_of_getElem? (i := 93) rfl), rfl⟩
theorem tS_94 : (.selects RX12 yX12_isContactAt yX12_isContactAt : Cond) ∈ gw := List.mem_filter.mpr ⟨List.mem_append_left _ (List.mem_of_getElem? (i := 94) rfl), rfl⟩
theorem tS_95 : (.selects RX12 yX12_hasLog yX12_hasLog : Cond) ∈ gw := List.mem_filter.mpr ⟨List.mem_append_left _ (List.mem_of_getElem? (i := 95) rfl), rfl⟩
theorem tS_96 : (.selects RX12 yX12_offsetOf yX12_offsetOf : Cond) ∈ gw := List.mem_filter.mpr ⟨List.mem_append_left _ (List.mem_of_getElem? (i := 96) rfl), rfl⟩
theorem tS_97 : (.selects RX12 yX12_agreeing yX12_agreeing : Cond) ∈ gw := List.mem_filter.mpr ⟨List.mem_append_left _ (List.mem_of_getElem? (i := 97) rfl), rfl⟩
theorem tS_98 : (.selects RX12 yX12_distanceOf yX12_distanceOf : Cond) ∈ gw := List.mem_filter.mpr ⟨List.mem_append_left _ (List.mem_of_getElem? (i := 98) rfl), rfl⟩
theorem tS_99 : (.selects RX12 yX12_fit yX12_fit : Cond) ∈ gw := List.mem_filter.mpr ⟨List.mem_append_left _ (List.mem_of_getElem? (i := 99) rfl), rfl⟩
theorem tS_100 : (.selects RX12 yX12_isWhole yX12_isWhole : Cond) ∈ gw := List.mem_filter.mpr ⟨List.mem_append_left _ (List.mem_of_getElem? (i := 100) rfl), rfl⟩
theorem tS_101 : (.selects RX12 yX12_pairAll yX12_pairAll : Cond) ∈ gw := List.mem_filter.mpr ⟨List.mem_append_left _ (List.mem_of_getElem? (i := 101) rfl), rfl⟩
theorem tS_102 : (.selects RX12 yX12_lay yX12_lay : Cond) ∈ gw := List.mem_filter.mpr ⟨List.mem_append_left _ (List.mem_of_getElem? (i := 102) rfl), rfl⟩
theorem tS_103 : (.selects RX12 yX12_solve yX12_solve : Cond) ∈ gw := List.mem_filter.mpr ⟨List.mem_append_left _ (List.mem_of_getElem? (i := 103) rfl), rfl⟩
theorem tS_104 : (.selects RX12 yX12_grows yX12_grows : Cond) ∈ gw := List.mem_filter.mpr ⟨List.mem_append_left _ (List.mem_of_getElem? (i := 104) rfl), rfl⟩
theorem tS_105 : (.selects RX12 yX12_reasonOfLog yX12_reasonOfLog : Cond) ∈ gw := List.mem_filter.mpr ⟨List.mem_append_left _ (List.mem_of_getElem? (i := 105) rfl), rfl⟩
theorem tS_106 : (.selects RX12 yX12_found yX12_found : Cond) ∈ gw := List.mem_filter.mpr ⟨List.mem_append_left _ (List.mem_of_getElem? (i := 106) rfl), rfl⟩
theorem tS_107 : (.selects RX12 yX12_reasonOfLine yX12_reasonOfLine : Cond) ∈ gw := List.mem_filter.mpr ⟨List.mem_append_left _ (List.mem_of_getElem? (i := 107) rfl), rfl⟩
theorem tS_108 : (.selects RX12 yX12_reasonOfContact yX12_reasonOfContact : Cond) ∈ gw := List.mem_filter.mpr ⟨List.mem_append_left _ (List.mem_of_getElem? (i := 108) rfl), rfl⟩
theorem tS_109 : (.selects RX12 yX12_whyOf yX12_whyOf : Cond) ∈ gw := List.mem_filter.mpr ⟨List.mem_append_left _ (List.mem_of_getElem? (i := 109) rfl), rfl⟩
theorem tS_110 : (.selects RX12 yX12_isDupe yX12_isDupe : Cond) ∈ gw := List.mem_filter.mpr ⟨List.mem_append_left _ (List.mem_of_getElem? (i := 110) rfl), rfl⟩
theorem tS_111 : (.selects RX12 yX12_meantBy yX12_meantBy : Cond) ∈ gw := List.mem_filter.mpr ⟨List.mem_append_left _ (List.mem_of_getElem? (i := 111) rfl), rfl⟩
theorem tS_112 : (.selects RX12 yX12_isNear yX12_isNear : Cond) ∈ gw := List.mem_filter.mpr ⟨List.mem_append_left _ (List.mem_of_getElem? (i := 112) rfl), rfl⟩
theorem tS_113 : (.selects RX12 yX12_standsIn yX12_standsIn : Cond) ∈ gw := List.mem_filter.mpr ⟨List.mem_append_left _ (List.mem_of_getElem? (i := 113) rfl), rfl⟩
theorem tS_114 : (.selects RX12 yX12_isSameCall yX12_isSameCall : Cond) ∈ gw := List.mem_filter.mpr ⟨List.mem_append_left _ (List.mem_of_getElem? (i := 114) rfl), rfl⟩
theorem tS_115 : (.selects RX12 yX12_pointsOf yX12_pointsOf : Cond) ∈ gw := List.mem_filter.mpr ⟨List.mem_append_left _ (List.mem_of_getElem? (i := 115) rfl), rfl⟩
theorem tS_116 : (.selects RX12 yX12_worked yX12_worked : Cond) ∈ gw := List.mem_filter.mpr ⟨List.mem_append_left _ (List.mem_of_getElem? (i := 116) rfl), rfl⟩
theorem tS_117 : (.selects RX12 yX12_distance yX12_distance : Cond) ∈ gw := List.mem_filter.mpr ⟨List.mem_append_left _ (List.mem_of_getElem? (i := 117) rfl), rfl⟩
theorem tS_118 : (.selects RX12 yX12_totalOf yX12_totalOf : Cond) ∈ gw := List.mem_filter.mpr ⟨List.mem_append_left _ (List.mem_of_getElem? (i := 118) rfl), rfl⟩
theorem tS_119 : (.selects RX12 yX12_own yX12_own : Cond) ∈ gw := List.mem_filter.mpr ⟨List.mem_append_left _ (List.mem_of_getElem? (i := 119) rfl), rfl⟩
theorem tS_120 : (.selects RX12 yX12_checkedSum yX12_checkedSum : Cond) ∈ gw := List.mem_filter.mpr ⟨List.mem_append_left _ (List.mem_of_getElem? (i := 120) rfl), rfl⟩
theorem tS_121 : (.selects RX12 yX12_isPlaced yX12_isPlaced : Cond) ∈ gw := List.mem_filter.mpr ⟨List.mem_append_left _ (List.mem_of_getElem? (i := 121) rfl), rfl⟩
theorem tS_122 : (.selects RX12 yX12_totalOrNone yX12_totalOrNone : Cond) ∈ gw := List.mem_filter.mpr ⟨List.mem_append_left _ (List.mem_of_getElem? (i := 122) rfl), rfl⟩
def nestW : List Cond := [.methodLinkNest RX11 9 yX10_init "ContactHouse", .fieldLinkNest RX3 29 "ContactHouse$Tape" "size" "I" "ContactHouse", .fieldLinkNest RX5 46 "ContactHouse$Tape" "size" "I" "ContactHouse", .fieldLinkNest RX11 74 "ContactHouse$Tape" "size" "I" "ContactHouse", .fieldLinkNest RX3 51 "ContactHouse$Tape" "wordStart" "I" "ContactHouse", .fieldLinkNest RX5 59 "ContactHouse$Tape" "wordStart" "I" "ContactHouse", .methodLinkNest RX11 18 yX7_init "ContactHouse", .fieldLinkNest RX8 19 "ContactHouse$Roster" "size" "I" "ContactHouse", .fieldLinkNest RX0 39 "ContactHouse$Roster" "size" "I" "ContactHouse", .fieldLinkNest RX11 90 "ContactHouse$Roster" "size" "I" "ContactHouse", .methodLinkNest RX11 25 yX5_init "ContactHouse", .methodLinkNest RX5 11 yX2_init "ContactHouse", .fieldLinkNest RX4 30 "ContactHouse$Entry" "kind" "I" "ContactHouse", .fieldLinkNest RX5 79 "ContactHouse$Entry" "kind" "I" "ContactHouse", .fieldLinkNest RX11 159 "ContactHouse$Entry" "kind" "I" "ContactHouse", .fieldLinkNest RX6 112 "ContactHouse$Entry" "moment" "J" "ContactHouse", .fieldLinkNest RX9 42 "ContactHouse$Entry" "moment" "J" "ContactHouse", .fieldLinkNest RX5 113 "ContactHouse$Entry" "moment" "J" "ContactHouse", .fieldLinkNest RX1 89 "ContactHouse$Entry" "moment" "J" "ContactHouse", .fieldLinkNest RX0 124 "ContactHouse$Entry" "moment" "J" "ContactHouse", .fieldLinkNest RX11 170 "ContactHouse$Entry" "moment" "J" "ContactHouse", .fieldLinkNest RX5 118 "ContactHouse$Entry" "until" "J" "ContactHouse", .fieldLinkNest RX11 166 "ContactHouse$Entry" "until" "J" "ContactHouse", .fieldLinkNest RX0 80 "ContactHouse$Entry" "call" "J" "ContactHouse", .fieldLinkNest RX4 33 "ContactHouse$Entry" "call" "J" "ContactHouse", .fieldLinkNest RX5 105 "ContactHouse$Entry" "call" "J" "ContactHouse", .fieldLinkNest RX11 216 "ContactHouse$Entry" "call" "J" "ContactHouse", .fieldLinkNest RX5 92 "ContactHouse$Entry" "sent" "I" "ContactHouse", .fieldLinkNest RX6 101 "ContactHouse$Entry" "sent" "I" "ContactHouse", .fieldLinkNest RX11 184 "ContactHouse$Entry" "sent" "I" "ContactHouse", .fieldLinkNest RX5 95 "ContactHouse$Entry" "got" "I" "ContactHouse", .fieldLinkNest RX6 109 "ContactHouse$Entry" "got" "I" "ContactHouse", .fieldLinkNest RX11 187 "ContactHouse$Entry" "got" "I" "ContactHouse", .fieldLinkNest RX6 90 "ContactHouse$Entry" "target" "I" "ContactHouse", .fieldLinkNest RX0 89 "ContactHouse$Entry" "target" "I" "ContactHouse", .fieldLinkNest RX1 73 "ContactHouse$Entry" "target" "I" "ContactHouse", .fieldLinkNest RX8 67 "ContactHouse$Entry" "target" "I" "ContactHouse", .fieldLinkNest RX6 82 "ContactHouse$Entry" "mateStation" "I" "ContactHouse", .fieldLinkNest RX0 92 "ContactHouse$Entry" "mateStation" "I" "ContactHouse", .fieldLinkNest RX11 202 "ContactHouse$Entry" "mateStation" "I" "ContactHouse", .fieldLinkNest RX6 87 "ContactHouse$Entry" "mateLine" "I" "ContactHouse", .fieldLinkNest RX11 205 "ContactHouse$Entry" "mateLine" "I" "ContactHouse", .fieldLinkNest RX8 62 "ContactHouse$Entry" "why" "I" "ContactHouse", .fieldLinkNest RX0 118 "ContactHouse$Entry" "why" "I" "ContactHouse", .fieldLinkNest RX9 61 "ContactHouse$Entry" "why" "I" "ContactHouse", .fieldLinkNest RX11 210 "ContactHouse$Entry" "why" "I" "ContactHouse", .fieldLinkNest RX0 103 "ContactHouse$Entry" "meant" "I" "ContactHouse", .fieldLinkNest RX11 213 "ContactHouse$Entry" "meant" "I" "ContactHouse", .methodLinkNest RX5 26 yX4_init "ContactHouse", .methodLinkNest RX4 21 yX2_init "ContactHouse", .fieldLinkNest RX5 35 "ContactHouse$Log" "size" "I" "ContactHouse", .fieldLinkNest RX6 67 "ContactHouse$Log" "size" "I" "ContactHouse", .fieldLinkNest RX0 73 "ContactHouse$Log" "size" "I" "ContactHouse", .fieldLinkNest RX8 55 "ContactHouse$Log" "size" "I" "ContactHouse", .fieldLinkNest RX1 64 "ContactHouse$Log" "size" "I" "ContactHouse", .fieldLinkNest RX11 124 "ContactHouse$Log" "size" "I" "ContactHouse", .fieldLinkNest RX9 54 "ContactHouse$Log" "size" "I" "ContactHouse", .fieldLinkNest RX5 39 "ContactHouse$Log" "missing" "Z" "ContactHouse", .fieldLinkNest RX9 38 "ContactHouse$Log" "missing" "Z" "ContactHouse", .fieldLinkNest RX11 272 "ContactHouse$Log" "missing" "Z" "ContactHouse", .fieldLinkNest RX11 134 "ContactHouse$LogReader" "wrongLines" "[I" "ContactHouse", .fieldLinkNest RX11 127 "ContactHouse$LogReader" "wrongCount" "I" "ContactHouse", .fieldLinkNest RX11 120 "ContactHouse$LogReader" "draft" "LContactHouse$Log;" "ContactHouse", .methodLinkNest RX11 34 yX3_init "ContactHouse", .methodLinkNest RX11 41 yX0_init "ContactHouse", .methodLinkNest RX0 11 yX6_init "ContactHouse", .methodLinkNest RX0 28 yX1_init "ContactHouse", .fieldLinkNest RX11 91 "ContactHouse$Checker" "fresh" "Z" "ContactHouse", .methodLinkNest RX11 50 yX8_init "ContactHouse", .fieldLinkNest RX11 144 "ContactHouse$Scores" "penalty" "I" "ContactHouse", .methodLinkNest RX11 66 yX10_hasRoomFor "ContactHouse", .methodLinkNest RX11 70 yX10_add "ContactHouse", .methodLinkNest RX11 78 yX10_callBetween "ContactHouse", .methodLinkNest RX11 86 yX7_numberOf "ContactHouse", .methodLinkNest RX11 97 yX9_init "ContactHouse", .methodLinkNest RX9 37 yX4_init "ContactHouse", .fieldLinkNest RX8 40 "ContactHouse$Station" "kind" "I" "ContactHouse", .fieldLinkNest RX11 107 "ContactHouse$Station" "kind" "I" "ContactHouse", .fieldLinkNest RX3 116 "ContactHouse$Station" "kind" "I" "ContactHouse", .fieldLinkNest RX8 76 "ContactHouse$Station" "zone" "I" "ContactHouse", .fieldLinkNest RX3 120 "ContactHouse$Station" "zone" "I" "ContactHouse", .fieldLinkNest RX7 29 "ContactHouse$Station" "call" "J" "ContactHouse", .fieldLinkNest RX0 136 "ContactHouse$Station" "call" "J" "ContactHouse", .fieldLinkNest RX8 29 "ContactHouse$Station" "team" "I" "ContactHouse", .fieldLinkNest RX11 110 "ContactHouse$Station" "team" "I" "ContactHouse", .fieldLinkNest RX11 113 "ContactHouse$Station" "members" "I" "ContactHouse", .fieldLinkNest RX0 56 "ContactHouse$Station" "offset" "J" "ContactHouse", .fieldLinkNest RX11 196 "ContactHouse$Station" "offset" "J" "ContactHouse", .methodLinkNest RX11 100 yX7_add "ContactHouse", .methodLinkNest RX11 103 yX7_at "ContactHouse", .methodLinkNest RX11 116 yX5_readTape "ContactHouse", .methodLinkNest RX5 47 yX10_lineEnd "ContactHouse", .methodLinkNest RX5 51 yX10_startWords "ContactHouse", .methodLinkNest RX5 70 yX10_nextWord "ContactHouse", .methodLinkNest RX5 75 yX10_wordIs "ContactHouse", .methodLinkNest RX5 109 yX10_wordAsNumber "ContactHouse", .methodLinkNest RX5 101 yX10_wordAsCall "ContactHouse", .methodLinkNest RX5 66 yX4_add "ContactHouse", .methodLinkNest RX4 26 yX2_copyLine "ContactHouse", .methodLinkNest RX11 130 yX9_putLog "ContactHouse", .methodLinkNest RX11 137 yX3_read "ContactHouse", .methodLinkNest RX3 32 yX10_startWords "ContactHouse", .methodLinkNest RX3 39 yX10_nextWord "ContactHouse", .methodLinkNest RX3 58 yX10_wordAsNumber "ContactHouse", .methodLinkNest RX3 66 yX10_wordIs "ContactHouse", .methodLinkNest RX3 88 yX11_isBelow "ContactHouse", .methodLinkNest RX11 141 yX0_setWindow "ContactHouse", .methodLinkNest RX11 268 yX9_logOf "ContactHouse", .methodLinkNest RX11 275 yX4_at "ContactHouse", .methodLinkNest RX11 176 yX2_callLength "ContactHouse", .methodLinkNest RX11 180 yX2_callCharacter "ContactHouse", .methodLinkNest RX11 190 yX0_refresh "ContactHouse", .methodLinkNest RX0 48 yX7_at "ContactHouse", .methodLinkNest RX0 69 yX9_logOf "ContactHouse", .methodLinkNest RX0 76 yX4_contactAt "ContactHouse", .methodLinkNest RX0 85 yX7_numberOf "ContactHouse", .methodLinkNest RX0 52 yX1_offsetOf "ContactHouse", .methodLinkNest RX1 52 yX7_at "ContactHouse", .methodLinkNest RX1 58 yX9_logOf "ContactHouse", .methodLinkNest RX1 69 yX4_contactAt "ContactHouse", .methodLinkNest RX1 82 yX7_withLogAt "ContactHouse", .methodLinkNest RX7 25 yX9_hasLog "ContactHouse", .methodLinkNest RX1 85 yX2_answersTo "ContactHouse", .methodLinkNest RX0 62 yX6_pairUp "ContactHouse", .methodLinkNest RX6 33 yX7_at "ContactHouse", .methodLinkNest RX6 39 yX9_logOf "ContactHouse", .methodLinkNest RX6 74 yX4_contactAt "ContactHouse", .methodLinkNest RX6 93 yX2_isComplete "ContactHouse", .methodLinkNest RX6 116 yX2_answersTo "ContactHouse", .methodLinkNest RX6 120 yX9_putRight "ContactHouse", .methodLinkNest RX0 121 yX2_isComplete "ContactHouse", .methodLinkNest RX0 137 yX2_isMisheardFrom "ContactHouse", .methodLinkNest RX0 106 yX2_isPaired "ContactHouse", .methodLinkNest RX0 144 yX2_answersTo "ContactHouse", .methodLinkNest RX0 147 yX9_putRight "ContactHouse", .methodLinkNest RX0 161 yX9_holdsCall "ContactHouse", .methodLinkNest RX9 50 yX4_holdsCall "ContactHouse", .methodLinkNest RX0 131 yX7_withLogAt "ContactHouse", .methodLinkNest RX11 265 yX9_hasLog "ContactHouse", .methodLinkNest RX11 199 yX2_isPaired "ContactHouse", .methodLinkNest RX11 219 yX3_valueFor "ContactHouse", .methodLinkNest RX3 122 yX9_distanceTo "ContactHouse", .methodLinkNest RX11 229 yX8_totalOf "ContactHouse", .methodLinkNest RX8 25 yX7_at "ContactHouse", .methodLinkNest RX8 51 yX9_logOf "ContactHouse", .methodLinkNest RX8 58 yX4_contactAt "ContactHouse", .methodLinkNest RX8 70 yX3_valueFor "ContactHouse", .methodLinkNest RX8 88 yX9_contactsWithWhy "ContactHouse", .methodLinkNest RX9 57 yX4_contactAt "ContactHouse", .methodLinkNest RX11 232 yX9_spanOfContacts "ContactHouse", .methodLinkNest RX11 238 yX9_contactsWithWhy "ContactHouse", .methodLinkNest RX11 241 yX9_isRanked "ContactHouse"]
theorem tN_31 : (.methodLinkNest RX11 9 yX10_init "ContactHouse" : Cond) ∈ nestW := List.mem_of_getElem? (i := 0) rfl
theorem tN_36 : (.fieldLinkNest RX3 29 "ContactHouse$Tape" "size" "I" "ContactHouse" : Cond) ∈ nestW := List.mem_of_getElem? (i := 1) rfl
theorem tN_38 : (.fieldLinkNest RX5 46 "ContactHouse$Tape" "size" "I" "ContactHouse" : Cond) ∈ nestW := List.mem_of_getElem? (i := 2) rfl
theorem tN_39 : (.fieldLinkNest RX11 74 "ContactHouse$Tape" "size" "I" "ContactHouse" : Cond) ∈ nestW := List.mem_of_getElem? (i := 3) rfl
theorem tN_42 : (.fieldLinkNest RX3 51 "ContactHouse$Tape" "wordStart" "I" "ContactHouse" : Cond) ∈ nestW := List.mem_of_getElem? (i := 4) rfl
theorem tN_43 : (.fieldLinkNest RX5 59 "ContactHouse$Tape" "wordStart" "I" "ContactHouse" : Cond) ∈ nestW := List.mem_of_getElem? (i := 5) rfl
theorem tN_62 : (.methodLinkNest RX11 18 yX7_init "ContactHouse" : Cond) ∈ nestW := List.mem_of_getElem? (i := 6) rfl
theorem tN_70 : (.fieldLinkNest RX8 19 "ContactHouse$Roster" "size" "I" "ContactHouse" : Cond) ∈ nestW := List.mem_of_getElem? (i := 7) rfl
theorem tN_71 : (.fieldLinkNest RX0 39 "ContactHouse$Roster" "size" "I" "ContactHouse" : Cond) ∈ nestW := List.mem_of_getElem? (i := 8) rfl
theorem tN_72 : (.fieldLinkNest RX11 90 "ContactHouse$Roster" "size" "I" "ContactHouse" : Cond) ∈ nestW := List.mem_of_getElem? (i := 9) rfl
theorem tN_80 : (.methodLinkNest RX11 25 yX5_init "ContactHouse" : Cond) ∈ nestW := List.mem_of_getElem? (i := 10) rfl
theorem tN_86 : (.methodLinkNest RX5 11 yX2_init "ContactHouse" : Cond) ∈ nestW := List.mem_of_getElem? (i := 11) rfl
theorem tN_91 : (.fieldLinkNest RX4 30 "ContactHouse$Entry" "kind" "I" "ContactHouse" : Cond) ∈ nestW := List.mem_of_getElem? (i := 12) rfl
theorem tN_92 : (.fieldLinkNest RX5 79 "ContactHouse$Entry" "kind" "I" "ContactHouse" : Cond) ∈ nestW := List.mem_of_getElem? (i := 13) rfl
theorem tN_93 : (.fieldLinkNest RX11 159 "ContactHouse$Entry" "kind" "I" "ContactHouse" : Cond) ∈ nestW := List.mem_of_getElem? (i := 14) rfl
theorem tN_95 : (.fieldLinkNest RX6 112 "ContactHouse$Entry" "moment" "J" "ContactHouse" : Cond) ∈ nestW := List.mem_of_getElem? (i := 15) rfl
theorem tN_96 : (.fieldLinkNest RX9 42 "ContactHouse$Entry" "moment" "J" "ContactHouse" : Cond) ∈ nestW := List.mem_of_getElem? (i := 16) rfl
theorem tN_97 : (.fieldLinkNest RX5 113 "ContactHouse$Entry" "moment" "J" "ContactHouse" : Cond) ∈ nestW := List.mem_of_getElem? (i := 17) rfl
theorem tN_98 : (.fieldLinkNest RX1 89 "ContactHouse$Entry" "moment" "J" "ContactHouse" : Cond) ∈ nestW := List.mem_of_getElem? (i := 18) rfl
theorem tN_99 : (.fieldLinkNest RX0 124 "ContactHouse$Entry" "moment" "J" "ContactHouse" : Cond) ∈ nestW := List.mem_of_getElem? (i := 19) rfl
theorem tN_100 : (.fieldLinkNest RX11 170 "ContactHouse$Entry" "moment" "J" "ContactHouse" : Cond) ∈ nestW := List.mem_of_getElem? (i := 20) rfl
theorem tN_102 : (.fieldLinkNest RX5 118 "ContactHouse$Entry" "until" "J" "ContactHouse" : Cond) ∈ nestW := List.mem_of_getElem? (i := 21) rfl
theorem tN_103 : (.fieldLinkNest RX11 166 "ContactHouse$Entry" "until" "J" "ContactHouse" : Cond) ∈ nestW := List.mem_of_getElem? (i := 22) rfl
theorem tN_105 : (.fieldLinkNest RX0 80 "ContactHouse$Entry" "call" "J" "ContactHouse" : Cond) ∈ nestW := List.mem_of_getElem? (i := 23) rfl
theorem tN_106 : (.fieldLinkNest RX4 33 "ContactHouse$Entry" "call" "J" "ContactHouse" : Cond) ∈ nestW := List.mem_of_getElem? (i := 24) rfl
theorem tN_107 : (.fieldLinkNest RX5 105 "ContactHouse$Entry" "call" "J" "ContactHouse" : Cond) ∈ nestW := List.mem_of_getElem? (i := 25) rfl
theorem tN_108 : (.fieldLinkNest RX11 216 "ContactHouse$Entry" "call" "J" "ContactHouse" : Cond) ∈ nestW := List.mem_of_getElem? (i := 26) rfl
theorem tN_110 : (.fieldLinkNest RX5 92 "ContactHouse$Entry" "sent" "I" "ContactHouse" : Cond) ∈ nestW := List.mem_of_getElem? (i := 27) rfl
theorem tN_111 : (.fieldLinkNest RX6 101 "ContactHouse$Entry" "sent" "I" "ContactHouse" : Cond) ∈ nestW := List.mem_of_getElem? (i := 28) rfl
theorem tN_112 : (.fieldLinkNest RX11 184 "ContactHouse$Entry" "sent" "I" "ContactHouse" : Cond) ∈ nestW := List.mem_of_getElem? (i := 29) rfl
theorem tN_114 : (.fieldLinkNest RX5 95 "ContactHouse$Entry" "got" "I" "ContactHouse" : Cond) ∈ nestW := List.mem_of_getElem? (i := 30) rfl
theorem tN_115 : (.fieldLinkNest RX6 109 "ContactHouse$Entry" "got" "I" "ContactHouse" : Cond) ∈ nestW := List.mem_of_getElem? (i := 31) rfl
theorem tN_116 : (.fieldLinkNest RX11 187 "ContactHouse$Entry" "got" "I" "ContactHouse" : Cond) ∈ nestW := List.mem_of_getElem? (i := 32) rfl
theorem tN_117 : (.fieldLinkNest RX6 90 "ContactHouse$Entry" "target" "I" "ContactHouse" : Cond) ∈ nestW := List.mem_of_getElem? (i := 33) rfl
theorem tN_118 : (.fieldLinkNest RX0 89 "ContactHouse$Entry" "target" "I" "ContactHouse" : Cond) ∈ nestW := List.mem_of_getElem? (i := 34) rfl
theorem tN_119 : (.fieldLinkNest RX1 73 "ContactHouse$Entry" "target" "I" "ContactHouse" : Cond) ∈ nestW := List.mem_of_getElem? (i := 35) rfl
theorem tN_120 : (.fieldLinkNest RX8 67 "ContactHouse$Entry" "target" "I" "ContactHouse" : Cond) ∈ nestW := List.mem_of_getElem? (i := 36) rfl
theorem tN_121 : (.fieldLinkNest RX6 82 "ContactHouse$Entry" "mateStation" "I" "ContactHouse" : Cond) ∈ nestW := List.mem_of_getElem? (i := 37) rfl
theorem tN_123 : (.fieldLinkNest RX0 92 "ContactHouse$Entry" "mateStation" "I" "ContactHouse" : Cond) ∈ nestW := List.mem_of_getElem? (i := 38) rfl
theorem tN_124 : (.fieldLinkNest RX11 202 "ContactHouse$Entry" "mateStation" "I" "ContactHouse" : Cond) ∈ nestW := List.mem_of_getElem? (i := 39) rfl
theorem tN_125 : (.fieldLinkNest RX6 87 "ContactHouse$Entry" "mateLine" "I" "ContactHouse" : Cond) ∈ nestW := List.mem_of_getElem? (i := 40) rfl
theorem tN_126 : (.fieldLinkNest RX11 205 "ContactHouse$Entry" "mateLine" "I" "ContactHouse" : Cond) ∈ nestW := List.mem_of_getElem? (i := 41) rfl
theorem tN_127 : (.fieldLinkNest RX8 62 "ContactHouse$Entry" "why" "I" "ContactHouse" : Cond) ∈ nestW := List.mem_of_getElem? (i := 42) rfl
theorem tN_128 : (.fieldLinkNest RX0 118 "ContactHouse$Entry" "why" "I" "ContactHouse" : Cond) ∈ nestW := List.mem_of_getElem? (i := 43) rfl
theorem tN_129 : (.fieldLinkNest RX9 61 "ContactHouse$Entry" "why" "I" "ContactHouse" : Cond) ∈ nestW := List.mem_of_getElem? (i := 44) rfl
theorem tN_130 : (.fieldLinkNest RX11 210 "ContactHouse$Entry" "why" "I" "ContactHouse" : Cond) ∈ nestW := List.mem_of_getElem? (i := 45) rfl
theorem tN_131 : (.fieldLinkNest RX0 103 "ContactHouse$Entry" "meant" "I" "ContactHouse" : Cond) ∈ nestW := List.mem_of_getElem? (i := 46) rfl
theorem tN_132 : (.fieldLinkNest RX11 213 "ContactHouse$Entry" "meant" "I" "ContactHouse" : Cond) ∈ nestW := List.mem_of_getElem? (i := 47) rfl
theorem tN_158 : (.methodLinkNest RX5 26 yX4_init "ContactHouse" : Cond) ∈ nestW := List.mem_of_getElem? (i := 48) rfl
theorem tN_164 : (.methodLinkNest RX4 21 yX2_init "ContactHouse" : Cond) ∈ nestW := List.mem_of_getElem? (i := 49) rfl
theorem tN_167 : (.fieldLinkNest RX5 35 "ContactHouse$Log" "size" "I" "ContactHouse" : Cond) ∈ nestW := List.mem_of_getElem? (i := 50) rfl
theorem tN_168 : (.fieldLinkNest RX6 67 "ContactHouse$Log" "size" "I" "ContactHouse" : Cond) ∈ nestW := List.mem_of_getElem? (i := 51) rfl
theorem tN_169 : (.fieldLinkNest RX0 73 "ContactHouse$Log" "size" "I" "ContactHouse" : Cond) ∈ nestW := List.mem_of_getElem? (i := 52) rfl
theorem tN_170 : (.fieldLinkNest RX8 55 "ContactHouse$Log" "size" "I" "ContactHouse" : Cond) ∈ nestW := List.mem_of_getElem? (i := 53) rfl
theorem tN_171 : (.fieldLinkNest RX1 64 "ContactHouse$Log" "size" "I" "ContactHouse" : Cond) ∈ nestW := List.mem_of_getElem? (i := 54) rfl
theorem tN_172 : (.fieldLinkNest RX11 124 "ContactHouse$Log" "size" "I" "ContactHouse" : Cond) ∈ nestW := List.mem_of_getElem? (i := 55) rfl
theorem tN_173 : (.fieldLinkNest RX9 54 "ContactHouse$Log" "size" "I" "ContactHouse" : Cond) ∈ nestW := List.mem_of_getElem? (i := 56) rfl
theorem tN_175 : (.fieldLinkNest RX5 39 "ContactHouse$Log" "missing" "Z" "ContactHouse" : Cond) ∈ nestW := List.mem_of_getElem? (i := 57) rfl
theorem tN_176 : (.fieldLinkNest RX9 38 "ContactHouse$Log" "missing" "Z" "ContactHouse" : Cond) ∈ nestW := List.mem_of_getElem? (i := 58) rfl
theorem tN_177 : (.fieldLinkNest RX11 272 "ContactHouse$Log" "missing" "Z" "ContactHouse" : Cond) ∈ nestW := List.mem_of_getElem? (i := 59) rfl
theorem tN_188 : (.fieldLinkNest RX11 134 "ContactHouse$LogReader" "wrongLines" "[I" "ContactHouse" : Cond) ∈ nestW := List.mem_of_getElem? (i := 60) rfl
theorem tN_190 : (.fieldLinkNest RX11 127 "ContactHouse$LogReader" "wrongCount" "I" "ContactHouse" : Cond) ∈ nestW := List.mem_of_getElem? (i := 61) rfl
theorem tN_192 : (.fieldLinkNest RX11 120 "ContactHouse$LogReader" "draft" "LContactHouse$Log;" "ContactHouse" : Cond) ∈ nestW := List.mem_of_getElem? (i := 62) rfl
theorem tN_206 : (.methodLinkNest RX11 34 yX3_init "ContactHouse" : Cond) ∈ nestW := List.mem_of_getElem? (i := 63) rfl
theorem tN_235 : (.methodLinkNest RX11 41 yX0_init "ContactHouse" : Cond) ∈ nestW := List.mem_of_getElem? (i := 64) rfl
theorem tN_241 : (.methodLinkNest RX0 11 yX6_init "ContactHouse" : Cond) ∈ nestW := List.mem_of_getElem? (i := 65) rfl
theorem tN_275 : (.methodLinkNest RX0 28 yX1_init "ContactHouse" : Cond) ∈ nestW := List.mem_of_getElem? (i := 66) rfl
theorem tN_300 : (.fieldLinkNest RX11 91 "ContactHouse$Checker" "fresh" "Z" "ContactHouse" : Cond) ∈ nestW := List.mem_of_getElem? (i := 67) rfl
theorem tN_314 : (.methodLinkNest RX11 50 yX8_init "ContactHouse" : Cond) ∈ nestW := List.mem_of_getElem? (i := 68) rfl
theorem tN_321 : (.fieldLinkNest RX11 144 "ContactHouse$Scores" "penalty" "I" "ContactHouse" : Cond) ∈ nestW := List.mem_of_getElem? (i := 69) rfl
theorem tN_377 : (.methodLinkNest RX11 66 yX10_hasRoomFor "ContactHouse" : Cond) ∈ nestW := List.mem_of_getElem? (i := 70) rfl
theorem tN_381 : (.methodLinkNest RX11 70 yX10_add "ContactHouse" : Cond) ∈ nestW := List.mem_of_getElem? (i := 71) rfl
theorem tN_393 : (.methodLinkNest RX11 78 yX10_callBetween "ContactHouse" : Cond) ∈ nestW := List.mem_of_getElem? (i := 72) rfl
theorem tN_407 : (.methodLinkNest RX11 86 yX7_numberOf "ContactHouse" : Cond) ∈ nestW := List.mem_of_getElem? (i := 73) rfl
theorem tN_413 : (.methodLinkNest RX11 97 yX9_init "ContactHouse" : Cond) ∈ nestW := List.mem_of_getElem? (i := 74) rfl
theorem tN_419 : (.methodLinkNest RX9 37 yX4_init "ContactHouse" : Cond) ∈ nestW := List.mem_of_getElem? (i := 75) rfl
theorem tN_421 : (.fieldLinkNest RX8 40 "ContactHouse$Station" "kind" "I" "ContactHouse" : Cond) ∈ nestW := List.mem_of_getElem? (i := 76) rfl
theorem tN_422 : (.fieldLinkNest RX11 107 "ContactHouse$Station" "kind" "I" "ContactHouse" : Cond) ∈ nestW := List.mem_of_getElem? (i := 77) rfl
theorem tN_423 : (.fieldLinkNest RX3 116 "ContactHouse$Station" "kind" "I" "ContactHouse" : Cond) ∈ nestW := List.mem_of_getElem? (i := 78) rfl
theorem tN_425 : (.fieldLinkNest RX8 76 "ContactHouse$Station" "zone" "I" "ContactHouse" : Cond) ∈ nestW := List.mem_of_getElem? (i := 79) rfl
theorem tN_426 : (.fieldLinkNest RX3 120 "ContactHouse$Station" "zone" "I" "ContactHouse" : Cond) ∈ nestW := List.mem_of_getElem? (i := 80) rfl
theorem tN_430 : (.fieldLinkNest RX7 29 "ContactHouse$Station" "call" "J" "ContactHouse" : Cond) ∈ nestW := List.mem_of_getElem? (i := 81) rfl
theorem tN_431 : (.fieldLinkNest RX0 136 "ContactHouse$Station" "call" "J" "ContactHouse" : Cond) ∈ nestW := List.mem_of_getElem? (i := 82) rfl
theorem tN_434 : (.fieldLinkNest RX8 29 "ContactHouse$Station" "team" "I" "ContactHouse" : Cond) ∈ nestW := List.mem_of_getElem? (i := 83) rfl
theorem tN_435 : (.fieldLinkNest RX11 110 "ContactHouse$Station" "team" "I" "ContactHouse" : Cond) ∈ nestW := List.mem_of_getElem? (i := 84) rfl
theorem tN_436 : (.fieldLinkNest RX11 113 "ContactHouse$Station" "members" "I" "ContactHouse" : Cond) ∈ nestW := List.mem_of_getElem? (i := 85) rfl
theorem tN_437 : (.fieldLinkNest RX0 56 "ContactHouse$Station" "offset" "J" "ContactHouse" : Cond) ∈ nestW := List.mem_of_getElem? (i := 86) rfl
theorem tN_439 : (.fieldLinkNest RX11 196 "ContactHouse$Station" "offset" "J" "ContactHouse" : Cond) ∈ nestW := List.mem_of_getElem? (i := 87) rfl
theorem tN_459 : (.methodLinkNest RX11 100 yX7_add "ContactHouse" : Cond) ∈ nestW := List.mem_of_getElem? (i := 88) rfl
theorem tN_467 : (.methodLinkNest RX11 103 yX7_at "ContactHouse" : Cond) ∈ nestW := List.mem_of_getElem? (i := 89) rfl
theorem tN_475 : (.methodLinkNest RX11 116 yX5_readTape "ContactHouse" : Cond) ∈ nestW := List.mem_of_getElem? (i := 90) rfl
theorem tN_479 : (.methodLinkNest RX5 47 yX10_lineEnd "ContactHouse" : Cond) ∈ nestW := List.mem_of_getElem? (i := 91) rfl
theorem tN_483 : (.methodLinkNest RX5 51 yX10_startWords "ContactHouse" : Cond) ∈ nestW := List.mem_of_getElem? (i := 92) rfl
theorem tN_491 : (.methodLinkNest RX5 70 yX10_nextWord "ContactHouse" : Cond) ∈ nestW := List.mem_of_getElem? (i := 93) rfl
theorem tN_496 : (.methodLinkNest RX5 75 yX10_wordIs "ContactHouse" : Cond) ∈ nestW := List.mem_of_getElem? (i := 94) rfl
theorem tN_556 : (.methodLinkNest RX5 109 yX10_wordAsNumber "ContactHouse" : Cond) ∈ nestW := List.mem_of_getElem? (i := 95) rfl
theorem tN_563 : (.methodLinkNest RX5 101 yX10_wordAsCall "ContactHouse" : Cond) ∈ nestW := List.mem_of_getElem? (i := 96) rfl
theorem tN_578 : (.methodLinkNest RX5 66 yX4_add "ContactHouse" : Cond) ∈ nestW := List.mem_of_getElem? (i := 97) rfl
theorem tN_582 : (.methodLinkNest RX4 26 yX2_copyLine "ContactHouse" : Cond) ∈ nestW := List.mem_of_getElem? (i := 98) rfl
theorem tN_586 : (.methodLinkNest RX11 130 yX9_putLog "ContactHouse" : Cond) ∈ nestW := List.mem_of_getElem? (i := 99) rfl
theorem tN_599 : (.methodLinkNest RX11 137 yX3_read "ContactHouse" : Cond) ∈ nestW := List.mem_of_getElem? (i := 100) rfl
theorem tN_603 : (.methodLinkNest RX3 32 yX10_startWords "ContactHouse" : Cond) ∈ nestW := List.mem_of_getElem? (i := 101) rfl
theorem tN_604 : (.methodLinkNest RX3 39 yX10_nextWord "ContactHouse" : Cond) ∈ nestW := List.mem_of_getElem? (i := 102) rfl
theorem tN_608 : (.methodLinkNest RX3 58 yX10_wordAsNumber "ContactHouse" : Cond) ∈ nestW := List.mem_of_getElem? (i := 103) rfl
theorem tN_611 : (.methodLinkNest RX3 66 yX10_wordIs "ContactHouse" : Cond) ∈ nestW := List.mem_of_getElem? (i := 104) rfl
theorem tN_625 : (.methodLinkNest RX3 88 yX11_isBelow "ContactHouse" : Cond) ∈ nestW := List.mem_of_getElem? (i := 105) rfl
theorem tN_641 : (.methodLinkNest RX11 141 yX0_setWindow "ContactHouse" : Cond) ∈ nestW := List.mem_of_getElem? (i := 106) rfl
theorem tN_661 : (.methodLinkNest RX11 268 yX9_logOf "ContactHouse" : Cond) ∈ nestW := List.mem_of_getElem? (i := 107) rfl
theorem tN_677 : (.methodLinkNest RX11 275 yX4_at "ContactHouse" : Cond) ∈ nestW := List.mem_of_getElem? (i := 108) rfl
theorem tN_697 : (.methodLinkNest RX11 176 yX2_callLength "ContactHouse" : Cond) ∈ nestW := List.mem_of_getElem? (i := 109) rfl
theorem tN_701 : (.methodLinkNest RX11 180 yX2_callCharacter "ContactHouse" : Cond) ∈ nestW := List.mem_of_getElem? (i := 110) rfl
theorem tN_714 : (.methodLinkNest RX11 190 yX0_refresh "ContactHouse" : Cond) ∈ nestW := List.mem_of_getElem? (i := 111) rfl
theorem tN_722 : (.methodLinkNest RX0 48 yX7_at "ContactHouse" : Cond) ∈ nestW := List.mem_of_getElem? (i := 112) rfl
theorem tN_723 : (.methodLinkNest RX0 69 yX9_logOf "ContactHouse" : Cond) ∈ nestW := List.mem_of_getElem? (i := 113) rfl
theorem tN_724 : (.methodLinkNest RX0 76 yX4_contactAt "ContactHouse" : Cond) ∈ nestW := List.mem_of_getElem? (i := 114) rfl
theorem tN_728 : (.methodLinkNest RX0 85 yX7_numberOf "ContactHouse" : Cond) ∈ nestW := List.mem_of_getElem? (i := 115) rfl
theorem tN_729 : (.methodLinkNest RX0 52 yX1_offsetOf "ContactHouse" : Cond) ∈ nestW := List.mem_of_getElem? (i := 116) rfl
theorem tN_737 : (.methodLinkNest RX1 52 yX7_at "ContactHouse" : Cond) ∈ nestW := List.mem_of_getElem? (i := 117) rfl
theorem tN_738 : (.methodLinkNest RX1 58 yX9_logOf "ContactHouse" : Cond) ∈ nestW := List.mem_of_getElem? (i := 118) rfl
theorem tN_739 : (.methodLinkNest RX1 69 yX4_contactAt "ContactHouse" : Cond) ∈ nestW := List.mem_of_getElem? (i := 119) rfl
theorem tN_744 : (.methodLinkNest RX1 82 yX7_withLogAt "ContactHouse" : Cond) ∈ nestW := List.mem_of_getElem? (i := 120) rfl
theorem tN_749 : (.methodLinkNest RX7 25 yX9_hasLog "ContactHouse" : Cond) ∈ nestW := List.mem_of_getElem? (i := 121) rfl
theorem tN_753 : (.methodLinkNest RX1 85 yX2_answersTo "ContactHouse" : Cond) ∈ nestW := List.mem_of_getElem? (i := 122) rfl
theorem tN_770 : (.methodLinkNest RX0 62 yX6_pairUp "ContactHouse" : Cond) ∈ nestW := List.mem_of_getElem? (i := 123) rfl
theorem tN_774 : (.methodLinkNest RX6 33 yX7_at "ContactHouse" : Cond) ∈ nestW := List.mem_of_getElem? (i := 124) rfl
theorem tN_775 : (.methodLinkNest RX6 39 yX9_logOf "ContactHouse" : Cond) ∈ nestW := List.mem_of_getElem? (i := 125) rfl
theorem tN_779 : (.methodLinkNest RX6 74 yX4_contactAt "ContactHouse" : Cond) ∈ nestW := List.mem_of_getElem? (i := 126) rfl
theorem tN_780 : (.methodLinkNest RX6 93 yX2_isComplete "ContactHouse" : Cond) ∈ nestW := List.mem_of_getElem? (i := 127) rfl
theorem tN_798 : (.methodLinkNest RX6 116 yX2_answersTo "ContactHouse" : Cond) ∈ nestW := List.mem_of_getElem? (i := 128) rfl
theorem tN_799 : (.methodLinkNest RX6 120 yX9_putRight "ContactHouse" : Cond) ∈ nestW := List.mem_of_getElem? (i := 129) rfl
theorem tN_826 : (.methodLinkNest RX0 121 yX2_isComplete "ContactHouse" : Cond) ∈ nestW := List.mem_of_getElem? (i := 130) rfl
theorem tN_832 : (.methodLinkNest RX0 137 yX2_isMisheardFrom "ContactHouse" : Cond) ∈ nestW := List.mem_of_getElem? (i := 131) rfl
theorem tN_841 : (.methodLinkNest RX0 106 yX2_isPaired "ContactHouse" : Cond) ∈ nestW := List.mem_of_getElem? (i := 132) rfl
theorem tN_845 : (.methodLinkNest RX0 144 yX2_answersTo "ContactHouse" : Cond) ∈ nestW := List.mem_of_getElem? (i := 133) rfl
theorem tN_846 : (.methodLinkNest RX0 147 yX9_putRight "ContactHouse" : Cond) ∈ nestW := List.mem_of_getElem? (i := 134) rfl
theorem tN_862 : (.methodLinkNest RX0 161 yX9_holdsCall "ContactHouse" : Cond) ∈ nestW := List.mem_of_getElem? (i := 135) rfl
theorem tN_866 : (.methodLinkNest RX9 50 yX4_holdsCall "ContactHouse" : Cond) ∈ nestW := List.mem_of_getElem? (i := 136) rfl
theorem tN_870 : (.methodLinkNest RX0 131 yX7_withLogAt "ContactHouse" : Cond) ∈ nestW := List.mem_of_getElem? (i := 137) rfl
theorem tN_875 : (.methodLinkNest RX11 265 yX9_hasLog "ContactHouse" : Cond) ∈ nestW := List.mem_of_getElem? (i := 138) rfl
theorem tN_880 : (.methodLinkNest RX11 199 yX2_isPaired "ContactHouse" : Cond) ∈ nestW := List.mem_of_getElem? (i := 139) rfl
theorem tN_894 : (.methodLinkNest RX11 219 yX3_valueFor "ContactHouse" : Cond) ∈ nestW := List.mem_of_getElem? (i := 140) rfl
theorem tN_910 : (.methodLinkNest RX3 122 yX9_distanceTo "ContactHouse" : Cond) ∈ nestW := List.mem_of_getElem? (i := 141) rfl
theorem tN_927 : (.methodLinkNest RX11 229 yX8_totalOf "ContactHouse" : Cond) ∈ nestW := List.mem_of_getElem? (i := 142) rfl
theorem tN_931 : (.methodLinkNest RX8 25 yX7_at "ContactHouse" : Cond) ∈ nestW := List.mem_of_getElem? (i := 143) rfl
theorem tN_940 : (.methodLinkNest RX8 51 yX9_logOf "ContactHouse" : Cond) ∈ nestW := List.mem_of_getElem? (i := 144) rfl
theorem tN_941 : (.methodLinkNest RX8 58 yX4_contactAt "ContactHouse" : Cond) ∈ nestW := List.mem_of_getElem? (i := 145) rfl
theorem tN_942 : (.methodLinkNest RX8 70 yX3_valueFor "ContactHouse" : Cond) ∈ nestW := List.mem_of_getElem? (i := 146) rfl
theorem tN_950 : (.methodLinkNest RX8 88 yX9_contactsWithWhy "ContactHouse" : Cond) ∈ nestW := List.mem_of_getElem? (i := 147) rfl
theorem tN_954 : (.methodLinkNest RX9 57 yX4_contactAt "ContactHouse" : Cond) ∈ nestW := List.mem_of_getElem? (i := 148) rfl
theorem tN_962 : (.methodLinkNest RX11 232 yX9_spanOfContacts "ContactHouse" : Cond) ∈ nestW := List.mem_of_getElem? (i := 149) rfl
theorem tN_972 : (.methodLinkNest RX11 238 yX9_contactsWithWhy "ContactHouse" : Cond) ∈ nestW := List.mem_of_getElem? (i := 150) rfl
theorem tN_977 : (.methodLinkNest RX11 241 yX9_isRanked "ContactHouse" : Cond) ∈ nestW := List.mem_of_getElem? (i := 151) rfl
theorem nestW_in : ∀ w ∈ nestW, w ∈ lw_tbl := by
  intro w hw
  obtain ⟨i, hi⟩ := List.getElem?_of_mem hw
  have hl := (List.getElem?_eq_some_iff.mp hi).1
  match i, hi, hl with
  | 0, hi, _ => exact Option.some.inj hi ▸ List.mem_append_right _ (gq1 31 rfl)
  | 1, hi, _ => exact Option.some.inj hi ▸ List.mem_append_right _ (gq1 36 rfl)
  | 2, hi, _ => exact Option.some.inj hi ▸ List.mem_append_right _ (gq1 38 rfl)
  | 3, hi, _ => exact Option.some.inj hi ▸ List.mem_append_right _ (gq1 39 rfl)
  | 4, hi, _ => exact Option.some.inj hi ▸ List.mem_append_right _ (gq1 42 rfl)
  | 5, hi, _ => exact Option.some.inj hi ▸ List.mem_append_right _ (gq1 43 rfl)
  | 6, hi, _ => exact Option.some.inj hi ▸ List.mem_append_right _ (gq1 62 rfl)
  | 7, hi, _ => exact Option.some.inj hi ▸ List.mem_append_right _ (gq1 70 rfl)
  | 8, hi, _ => exact Option.some.inj hi ▸ List.mem_append_right _ (gq1 71 rfl)
  | 9, hi, _ => exact Option.some.inj hi ▸ List.mem_append_right _ (gq1 72 rfl)
  | 10, hi, _ => exact Option.some.inj hi ▸ List.mem_append_right _ (gq1 80 rfl)
  | 11, hi, _ => exact Option.some.inj hi ▸ List.mem_append_right _ (gq1 86 rfl)
  | 12, hi, _ => exact Option.some.inj hi ▸ List.mem_append_right _ (gq1 91 rfl)
  | 13, hi, _ => exact Option.some.inj hi ▸ List.mem_append_right _ (gq1 92 rfl)
  | 14, hi, _ => exact Option.some.inj hi ▸ List.mem_append_right _ (gq1 93 rfl)
  | 15, hi, _ => exact Option.some.inj hi ▸ List.mem_append_right _ (gq1 95 rfl)
  | 16, hi, _ => exact Option.some.inj hi ▸ List.mem_append_right _ (gq1 96 rfl)
  | 17, hi, _ => exact Option.some.inj hi ▸ List.mem_append_right _ (gq1 97 rfl)
  | 18, hi, _ => exact Option.some.inj hi ▸ List.mem_append_right _ (gq1 98 rfl)
  | 19, hi, _ => exact Option.some.inj hi ▸ List.mem_append_right _ (gq1 99 rfl)
  | 20, hi, _ => exact Option.some.inj hi ▸ List.mem_append_right _ (gq1 100 rfl)
  | 21, hi, _ => exact Option.some.inj hi ▸ List.mem_append_right _ (gq1 102 rfl)
  | 22, hi, _ => exact Option.some.inj hi ▸ List.mem_append_right _ (gq1 103 rfl)
  | 23, hi, _ => exact Option.some.inj hi ▸ List.mem_append_right _ (gq1 105 rfl)
  | 24, hi, _ => exact Option.some.inj hi ▸ List.mem_append_right _ (gq1 106 rfl)
  | 25, hi, _ => exact Option.some.inj hi ▸ List.mem_append_right _ (gq1 107 rfl)
  | 26, hi, _ => exact Option.some.inj hi ▸ List.mem_append_right _ (gq1 108 rfl)
  | 27, hi, _ => exact Option.some.inj hi ▸ List.mem_append_right _ (gq1 110 rfl)
  | 28, hi, _ => exact Option.some.inj hi ▸ List.mem_append_right _ (gq1 111 rfl)
  | 29, hi, _ => exact Option.some.inj hi ▸ List.mem_append_right _ (gq1 112 rfl)
  | 30, hi, _ => exact Option.some.inj hi ▸ List.mem_append_right _ (gq1 114 rfl)
  | 31, hi, _ => exact Option.some.inj hi ▸ List.mem_append_right _ (gq1 115 rfl)
  | 32, hi, _ => exact Option.some.inj hi ▸ List.mem_append_right _ (gq1 116 rfl)
  | 33, hi, _ => exact Option.some.inj hi ▸ List.mem_append_right _ (gq1 117 rfl)
  | 34, hi, _ => exact Option.some.inj hi ▸ List.mem_append_right _ (gq1 118 rfl)
  | 35, hi, _ => exact Option.some.inj hi ▸ List.mem_append_right _ (gq1 119 rfl)
  | 36, hi, _ => exact Option.some.inj hi ▸ List.mem_append_right _ (gq1 120 rfl)
  | 37, hi, _ => exact Option.some.inj hi ▸ List.mem_append_right _ (gq1 121 rfl)
  | 38, hi, _ => exact Option.some.inj hi ▸ List.mem_append_right _ (gq1 123 rfl)
  | 39, hi, _ => exact Option.some.inj hi ▸ List.mem_append_right _ (gq1 124 rfl)
  | 40, hi, _ => exact Option.some.inj hi ▸ List.mem_append_right _ (gq1 125 rfl)
  | 41, hi, _ => exact Option.some.inj hi ▸ List.mem_append_right _ (gq1 126 rfl)
  | 42, hi, _ => exact Option.some.inj hi ▸ List.mem_append_right _ (gq1 127 rfl)
  | 43, hi, _ => exact Option.some.inj hi ▸ List.mem_append_right _ (gq1 128 rfl)
  | 44, hi, _ => exact Option.some.inj hi ▸ List.mem_append_right _ (gq1 129 rfl)
  | 45, hi, _ => exact Option.some.inj hi ▸ List.mem_append_right _ (gq1 130 rfl)
  | 46, hi, _ => exact Option.some.inj hi ▸ List.mem_append_right _ (gq1 131 rfl)
  | 47, hi, _ => exact Option.some.inj hi ▸ List.mem_append_right _ (gq1 132 rfl)
  | 48, hi, _ => exact Option.some.inj hi ▸ List.mem_append_right _ (gq1 158 rfl)
  | 49, hi, _ => exact Option.some.inj hi ▸ List.mem_append_right _ (gq1 164 rfl)
  | 50, hi, _ => exact Option.some.inj hi ▸ List.mem_append_right _ (gq1 167 rfl)
  | 51, hi, _ => exact Option.some.inj hi ▸ List.mem_append_right _ (gq1 168 rfl)
  | 52, hi, _ => exact Option.some.inj hi ▸ List.mem_append_right _ (gq1 169 rfl)
  | 53, hi, _ => exact Option.some.inj hi ▸ List.mem_append_right _ (gq1 170 rfl)
  | 54, hi, _ => exact Option.some.inj hi ▸ List.mem_append_right _ (gq1 171 rfl)
  | 55, hi, _ => exact Option.some.inj hi ▸ List.mem_append_right _ (gq1 172 rfl)
  | 56, hi, _ => exact Option.some.inj hi ▸ List.mem_append_right _ (gq1 173 rfl)
  | 57, hi, _ => exact Option.some.inj hi ▸ List.mem_append_right _ (gq1 175 rfl)
  | 58, hi, _ => exact Option.some.inj hi ▸ List.mem_append_right _ (gq1 176 rfl)
  | 59, hi, _ => exact Option.some.inj hi ▸ List.mem_append_right _ (gq1 177 rfl)
  | 60, hi, _ => exact Option.some.inj hi ▸ List.mem_append_right _ (gq1 188 rfl)
  | 61, hi, _ => exact Option.some.inj hi ▸ List.mem_append_right _ (gq1 190 rfl)
  | 62, hi, _ => exact Option.some.inj hi ▸ List.mem_append_right _ (gq1 192 rfl)
  | 63, hi, _ => exact Option.some.inj hi ▸ List.mem_append_right _ (gq1 206 rfl)
  | 64, hi, _ => exact Option.some.inj hi ▸ List.mem_append_right _ (gq1 235 rfl)
  | 65, hi, _ => exact Option.some.inj hi ▸ List.mem_append_right _ (gq2 1 rfl)
  | 66, hi, _ => exact Option.some.inj hi ▸ List.mem_append_right _ (gq2 35 rfl)
  | 67, hi, _ => exact Option.some.inj hi ▸ List.mem_append_right _ (gq2 60 rfl)
  | 68, hi, _ => exact Option.some.inj hi ▸ List.mem_append_right _ (gq2 74 rfl)
  | 69, hi, _ => exact Option.some.inj hi ▸ List.mem_append_right _ (gq2 81 rfl)
  | 70, hi, _ => exact Option.some.inj hi ▸ List.mem_append_right _ (gq2 137 rfl)
  | 71, hi, _ => exact Option.some.inj hi ▸ List.mem_append_right _ (gq2 141 rfl)
  | 72, hi, _ => exact Option.some.inj hi ▸ List.mem_append_right _ (gq2 153 rfl)
  | 73, hi, _ => exact Option.some.inj hi ▸ List.mem_append_right _ (gq2 167 rfl)
  | 74, hi, _ => exact Option.some.inj hi ▸ List.mem_append_right _ (gq2 173 rfl)
  | 75, hi, _ => exact Option.some.inj hi ▸ List.mem_append_right _ (gq2 179 rfl)
  | 76, hi, _ => exact Option.some.inj hi ▸ List.mem_append_right _ (gq2 181 rfl)
  | 77, hi, _ => exact Option.some.inj hi ▸ List.mem_append_right _ (gq2 182 rfl)
  | 78, hi, _ => exact Option.some.inj hi ▸ List.mem_append_right _ (gq2 183 rfl)
  | 79, hi, _ => exact Option.some.inj hi ▸ List.mem_append_right _ (gq2 185 rfl)
  | 80, hi, _ => exact Option.some.inj hi ▸ List.mem_append_right _ (gq2 186 rfl)
  | 81, hi, _ => exact Option.some.inj hi ▸ List.mem_append_right _ (gq2 190 rfl)
  | 82, hi, _ => exact Option.some.inj hi ▸ List.mem_append_right _ (gq2 191 rfl)
  | 83, hi, _ => exact Option.some.inj hi ▸ List.mem_append_right _ (gq2 194 rfl)
  | 84, hi, _ => exact Option.some.inj hi ▸ List.mem_append_right _ (gq2 195 rfl)
  | 85, hi, _ => exact Option.some.inj hi ▸ List.mem_append_right _ (gq2 196 rfl)
  | 86, hi, _ => exact Option.some.inj hi ▸ List.mem_append_right _ (gq2 197 rfl)
  | 87, hi, _ => exact Option.some.inj hi ▸ List.mem_append_right _ (gq2 199 rfl)
  | 88, hi, _ => exact Option.some.inj hi ▸ List.mem_append_right _ (gq2 219 rfl)
  | 89, hi, _ => exact Option.some.inj hi ▸ List.mem_append_right _ (gq2 227 rfl)
  | 90, hi, _ => exact Option.some.inj hi ▸ List.mem_append_right _ (gq2 235 rfl)
  | 91, hi, _ => exact Option.some.inj hi ▸ List.mem_append_right _ (gq2 239 rfl)
  | 92, hi, _ => exact Option.some.inj hi ▸ List.mem_append_right _ (gq3 3 rfl)
  | 93, hi, _ => exact Option.some.inj hi ▸ List.mem_append_right _ (gq3 11 rfl)
  | 94, hi, _ => exact Option.some.inj hi ▸ List.mem_append_right _ (gq3 16 rfl)
  | 95, hi, _ => exact Option.some.inj hi ▸ List.mem_append_right _ (gq3 76 rfl)
  | 96, hi, _ => exact Option.some.inj hi ▸ List.mem_append_right _ (gq3 83 rfl)
  | 97, hi, _ => exact Option.some.inj hi ▸ List.mem_append_right _ (gq3 98 rfl)
  | 98, hi, _ => exact Option.some.inj hi ▸ List.mem_append_right _ (gq3 102 rfl)
  | 99, hi, _ => exact Option.some.inj hi ▸ List.mem_append_right _ (gq3 106 rfl)
  | 100, hi, _ => exact Option.some.inj hi ▸ List.mem_append_right _ (gq3 119 rfl)
  | 101, hi, _ => exact Option.some.inj hi ▸ List.mem_append_right _ (gq3 123 rfl)
  | 102, hi, _ => exact Option.some.inj hi ▸ List.mem_append_right _ (gq3 124 rfl)
  | 103, hi, _ => exact Option.some.inj hi ▸ List.mem_append_right _ (gq3 128 rfl)
  | 104, hi, _ => exact Option.some.inj hi ▸ List.mem_append_right _ (gq3 131 rfl)
  | 105, hi, _ => exact Option.some.inj hi ▸ List.mem_append_right _ (gq3 145 rfl)
  | 106, hi, _ => exact Option.some.inj hi ▸ List.mem_append_right _ (gq3 161 rfl)
  | 107, hi, _ => exact Option.some.inj hi ▸ List.mem_append_right _ (gq3 181 rfl)
  | 108, hi, _ => exact Option.some.inj hi ▸ List.mem_append_right _ (gq3 197 rfl)
  | 109, hi, _ => exact Option.some.inj hi ▸ List.mem_append_right _ (gq3 217 rfl)
  | 110, hi, _ => exact Option.some.inj hi ▸ List.mem_append_right _ (gq3 221 rfl)
  | 111, hi, _ => exact Option.some.inj hi ▸ List.mem_append_right _ (gq3 234 rfl)
  | 112, hi, _ => exact Option.some.inj hi ▸ List.mem_append_right _ (gq4 2 rfl)
  | 113, hi, _ => exact Option.some.inj hi ▸ List.mem_append_right _ (gq4 3 rfl)
  | 114, hi, _ => exact Option.some.inj hi ▸ List.mem_append_right _ (gq4 4 rfl)
  | 115, hi, _ => exact Option.some.inj hi ▸ List.mem_append_right _ (gq4 8 rfl)
  | 116, hi, _ => exact Option.some.inj hi ▸ List.mem_append_right _ (gq4 9 rfl)
  | 117, hi, _ => exact Option.some.inj hi ▸ List.mem_append_right _ (gq4 17 rfl)
  | 118, hi, _ => exact Option.some.inj hi ▸ List.mem_append_right _ (gq4 18 rfl)
  | 119, hi, _ => exact Option.some.inj hi ▸ List.mem_append_right _ (gq4 19 rfl)
  | 120, hi, _ => exact Option.some.inj hi ▸ List.mem_append_right _ (gq4 24 rfl)
  | 121, hi, _ => exact Option.some.inj hi ▸ List.mem_append_right _ (gq4 29 rfl)
  | 122, hi, _ => exact Option.some.inj hi ▸ List.mem_append_right _ (gq4 33 rfl)
  | 123, hi, _ => exact Option.some.inj hi ▸ List.mem_append_right _ (gq4 50 rfl)
  | 124, hi, _ => exact Option.some.inj hi ▸ List.mem_append_right _ (gq4 54 rfl)
  | 125, hi, _ => exact Option.some.inj hi ▸ List.mem_append_right _ (gq4 55 rfl)
  | 126, hi, _ => exact Option.some.inj hi ▸ List.mem_append_right _ (gq4 59 rfl)
  | 127, hi, _ => exact Option.some.inj hi ▸ List.mem_append_right _ (gq4 60 rfl)
  | 128, hi, _ => exact Option.some.inj hi ▸ List.mem_append_right _ (gq4 78 rfl)
  | 129, hi, _ => exact Option.some.inj hi ▸ List.mem_append_right _ (gq4 79 rfl)
  | 130, hi, _ => exact Option.some.inj hi ▸ List.mem_append_right _ (gq4 106 rfl)
  | 131, hi, _ => exact Option.some.inj hi ▸ List.mem_append_right _ (gq4 112 rfl)
  | 132, hi, _ => exact Option.some.inj hi ▸ List.mem_append_right _ (gq4 121 rfl)
  | 133, hi, _ => exact Option.some.inj hi ▸ List.mem_append_right _ (gq4 125 rfl)
  | 134, hi, _ => exact Option.some.inj hi ▸ List.mem_append_right _ (gq4 126 rfl)
  | 135, hi, _ => exact Option.some.inj hi ▸ List.mem_append_right _ (gq4 142 rfl)
  | 136, hi, _ => exact Option.some.inj hi ▸ List.mem_append_right _ (gq4 146 rfl)
  | 137, hi, _ => exact Option.some.inj hi ▸ List.mem_append_right _ (gq4 150 rfl)
  | 138, hi, _ => exact Option.some.inj hi ▸ List.mem_append_right _ (gq4 155 rfl)
  | 139, hi, _ => exact Option.some.inj hi ▸ List.mem_append_right _ (gq4 160 rfl)
  | 140, hi, _ => exact Option.some.inj hi ▸ List.mem_append_right _ (gq4 174 rfl)
  | 141, hi, _ => exact Option.some.inj hi ▸ List.mem_append_right _ (gq4 190 rfl)
  | 142, hi, _ => exact Option.some.inj hi ▸ List.mem_append_right _ (gq4 207 rfl)
  | 143, hi, _ => exact Option.some.inj hi ▸ List.mem_append_right _ (gq4 211 rfl)
  | 144, hi, _ => exact Option.some.inj hi ▸ List.mem_append_right _ (gq4 220 rfl)
  | 145, hi, _ => exact Option.some.inj hi ▸ List.mem_append_right _ (gq4 221 rfl)
  | 146, hi, _ => exact Option.some.inj hi ▸ List.mem_append_right _ (gq4 222 rfl)
  | 147, hi, _ => exact Option.some.inj hi ▸ List.mem_append_right _ (gq4 230 rfl)
  | 148, hi, _ => exact Option.some.inj hi ▸ List.mem_append_right _ (gq4 234 rfl)
  | 149, hi, _ => exact Option.some.inj hi ▸ List.mem_append_right _ (gq5 2 rfl)
  | 150, hi, _ => exact Option.some.inj hi ▸ List.mem_append_right _ (gq5 12 rfl)
  | 151, hi, _ => exact Option.some.inj hi ▸ List.mem_append_right _ (gq5 17 rfl)
  | i + 152, _, hl => exact absurd hl (by simp [nestW])
