/-! the words of the tables that the methods need: by program (gen.py) -/
theorem lwG_1 {w : Cond} (i : Nat) (h : tables_1_1[i]? = some w) (g : goodWord w = true) : w ∈ lwG := List.mem_filter.mpr ⟨List.mem_append_right _ (show w ∈ tables_1 from (by have h := List.mem_of_getElem? h; exact List.mem_append_left _ h)), g⟩
theorem lwG_2 {w : Cond} (i : Nat) (h : tables_1_2[i]? = some w) (g : goodWord w = true) : w ∈ lwG := List.mem_filter.mpr ⟨List.mem_append_right _ (show w ∈ tables_1 from (by have h := List.mem_of_getElem? h; exact List.mem_append_right _ (List.mem_append_left _ h))), g⟩
theorem lwG_3 {w : Cond} (i : Nat) (h : tables_1_3[i]? = some w) (g : goodWord w = true) : w ∈ lwG := List.mem_filter.mpr ⟨List.mem_append_right _ (show w ∈ tables_1 from (by have h := List.mem_of_getElem? h; exact List.mem_append_right _ (List.mem_append_right _ (List.mem_append_left _ h)))), g⟩
theorem lwG_4 {w : Cond} (i : Nat) (h : tables_1_4[i]? = some w) (g : goodWord w = true) : w ∈ lwG := List.mem_filter.mpr ⟨List.mem_append_right _ (show w ∈ tables_1 from (by have h := List.mem_of_getElem? h; exact List.mem_append_right _ (List.mem_append_right _ (List.mem_append_right _ (List.mem_append_left _ h))))), g⟩
theorem lwG_5 {w : Cond} (i : Nat) (h : tables_1_5[i]? = some w) (g : goodWord w = true) : w ∈ lwG := List.mem_filter.mpr ⟨List.mem_append_right _ (show w ∈ tables_1 from (by have h := List.mem_of_getElem? h; exact List.mem_append_right _ (List.mem_append_right _ (List.mem_append_right _ (List.mem_append_right _ (h)))))), g⟩
theorem lwG_s {w : Cond} (i : Nat) (h : (k2_sels lw_privs)[i]? = some w) (g : goodWord w = true) : w ∈ lwG := List.mem_filter.mpr ⟨List.mem_append_left _ (List.mem_of_getElem? h), g⟩
def WM (k : Nat) : Prop := Cond.code (mi k).1 (mi k).2.1 (mi k).2.2.1 (mi k).2.2.2.1 ∈ lwG ∧ Cond.initialized (mi k).1.cls ∈ lwG ∧
  (match (mi k).2.2.2.2.2.2 with
    | 1 => Cond.static (mi k).1 ∈ lwG
    | _ => Cond.instanceMethod (mi k).1 ∈ lwG ∧ Cond.selects (mi k).1.cls (mi k).1 (mi k).1 ∈ lwG)
theorem wm_0 : WM 0 := ⟨lwG_4 59 rfl rfl, lwG_1 9 rfl rfl, ⟨lwG_4 57 rfl rfl, lwG_4 58 rfl rfl⟩⟩
theorem wm_1 : WM 1 := ⟨lwG_4 63 rfl rfl, lwG_1 9 rfl rfl, ⟨lwG_4 61 rfl rfl, lwG_4 62 rfl rfl⟩⟩
theorem wm_2 : WM 2 := ⟨lwG_4 55 rfl rfl, lwG_1 8 rfl rfl, ⟨lwG_4 53 rfl rfl, lwG_4 54 rfl rfl⟩⟩
theorem wm_3 : WM 3 := ⟨lwG_4 2 rfl rfl, lwG_1 8 rfl rfl, ⟨lwG_4 0 rfl rfl, lwG_4 1 rfl rfl⟩⟩
theorem wm_4 : WM 4 := ⟨lwG_4 6 rfl rfl, lwG_1 8 rfl rfl, ⟨lwG_4 5 rfl rfl, lwG_s 21 rfl rfl⟩⟩
theorem wm_5 : WM 5 := ⟨lwG_2 135 rfl rfl, lwG_1 2 rfl rfl, ⟨lwG_2 133 rfl rfl, lwG_2 134 rfl rfl⟩⟩
theorem wm_6 : WM 6 := ⟨lwG_4 19 rfl rfl, lwG_1 2 rfl rfl, ⟨lwG_4 17 rfl rfl, lwG_4 18 rfl rfl⟩⟩
theorem wm_7 : WM 7 := ⟨lwG_2 212 rfl rfl, lwG_1 2 rfl rfl, ⟨lwG_2 210 rfl rfl, lwG_2 211 rfl rfl⟩⟩
theorem wm_8 : WM 8 := ⟨lwG_4 189 rfl rfl, lwG_1 2 rfl rfl, ⟨lwG_4 187 rfl rfl, lwG_4 188 rfl rfl⟩⟩
theorem wm_9 : WM 9 := ⟨lwG_2 152 rfl rfl, lwG_1 2 rfl rfl, ⟨lwG_2 150 rfl rfl, lwG_2 151 rfl rfl⟩⟩
theorem wm_10 : WM 10 := ⟨lwG_2 155 rfl rfl, lwG_1 2 rfl rfl, lwG_2 154 rfl rfl⟩
theorem wm_11 : WM 11 := ⟨lwG_2 165 rfl rfl, lwG_1 2 rfl rfl, ⟨lwG_2 164 rfl rfl, lwG_s 2 rfl rfl⟩⟩
theorem wm_12 : WM 12 := ⟨lwG_2 169 rfl rfl, lwG_1 2 rfl rfl, ⟨lwG_2 168 rfl rfl, lwG_s 3 rfl rfl⟩⟩
theorem wm_13 : WM 13 := ⟨lwG_2 173 rfl rfl, lwG_1 2 rfl rfl, ⟨lwG_2 172 rfl rfl, lwG_s 4 rfl rfl⟩⟩
theorem wm_14 : WM 14 := ⟨lwG_2 177 rfl rfl, lwG_1 2 rfl rfl, ⟨lwG_2 176 rfl rfl, lwG_s 5 rfl rfl⟩⟩
theorem wm_15 : WM 15 := ⟨lwG_2 180 rfl rfl, lwG_1 2 rfl rfl, lwG_2 179 rfl rfl⟩
theorem wm_16 : WM 16 := ⟨lwG_4 43 rfl rfl, lwG_1 3 rfl rfl, ⟨lwG_4 41 rfl rfl, lwG_4 42 rfl rfl⟩⟩
theorem wm_17 : WM 17 := ⟨lwG_4 193 rfl rfl, lwG_1 3 rfl rfl, ⟨lwG_4 191 rfl rfl, lwG_4 192 rfl rfl⟩⟩
theorem wm_18 : WM 18 := ⟨lwG_4 197 rfl rfl, lwG_1 3 rfl rfl, ⟨lwG_4 195 rfl rfl, lwG_4 196 rfl rfl⟩⟩
theorem wm_19 : WM 19 := ⟨lwG_4 39 rfl rfl, lwG_1 3 rfl rfl, ⟨lwG_4 37 rfl rfl, lwG_4 38 rfl rfl⟩⟩
theorem wm_20 : WM 20 := ⟨lwG_4 201 rfl rfl, lwG_1 3 rfl rfl, ⟨lwG_4 199 rfl rfl, lwG_4 200 rfl rfl⟩⟩
theorem wm_21 : WM 21 := ⟨lwG_4 71 rfl rfl, lwG_1 3 rfl rfl, ⟨lwG_4 69 rfl rfl, lwG_4 70 rfl rfl⟩⟩
theorem wm_22 : WM 22 := ⟨lwG_4 75 rfl rfl, lwG_1 3 rfl rfl, ⟨lwG_4 74 rfl rfl, lwG_s 23 rfl rfl⟩⟩
theorem wm_23 : WM 23 := ⟨lwG_4 79 rfl rfl, lwG_1 3 rfl rfl, ⟨lwG_4 78 rfl rfl, lwG_s 24 rfl rfl⟩⟩
theorem wm_24 : WM 24 := ⟨lwG_4 83 rfl rfl, lwG_1 3 rfl rfl, ⟨lwG_4 82 rfl rfl, lwG_s 25 rfl rfl⟩⟩
theorem wm_25 : WM 25 := ⟨lwG_4 182 rfl rfl, lwG_1 3 rfl rfl, ⟨lwG_4 181 rfl rfl, lwG_s 29 rfl rfl⟩⟩
theorem wm_26 : WM 26 := ⟨lwG_4 91 rfl rfl, lwG_1 3 rfl rfl, ⟨lwG_4 90 rfl rfl, lwG_s 27 rfl rfl⟩⟩
theorem wm_27 : WM 27 := ⟨lwG_4 87 rfl rfl, lwG_1 3 rfl rfl, ⟨lwG_4 86 rfl rfl, lwG_s 26 rfl rfl⟩⟩
theorem wm_28 : WM 28 := ⟨lwG_4 95 rfl rfl, lwG_1 3 rfl rfl, ⟨lwG_4 94 rfl rfl, lwG_s 28 rfl rfl⟩⟩
theorem wm_29 : WM 29 := ⟨lwG_4 185 rfl rfl, lwG_1 3 rfl rfl, lwG_4 184 rfl rfl⟩
theorem wm_30 : WM 30 := ⟨lwG_2 193 rfl rfl, lwG_1 5 rfl rfl, ⟨lwG_2 191 rfl rfl, lwG_2 192 rfl rfl⟩⟩
theorem wm_31 : WM 31 := ⟨lwG_2 198 rfl rfl, lwG_1 5 rfl rfl, ⟨lwG_2 196 rfl rfl, lwG_2 197 rfl rfl⟩⟩
theorem wm_32 : WM 32 := ⟨lwG_2 201 rfl rfl, lwG_1 5 rfl rfl, lwG_2 200 rfl rfl⟩
theorem wm_33 : WM 33 := ⟨lwG_2 206 rfl rfl, lwG_1 5 rfl rfl, lwG_2 205 rfl rfl⟩
theorem wm_34 : WM 34 := ⟨lwG_2 216 rfl rfl, lwG_1 5 rfl rfl, ⟨lwG_2 214 rfl rfl, lwG_2 215 rfl rfl⟩⟩
theorem wm_35 : WM 35 := ⟨lwG_3 52 rfl rfl, lwG_1 7 rfl rfl, ⟨lwG_3 50 rfl rfl, lwG_3 51 rfl rfl⟩⟩
theorem wm_36 : WM 36 := ⟨lwG_3 62 rfl rfl, lwG_1 7 rfl rfl, ⟨lwG_3 60 rfl rfl, lwG_3 61 rfl rfl⟩⟩
theorem wm_37 : WM 37 := ⟨lwG_3 99 rfl rfl, lwG_1 7 rfl rfl, ⟨lwG_3 97 rfl rfl, lwG_3 98 rfl rfl⟩⟩
theorem wm_38 : WM 38 := ⟨lwG_3 75 rfl rfl, lwG_1 7 rfl rfl, ⟨lwG_3 74 rfl rfl, lwG_s 11 rfl rfl⟩⟩
theorem wm_39 : WM 39 := ⟨lwG_3 79 rfl rfl, lwG_1 7 rfl rfl, ⟨lwG_3 78 rfl rfl, lwG_s 12 rfl rfl⟩⟩
theorem wm_40 : WM 40 := ⟨lwG_3 89 rfl rfl, lwG_1 7 rfl rfl, ⟨lwG_3 88 rfl rfl, lwG_s 14 rfl rfl⟩⟩
theorem wm_41 : WM 41 := ⟨lwG_3 66 rfl rfl, lwG_1 7 rfl rfl, ⟨lwG_3 64 rfl rfl, lwG_3 65 rfl rfl⟩⟩
theorem wm_42 : WM 42 := ⟨lwG_3 70 rfl rfl, lwG_1 7 rfl rfl, ⟨lwG_3 69 rfl rfl, lwG_s 10 rfl rfl⟩⟩
theorem wm_43 : WM 43 := ⟨lwG_3 85 rfl rfl, lwG_1 7 rfl rfl, ⟨lwG_3 84 rfl rfl, lwG_s 13 rfl rfl⟩⟩
theorem wm_44 : WM 44 := ⟨lwG_3 93 rfl rfl, lwG_1 7 rfl rfl, ⟨lwG_3 92 rfl rfl, lwG_s 15 rfl rfl⟩⟩
theorem wm_45 : WM 45 := ⟨lwG_3 107 rfl rfl, lwG_1 7 rfl rfl, ⟨lwG_3 105 rfl rfl, lwG_3 106 rfl rfl⟩⟩
theorem wm_46 : WM 46 := ⟨lwG_3 111 rfl rfl, lwG_1 7 rfl rfl, ⟨lwG_3 110 rfl rfl, lwG_s 16 rfl rfl⟩⟩
theorem wm_47 : WM 47 := ⟨lwG_3 115 rfl rfl, lwG_1 7 rfl rfl, ⟨lwG_3 114 rfl rfl, lwG_s 17 rfl rfl⟩⟩
theorem wm_48 : WM 48 := ⟨lwG_3 126 rfl rfl, lwG_1 7 rfl rfl, ⟨lwG_3 125 rfl rfl, lwG_s 18 rfl rfl⟩⟩
theorem wm_49 : WM 49 := ⟨lwG_3 134 rfl rfl, lwG_1 7 rfl rfl, ⟨lwG_3 132 rfl rfl, lwG_3 133 rfl rfl⟩⟩
theorem wm_50 : WM 50 := ⟨lwG_3 138 rfl rfl, lwG_1 7 rfl rfl, ⟨lwG_3 137 rfl rfl, lwG_s 19 rfl rfl⟩⟩
theorem wm_51 : WM 51 := ⟨lwG_3 158 rfl rfl, lwG_1 7 rfl rfl, ⟨lwG_3 156 rfl rfl, lwG_3 157 rfl rfl⟩⟩
theorem wm_52 : WM 52 := ⟨lwG_3 162 rfl rfl, lwG_1 7 rfl rfl, ⟨lwG_3 161 rfl rfl, lwG_s 20 rfl rfl⟩⟩
theorem wm_53 : WM 53 := ⟨lwG_3 11 rfl rfl, lwG_1 10 rfl rfl, ⟨lwG_3 9 rfl rfl, lwG_3 10 rfl rfl⟩⟩
theorem wm_54 : WM 54 := ⟨lwG_4 216 rfl rfl, lwG_1 10 rfl rfl, ⟨lwG_4 214 rfl rfl, lwG_4 215 rfl rfl⟩⟩
theorem wm_55 : WM 55 := ⟨lwG_2 232 rfl rfl, lwG_1 10 rfl rfl, ⟨lwG_2 230 rfl rfl, lwG_2 231 rfl rfl⟩⟩
theorem wm_56 : WM 56 := ⟨lwG_4 227 rfl rfl, lwG_1 10 rfl rfl, ⟨lwG_4 225 rfl rfl, lwG_4 226 rfl rfl⟩⟩
theorem wm_57 : WM 57 := ⟨lwG_3 15 rfl rfl, lwG_1 10 rfl rfl, ⟨lwG_3 13 rfl rfl, lwG_3 14 rfl rfl⟩⟩
theorem wm_58 : WM 58 := ⟨lwG_4 231 rfl rfl, lwG_1 10 rfl rfl, ⟨lwG_4 229 rfl rfl, lwG_4 230 rfl rfl⟩⟩
theorem wm_59 : WM 59 := ⟨lwG_4 235 rfl rfl, lwG_1 10 rfl rfl, ⟨lwG_4 234 rfl rfl, lwG_s 30 rfl rfl⟩⟩
theorem wm_60 : WM 60 := ⟨lwG_3 0 rfl rfl, lwG_1 6 rfl rfl, ⟨lwG_2 239 rfl rfl, lwG_s 7 rfl rfl⟩⟩
theorem wm_61 : WM 61 := ⟨lwG_2 236 rfl rfl, lwG_1 6 rfl rfl, ⟨lwG_2 234 rfl rfl, lwG_2 235 rfl rfl⟩⟩
theorem wm_62 : WM 62 := ⟨lwG_3 22 rfl rfl, lwG_1 6 rfl rfl, ⟨lwG_3 21 rfl rfl, lwG_s 8 rfl rfl⟩⟩
theorem wm_63 : WM 63 := ⟨lwG_3 27 rfl rfl, lwG_1 6 rfl rfl, ⟨lwG_3 26 rfl rfl, lwG_s 9 rfl rfl⟩⟩
theorem wm_64 : WM 64 := ⟨lwG_3 4 rfl rfl, lwG_1 4 rfl rfl, ⟨lwG_3 2 rfl rfl, lwG_3 3 rfl rfl⟩⟩
theorem wm_65 : WM 65 := ⟨lwG_2 97 rfl rfl, lwG_1 4 rfl rfl, ⟨lwG_2 95 rfl rfl, lwG_2 96 rfl rfl⟩⟩
theorem wm_66 : WM 66 := ⟨lwG_2 108 rfl rfl, lwG_1 4 rfl rfl, ⟨lwG_2 106 rfl rfl, lwG_2 107 rfl rfl⟩⟩
theorem wm_67 : WM 67 := ⟨lwG_2 126 rfl rfl, lwG_1 4 rfl rfl, ⟨lwG_2 124 rfl rfl, lwG_2 125 rfl rfl⟩⟩
theorem wm_68 : WM 68 := ⟨lwG_2 130 rfl rfl, lwG_1 4 rfl rfl, ⟨lwG_2 128 rfl rfl, lwG_2 129 rfl rfl⟩⟩
theorem wm_69 : WM 69 := ⟨lwG_3 238 rfl rfl, lwG_1 4 rfl rfl, ⟨lwG_3 236 rfl rfl, lwG_3 237 rfl rfl⟩⟩
theorem wm_70 : WM 70 := ⟨lwG_4 51 rfl rfl, lwG_1 4 rfl rfl, ⟨lwG_4 49 rfl rfl, lwG_4 50 rfl rfl⟩⟩
theorem wm_71 : WM 71 := ⟨lwG_2 117 rfl rfl, lwG_1 4 rfl rfl, ⟨lwG_2 115 rfl rfl, lwG_2 116 rfl rfl⟩⟩
theorem wm_72 : WM 72 := ⟨lwG_3 32 rfl rfl, lwG_1 4 rfl rfl, ⟨lwG_3 30 rfl rfl, lwG_3 31 rfl rfl⟩⟩
theorem wm_73 : WM 73 := ⟨lwG_4 14 rfl rfl, lwG_1 4 rfl rfl, ⟨lwG_4 12 rfl rfl, lwG_4 13 rfl rfl⟩⟩
theorem wm_74 : WM 74 := ⟨lwG_3 199 rfl rfl, lwG_1 4 rfl rfl, ⟨lwG_3 197 rfl rfl, lwG_3 198 rfl rfl⟩⟩
theorem wm_75 : WM 75 := ⟨lwG_3 178 rfl rfl, lwG_1 4 rfl rfl, ⟨lwG_3 176 rfl rfl, lwG_3 177 rfl rfl⟩⟩
theorem wm_76 : WM 76 := ⟨lwG_2 147 rfl rfl, lwG_1 4 rfl rfl, ⟨lwG_2 145 rfl rfl, lwG_2 146 rfl rfl⟩⟩
theorem wm_77 : WM 77 := ⟨lwG_2 189 rfl rfl, lwG_1 4 rfl rfl, ⟨lwG_2 187 rfl rfl, lwG_2 188 rfl rfl⟩⟩
theorem wm_78 : WM 78 := ⟨lwG_3 217 rfl rfl, lwG_1 1 rfl rfl, ⟨lwG_3 215 rfl rfl, lwG_3 216 rfl rfl⟩⟩
theorem wm_79 : WM 79 := ⟨lwG_2 93 rfl rfl, lwG_1 1 rfl rfl, ⟨lwG_2 91 rfl rfl, lwG_2 92 rfl rfl⟩⟩
theorem wm_80 : WM 80 := ⟨lwG_3 227 rfl rfl, lwG_1 1 rfl rfl, ⟨lwG_3 225 rfl rfl, lwG_3 226 rfl rfl⟩⟩
theorem wm_81 : WM 81 := ⟨lwG_2 122 rfl rfl, lwG_1 1 rfl rfl, ⟨lwG_2 120 rfl rfl, lwG_2 121 rfl rfl⟩⟩
theorem wm_82 : WM 82 := ⟨lwG_4 35 rfl rfl, lwG_1 1 rfl rfl, ⟨lwG_4 33 rfl rfl, lwG_4 34 rfl rfl⟩⟩
theorem wm_83 : WM 83 := ⟨lwG_4 67 rfl rfl, lwG_1 1 rfl rfl, ⟨lwG_4 65 rfl rfl, lwG_4 66 rfl rfl⟩⟩
theorem wm_84 : WM 84 := ⟨lwG_2 139 rfl rfl, lwG_1 1 rfl rfl, ⟨lwG_2 137 rfl rfl, lwG_2 138 rfl rfl⟩⟩
theorem wm_85 : WM 85 := ⟨lwG_2 184 rfl rfl, lwG_1 1 rfl rfl, ⟨lwG_2 182 rfl rfl, lwG_2 183 rfl rfl⟩⟩
theorem wm_86 : WM 86 := ⟨lwG_2 224 rfl rfl, lwG_1 1 rfl rfl, ⟨lwG_2 222 rfl rfl, lwG_2 223 rfl rfl⟩⟩
theorem wm_87 : WM 87 := ⟨lwG_3 39 rfl rfl, lwG_1 1 rfl rfl, ⟨lwG_3 37 rfl rfl, lwG_3 38 rfl rfl⟩⟩
theorem wm_88 : WM 88 := ⟨lwG_3 43 rfl rfl, lwG_1 1 rfl rfl, ⟨lwG_3 41 rfl rfl, lwG_3 42 rfl rfl⟩⟩
theorem wm_89 : WM 89 := ⟨lwG_3 103 rfl rfl, lwG_1 1 rfl rfl, ⟨lwG_3 101 rfl rfl, lwG_3 102 rfl rfl⟩⟩
theorem wm_90 : WM 90 := ⟨lwG_3 130 rfl rfl, lwG_1 1 rfl rfl, ⟨lwG_3 128 rfl rfl, lwG_3 129 rfl rfl⟩⟩
theorem wm_91 : WM 91 := ⟨lwG_3 142 rfl rfl, lwG_1 1 rfl rfl, ⟨lwG_3 140 rfl rfl, lwG_3 141 rfl rfl⟩⟩
theorem wm_92 : WM 92 := ⟨lwG_3 154 rfl rfl, lwG_1 1 rfl rfl, ⟨lwG_3 152 rfl rfl, lwG_3 153 rfl rfl⟩⟩
theorem wm_93 : WM 93 := ⟨lwG_3 169 rfl rfl, lwG_1 1 rfl rfl, ⟨lwG_3 167 rfl rfl, lwG_3 168 rfl rfl⟩⟩
theorem wm_94 : WM 94 := ⟨lwG_3 174 rfl rfl, lwG_1 1 rfl rfl, ⟨lwG_3 172 rfl rfl, lwG_3 173 rfl rfl⟩⟩
theorem wm_95 : WM 95 := ⟨lwG_3 183 rfl rfl, lwG_1 1 rfl rfl, ⟨lwG_3 181 rfl rfl, lwG_3 182 rfl rfl⟩⟩
theorem wm_96 : WM 96 := ⟨lwG_3 187 rfl rfl, lwG_1 1 rfl rfl, ⟨lwG_3 185 rfl rfl, lwG_3 186 rfl rfl⟩⟩
theorem wm_97 : WM 97 := ⟨lwG_3 195 rfl rfl, lwG_1 1 rfl rfl, ⟨lwG_3 193 rfl rfl, lwG_3 194 rfl rfl⟩⟩
theorem wm_98 : WM 98 := ⟨lwG_4 212 rfl rfl, lwG_1 1 rfl rfl, ⟨lwG_4 210 rfl rfl, lwG_4 211 rfl rfl⟩⟩
theorem wm_99 : WM 99 := ⟨lwG_4 223 rfl rfl, lwG_1 1 rfl rfl, ⟨lwG_4 221 rfl rfl, lwG_4 222 rfl rfl⟩⟩
theorem wm_100 : WM 100 := ⟨lwG_4 47 rfl rfl, lwG_1 1 rfl rfl, ⟨lwG_4 45 rfl rfl, lwG_4 46 rfl rfl⟩⟩
theorem wm_101 : WM 101 := ⟨lwG_2 228 rfl rfl, lwG_1 1 rfl rfl, ⟨lwG_2 227 rfl rfl, lwG_s 6 rfl rfl⟩⟩
theorem wm_102 : WM 102 := ⟨lwG_2 143 rfl rfl, lwG_1 1 rfl rfl, ⟨lwG_2 142 rfl rfl, lwG_s 1 rfl rfl⟩⟩
theorem wm_103 : WM 103 := ⟨lwG_2 100 rfl rfl, lwG_1 1 rfl rfl, lwG_2 99 rfl rfl⟩
theorem wm_104 : WM 104 := ⟨lwG_2 113 rfl rfl, lwG_1 1 rfl rfl, ⟨lwG_2 112 rfl rfl, lwG_s 0 rfl rfl⟩⟩
theorem wm_105 : WM 105 := ⟨lwG_3 46 rfl rfl, lwG_1 1 rfl rfl, lwG_3 45 rfl rfl⟩
theorem wm_106 : WM 106 := ⟨lwG_3 231 rfl rfl, lwG_1 1 rfl rfl, lwG_3 230 rfl rfl⟩
theorem wm_107 : WM 107 := ⟨lwG_3 234 rfl rfl, lwG_1 1 rfl rfl, lwG_3 233 rfl rfl⟩
theorem wm_108 : WM 108 := ⟨lwG_4 10 rfl rfl, lwG_1 1 rfl rfl, ⟨lwG_4 9 rfl rfl, lwG_s 22 rfl rfl⟩⟩
theorem wm_109 : WM 109 := ⟨lwG_3 191 rfl rfl, lwG_1 1 rfl rfl, lwG_3 190 rfl rfl⟩
theorem wm_110 : WM 110 := ⟨lwG_3 147 rfl rfl, lwG_1 1 rfl rfl, lwG_3 146 rfl rfl⟩
theorem wm_111 : WM 111 := ⟨lwG_3 150 rfl rfl, lwG_1 1 rfl rfl, lwG_3 149 rfl rfl⟩
theorem wm_112 : WM 112 := ⟨lwG_3 118 rfl rfl, lwG_1 19 rfl rfl, lwG_3 117 rfl rfl⟩
theorem wm_113 : WM 113 := ⟨lwG_4 114 rfl rfl, lwG_1 12 rfl rfl, ⟨lwG_4 112 rfl rfl, lwG_4 113 rfl rfl⟩⟩
theorem wm_114 : WM 114 := ⟨lwG_4 100 rfl rfl, lwG_1 12 rfl rfl, ⟨lwG_4 98 rfl rfl, lwG_4 99 rfl rfl⟩⟩
theorem wm_115 : WM 115 := ⟨lwG_4 104 rfl rfl, lwG_1 12 rfl rfl, ⟨lwG_4 102 rfl rfl, lwG_4 103 rfl rfl⟩⟩
theorem wm_116 : WM 116 := ⟨lwG_4 118 rfl rfl, lwG_1 12 rfl rfl, ⟨lwG_4 116 rfl rfl, lwG_4 117 rfl rfl⟩⟩
theorem wm_117 : WM 117 := ⟨lwG_4 108 rfl rfl, lwG_1 12 rfl rfl, ⟨lwG_4 106 rfl rfl, lwG_4 107 rfl rfl⟩⟩
theorem wm_118 : WM 118 := ⟨lwG_4 124 rfl rfl, lwG_1 13 rfl rfl, lwG_4 123 rfl rfl⟩
theorem wm_119 : WM 119 := ⟨lwG_4 121 rfl rfl, lwG_1 13 rfl rfl, lwG_4 120 rfl rfl⟩
theorem wm_120 : WM 120 := ⟨lwG_4 129 rfl rfl, lwG_1 13 rfl rfl, lwG_4 128 rfl rfl⟩
theorem wm_121 : WM 121 := ⟨lwG_4 219 rfl rfl, lwG_1 17 rfl rfl, lwG_4 218 rfl rfl⟩
theorem wm_122 : WM 122 := ⟨lwG_3 58 rfl rfl, lwG_1 17 rfl rfl, lwG_3 57 rfl rfl⟩
def allP (P : Nat → Prop) : Nat → Nat → Prop
  | _, 0 => True
  | k, n + 1 => P k ∧ allP P (k + 1) n
theorem allP_at {P : Nat → Prop} : ∀ (n k j : Nat), allP P k n → k ≤ j → j < k + n → P j
  | 0, k, j, _, h1, h2 => absurd h2 (by omega)
  | n + 1, k, j, h, h1, h2 => by
    rcases Nat.eq_or_lt_of_le h1 with e | e
    · rw [← e]; exact h.1
    · exact allP_at n (k + 1) j h.2 e (by omega)
theorem wmA_0 : allP WM 0 47 := ⟨wm_0, wm_1, wm_2, wm_3, wm_4, wm_5, wm_6, wm_7, wm_8, wm_9, wm_10, wm_11, wm_12, wm_13, wm_14, wm_15, wm_16, wm_17, wm_18, wm_19, wm_20, wm_21, wm_22, wm_23, wm_24, wm_25, wm_26, wm_27, wm_28, wm_29, wm_30, wm_31, wm_32, wm_33, wm_34, wm_35, wm_36, wm_37, wm_38, wm_39, wm_40, wm_41, wm_42, wm_43, wm_44, wm_45, wm_46, trivial⟩
theorem wmA_47 : allP WM 47 47 := ⟨wm_47, wm_48, wm_49, wm_50, wm_51, wm_52, wm_53, wm_54, wm_55, wm_56, wm_57, wm_58, wm_59, wm_60, wm_61, wm_62, wm_63, wm_64, wm_65, wm_66, wm_67, wm_68, wm_69, wm_70, wm_71, wm_72, wm_73, wm_74, wm_75, wm_76, wm_77, wm_78, wm_79, wm_80, wm_81, wm_82, wm_83, wm_84, wm_85, wm_86, wm_87, wm_88, wm_89, wm_90, wm_91, wm_92, wm_93, trivial⟩
theorem wmA_94 : allP WM 94 29 := ⟨wm_94, wm_95, wm_96, wm_97, wm_98, wm_99, wm_100, wm_101, wm_102, wm_103, wm_104, wm_105, wm_106, wm_107, wm_108, wm_109, wm_110, wm_111, wm_112, wm_113, wm_114, wm_115, wm_116, wm_117, wm_118, wm_119, wm_120, wm_121, wm_122, trivial⟩
theorem wm_all {k : Nat} (h : k < 123) : WM k := by
  rcases Nat.lt_or_ge k 47 with q | q
  · exact allP_at 47 0 k wmA_0 (by omega) (by omega)
  rcases Nat.lt_or_ge k 94 with q | q
  · exact allP_at 47 47 k wmA_47 (by omega) (by omega)
  · exact allP_at 29 94 k wmA_94 (by omega) (by omega)
theorem fm {α : Type} {P : α → Prop} {a : α} {l : List α} (h1 : P a) (h2 : ∀ t ∈ l, P t) : ∀ t ∈ a :: l, P t := List.forall_mem_cons.mpr ⟨h1, h2⟩
theorem fmn {α : Type} {P : α → Prop} : ∀ t ∈ ([] : List α), P t := fun _ h => absurd h List.not_mem_nil
def clN (c : Nat) : vw_C := nth ("", TX0, 0) vwCl c
def gsN (k : Nat) : String × String × String := nth ("", "", "") [("", "", ""), ("HayRemembers$Lean", "RIGHT", "[I"), ("HayRemembers$Lean", "DOWN", "[I"), ("HayRemembers$Acts", "ABOVE", "[I"), ("java/lang/String", "COMPACT_STRINGS", "Z")] k
def sfN (k : Nat) : String × String := nth ("", "") [("", ""), ("value", "[B"), ("coder", "B")] k
abbrev PF (t : Nat × Nat × Nat × Nat × Nat) : Prop := Cond.fieldLink (nmC t.1) t.2.1 (nmC t.2.2.1) ((clN t.2.2.1).2.1 t.2.2.2.1).2.1 ((clN t.2.2.1).2.1 t.2.2.2.1).2.2.1 ∈ lwG
def mnm (k : Nat) : MethodName := match Nat.blt k 1000 with
  | true => (mi k).1
  | false => nth objectInit [objectInit, Lib.Math.max.name, Lib.Math.min.name, Lib.Math.abs.name, arraycopyName] (k - 1000)
abbrev PL (t : Nat × Nat × Nat × Nat) : Prop := Cond.methodLink (nmC t.1) t.2.1 (mnm t.2.2.1) ∈ lwG
abbrev PG (t : Nat × Nat × Nat × Nat) : Prop := Cond.fieldLink (nmC t.1) t.2.1 (gsN t.2.2.1).1 (gsN t.2.2.1).2.1 (gsN t.2.2.1).2.2 ∈ lwG
abbrev PS (t : Nat × Nat × Nat) : Prop := Cond.fieldLink "java/lang/String" t.1 "java/lang/String" (sfN t.2.1).1 (sfN t.2.1).2 ∈ lwG
abbrev PK (t : Nat × Nat × Int32 × Nat) : Prop := Cond.constant (nmC t.1) t.2.1 t.2.2.1 ∈ lwG
abbrev PO (t : Nat × Nat × Int64 × Nat) : Prop := Cond.constantLong (nmC t.1) t.2.1 t.2.2.1 ∈ lwG
set_option maxRecDepth 100000 in
theorem pf_all : ∀ t ∈ ftL, PF t := fm (lwG_2 2 rfl rfl) (fm (lwG_2 4 rfl rfl) (fm (lwG_1 225 rfl rfl) (fm (lwG_1 226 rfl rfl) (fm (lwG_1 227 rfl rfl) (fm (lwG_1 36 rfl rfl) (fm (lwG_1 39 rfl rfl) (fm (lwG_1 40 rfl rfl) (fm (lwG_1 42 rfl rfl) (fm (lwG_1 43 rfl rfl) (fm (lwG_1 41 rfl rfl) (fm (lwG_1 34 rfl rfl) (fm (lwG_1 66 rfl rfl) (fm (lwG_1 68 rfl rfl) (fm (lwG_1 67 rfl rfl) (fm (lwG_1 69 rfl rfl) (fm (lwG_1 70 rfl rfl) (fm (lwG_1 71 rfl rfl) (fm (lwG_1 111 rfl rfl) (fm (lwG_1 114 rfl rfl) (fm (lwG_1 176 rfl rfl) (fm (lwG_1 177 rfl rfl) (fm (lwG_1 180 rfl rfl) (fm (lwG_1 181 rfl rfl) (fm (lwG_1 182 rfl rfl) (fm (lwG_1 183 rfl rfl) (fm (lwG_1 184 rfl rfl) (fm (lwG_1 185 rfl rfl) (fm (lwG_1 186 rfl rfl) (fm (lwG_1 187 rfl rfl) (fm (lwG_1 175 rfl rfl) (fm (lwG_1 178 rfl rfl) (fm (lwG_1 179 rfl rfl) (fm (lwG_1 112 rfl rfl) (fm (lwG_1 115 rfl rfl) (fm (lwG_1 38 rfl rfl) (fm (lwG_1 171 rfl rfl) (fm (lwG_1 173 rfl rfl) (fm (lwG_2 25 rfl rfl) (fm (lwG_2 28 rfl rfl) (fm (lwG_2 26 rfl rfl) (fm (lwG_2 27 rfl rfl) (fm (lwG_1 132 rfl rfl) (fm (lwG_1 145 rfl rfl) (fm (lwG_1 144 rfl rfl) (fm (lwG_1 134 rfl rfl) (fm (lwG_1 136 rfl rfl) (fm (lwG_1 138 rfl rfl) (fm (lwG_1 140 rfl rfl) (fm (lwG_1 142 rfl rfl) (fm (lwG_1 93 rfl rfl) (fm (lwG_1 94 rfl rfl) (fm (lwG_1 95 rfl rfl) (fm (lwG_1 91 rfl rfl) (fm (lwG_2 41 rfl rfl) (fm (lwG_2 42 rfl rfl) (fm (lwG_2 43 rfl rfl) (fm (lwG_2 44 rfl rfl) (fm (lwG_2 45 rfl rfl) (fm (lwG_2 46 rfl rfl) (fm (lwG_2 47 rfl rfl) (fm (lwG_2 48 rfl rfl) (fm (lwG_2 49 rfl rfl) (fm (lwG_2 50 rfl rfl) (fm (lwG_2 51 rfl rfl) (fm (lwG_2 52 rfl rfl) (fm (lwG_1 92 rfl rfl) (fm (lwG_1 35 rfl rfl) (fm (lwG_1 37 rfl rfl) (fm (lwG_2 54 rfl rfl) (fm (lwG_1 113 rfl rfl) (fm (lwG_1 116 rfl rfl) (fm (lwG_1 135 rfl rfl) (fm (lwG_1 137 rfl rfl) (fm (lwG_1 139 rfl rfl) (fm (lwG_1 141 rfl rfl) (fm (lwG_1 143 rfl rfl) (fm (lwG_1 133 rfl rfl) (fm (lwG_1 172 rfl rfl) (fm (lwG_1 174 rfl rfl) (fm (lwG_2 55 rfl rfl) (fm (lwG_2 53 rfl rfl) (fm (lwG_2 56 rfl rfl) (fmn)))))))))))))))))))))))))))))))))))))))))))))))))))))))))))))))))))))))))))))))))))
set_option maxRecDepth 100000 in
theorem pl_all : ∀ t ∈ mtL, PL t := fm (lwG_4 3 rfl rfl) (fm (lwG_2 213 rfl rfl) (fm (lwG_4 190 rfl rfl) (fm (lwG_2 156 rfl rfl) (fm (lwG_4 194 rfl rfl) (fm (lwG_2 153 rfl rfl) (fm (lwG_2 162 rfl rfl) (fm (lwG_2 159 rfl rfl) (fm (lwG_2 166 rfl rfl) (fm (lwG_2 170 rfl rfl) (fm (lwG_2 174 rfl rfl) (fm (lwG_2 178 rfl rfl) (fm (lwG_4 72 rfl rfl) (fm (lwG_4 84 rfl rfl) (fm (lwG_4 76 rfl rfl) (fm (lwG_4 92 rfl rfl) (fm (lwG_4 80 rfl rfl) (fm (lwG_4 183 rfl rfl) (fm (lwG_4 88 rfl rfl) (fm (lwG_4 97 rfl rfl) (fm (lwG_4 179 rfl rfl) (fm (lwG_2 199 rfl rfl) (fm (lwG_2 204 rfl rfl) (fm (lwG_2 217 rfl rfl) (fm (lwG_2 220 rfl rfl) (fm (lwG_3 53 rfl rfl) (fm (lwG_3 54 rfl rfl) (fm (lwG_3 55 rfl rfl) (fm (lwG_3 56 rfl rfl) (fm (lwG_3 72 rfl rfl) (fm (lwG_3 80 rfl rfl) (fm (lwG_3 67 rfl rfl) (fm (lwG_3 82 rfl rfl) (fm (lwG_3 71 rfl rfl) (fm (lwG_3 76 rfl rfl) (fm (lwG_3 81 rfl rfl) (fm (lwG_3 86 rfl rfl) (fm (lwG_3 90 rfl rfl) (fm (lwG_3 95 rfl rfl) (fm (lwG_3 94 rfl rfl) (fm (lwG_3 108 rfl rfl) (fm (lwG_3 112 rfl rfl) (fm (lwG_3 123 rfl rfl) (fm (lwG_3 116 rfl rfl) (fm (lwG_3 122 rfl rfl) (fm (lwG_3 135 rfl rfl) (fm (lwG_3 159 rfl rfl) (fm (lwG_3 163 rfl rfl) (fm (lwG_3 164 rfl rfl) (fm (lwG_3 165 rfl rfl) (fm (lwG_4 217 rfl rfl) (fm (lwG_3 16 rfl rfl) (fm (lwG_4 232 rfl rfl) (fm (lwG_3 1 rfl rfl) (fm (lwG_2 237 rfl rfl) (fm (lwG_3 8 rfl rfl) (fm (lwG_3 12 rfl rfl) (fm (lwG_3 17 rfl rfl) (fm (lwG_3 18 rfl rfl) (fm (lwG_3 19 rfl rfl) (fm (lwG_3 23 rfl rfl) (fm (lwG_3 24 rfl rfl) (fm (lwG_3 33 rfl rfl) (fm (lwG_3 34 rfl rfl) (fm (lwG_3 35 rfl rfl) (fm (lwG_3 28 rfl rfl) (fm (lwG_3 29 rfl rfl) (fm (lwG_3 5 rfl rfl) (fm (lwG_2 109 rfl rfl) (fm (lwG_2 131 rfl rfl) (fm (lwG_2 118 rfl rfl) (fm (lwG_4 15 rfl rfl) (fm (lwG_3 179 rfl rfl) (fm (lwG_2 148 rfl rfl) (fm (lwG_2 149 rfl rfl) (fm (lwG_2 190 rfl rfl) (fm (lwG_2 194 rfl rfl) (fm (lwG_2 195 rfl rfl) (fm (lwG_2 94 rfl rfl) (fm (lwG_2 98 rfl rfl) (fm (lwG_2 105 rfl rfl) (fm (lwG_2 110 rfl rfl) (fm (lwG_2 225 rfl rfl) (fm (lwG_2 229 rfl rfl) (fm (lwG_3 48 rfl rfl) (fm (lwG_3 228 rfl rfl) (fm (lwG_3 229 rfl rfl) (fm (lwG_3 232 rfl rfl) (fm (lwG_3 235 rfl rfl) (fm (lwG_3 239 rfl rfl) (fm (lwG_4 7 rfl rfl) (fm (lwG_2 123 rfl rfl) (fm (lwG_2 127 rfl rfl) (fm (lwG_2 132 rfl rfl) (fm (lwG_4 36 rfl rfl) (fm (lwG_4 40 rfl rfl) (fm (lwG_4 68 rfl rfl) (fm (lwG_4 186 rfl rfl) (fm (lwG_4 198 rfl rfl) (fm (lwG_2 140 rfl rfl) (fm (lwG_2 144 rfl rfl) (fm (lwG_2 186 rfl rfl) (fm (lwG_2 209 rfl rfl) (fm (lwG_2 233 rfl rfl) (fm (lwG_3 44 rfl rfl) (fm (lwG_3 49 rfl rfl) (fm (lwG_3 59 rfl rfl) (fm (lwG_3 63 rfl rfl) (fm (lwG_3 96 rfl rfl) (fm (lwG_3 104 rfl rfl) (fm (lwG_3 131 rfl rfl) (fm (lwG_3 144 rfl rfl) (fm (lwG_3 145 rfl rfl) (fm (lwG_3 148 rfl rfl) (fm (lwG_3 47 rfl rfl) (fm (lwG_3 155 rfl rfl) (fm (lwG_3 170 rfl rfl) (fm (lwG_3 175 rfl rfl) (fm (lwG_3 188 rfl rfl) (fm (lwG_3 189 rfl rfl) (fm (lwG_3 196 rfl rfl) (fm (lwG_4 52 rfl rfl) (fm (lwG_4 56 rfl rfl) (fm (lwG_4 213 rfl rfl) (fm (lwG_4 224 rfl rfl) (fm (lwG_4 228 rfl rfl) (fm (lwG_4 48 rfl rfl) (fm (lwG_4 60 rfl rfl) (fm (lwG_2 114 rfl rfl) (fm (lwG_4 11 rfl rfl) (fm (lwG_4 16 rfl rfl) (fm (lwG_4 115 rfl rfl) (fm (lwG_4 105 rfl rfl) (fm (lwG_4 111 rfl rfl) (fm (lwG_4 101 rfl rfl) (fm (lwG_4 119 rfl rfl) (fm (lwG_4 126 rfl rfl) (fm (lwG_4 122 rfl rfl) (fm (lwG_4 125 rfl rfl) (fm (lwG_4 127 rfl rfl) (fmn))))))))))))))))))))))))))))))))))))))))))))))))))))))))))))))))))))))))))))))))))))))))))))))))))))))))))))))))))))))))))))))))))))))))))))
set_option maxRecDepth 100000 in
theorem pg_all : ∀ t ∈ gtL, PG t := fm (lwG_2 202 rfl rfl) (fm (lwG_2 207 rfl rfl) (fm (lwG_4 109 rfl rfl) (fmn)))
set_option maxRecDepth 100000 in
theorem ps_all : ∀ t ∈ sfL, PS t := fm (lwG_5 2 rfl rfl) (fm (lwG_5 1 rfl rfl) (fmn))
set_option maxRecDepth 100000 in
theorem pk_all : ∀ t ∈ ktL, PK t := fm (lwG_2 185 rfl rfl) (fm (lwG_3 119 rfl rfl) (fm (lwG_3 120 rfl rfl) (fm (lwG_3 121 rfl rfl) (fmn))))
set_option maxRecDepth 100000 in
theorem po_all : ∀ t ∈ ltL, PO t := fm (lwG_2 101 rfl rfl) (fm (lwG_2 103 rfl rfl) (fm (lwG_3 143 rfl rfl) (fm (lwG_2 102 rfl rfl) (fm (lwG_2 104 rfl rfl) (fmn)))))
theorem ftB : ftL.all (fun t => Nat.blt t.1 15 && Nat.blt t.2.2.1 10 && Nat.blt t.2.2.2.1 (clN t.2.2.1).2.2 && Nat.blt t.2.2.2.1 100 && decide (((clN t.2.2.1).2.1 t.2.2.2.1).1 = nmC t.2.2.1)) = true := by decide +kernel
theorem mtB : mtL.all (fun t => Nat.blt t.2.2.1 123 || (Nat.blt 1000 t.2.2.1 && Nat.blt t.2.2.1 1005)) = true := by decide +kernel
theorem wl_iMath : Cond.initialized "java/lang/Math" ∈ lwG := lwG_1 11 rfl rfl
theorem wl_iSys : Cond.initialized "java/lang/System" ∈ lwG := lwG_1 18 rfl rfl
theorem wl_max_s : Cond.static Lib.Math.max.name ∈ lwG := lwG_2 160 rfl rfl
theorem wl_max_c : Cond.code Lib.Math.max.name Lib.Math.max.code 2 (some .int) ∈ lwG := lwG_2 161 rfl rfl
theorem wl_min_s : Cond.static Lib.Math.min.name ∈ lwG := lwG_2 157 rfl rfl
theorem wl_min_c : Cond.code Lib.Math.min.name Lib.Math.min.code 2 (some .int) ∈ lwG := lwG_2 158 rfl rfl
theorem wl_abs_s : Cond.static Lib.Math.abs.name ∈ lwG := lwG_2 218 rfl rfl
theorem wl_abs_c : Cond.code Lib.Math.abs.name Lib.Math.abs.code 1 (some .int) ∈ lwG := lwG_2 219 rfl rfl
theorem wl_ac_s : Cond.static arraycopyName ∈ lwG := lwG_3 6 rfl rfl
theorem wl_ac_n : Cond.native arraycopyName ∈ lwG := lwG_3 7 rfl rfl
set_option maxRecDepth 100000 in
theorem uw_0 : ∀ w ∈ u_ws RX0 TX0 6, w ∈ lwG := fm (lwG_2 5 rfl rfl) (fm (lwG_2 7 rfl rfl) (fm (lwG_2 9 rfl rfl) (fm (lwG_2 11 rfl rfl) (fm (lwG_2 13 rfl rfl) (fm (lwG_2 15 rfl rfl) (fmn))))))
set_option maxRecDepth 100000 in
theorem uw_1 : ∀ w ∈ u_ws RX1 TX1 3, w ∈ lwG := fm (lwG_1 228 rfl rfl) (fm (lwG_1 230 rfl rfl) (fm (lwG_1 232 rfl rfl) (fmn)))
set_option maxRecDepth 100000 in
theorem uw_2 : ∀ w ∈ u_ws RX2 TX2 7, w ∈ lwG := fm (lwG_1 44 rfl rfl) (fm (lwG_1 46 rfl rfl) (fm (lwG_1 48 rfl rfl) (fm (lwG_1 50 rfl rfl) (fm (lwG_1 52 rfl rfl) (fm (lwG_1 54 rfl rfl) (fm (lwG_1 56 rfl rfl) (fmn)))))))
set_option maxRecDepth 100000 in
theorem uw_3 : ∀ w ∈ u_ws RX3 TX3 6, w ∈ lwG := fm (lwG_1 72 rfl rfl) (fm (lwG_1 74 rfl rfl) (fm (lwG_1 76 rfl rfl) (fm (lwG_1 78 rfl rfl) (fm (lwG_1 80 rfl rfl) (fm (lwG_1 82 rfl rfl) (fmn))))))
set_option maxRecDepth 100000 in
theorem uw_4 : ∀ w ∈ u_ws RX4 TX4 2, w ∈ lwG := fm (lwG_1 117 rfl rfl) (fm (lwG_1 119 rfl rfl) (fmn))
set_option maxRecDepth 100000 in
theorem uw_5 : ∀ w ∈ u_ws RX5 TX5 15, w ∈ lwG := fm (lwG_1 188 rfl rfl) (fm (lwG_1 190 rfl rfl) (fm (lwG_1 192 rfl rfl) (fm (lwG_1 194 rfl rfl) (fm (lwG_1 196 rfl rfl) (fm (lwG_1 198 rfl rfl) (fm (lwG_1 200 rfl rfl) (fm (lwG_1 202 rfl rfl) (fm (lwG_1 204 rfl rfl) (fm (lwG_1 206 rfl rfl) (fm (lwG_1 208 rfl rfl) (fm (lwG_1 210 rfl rfl) (fm (lwG_1 212 rfl rfl) (fm (lwG_1 214 rfl rfl) (fm (lwG_1 216 rfl rfl) (fmn)))))))))))))))
set_option maxRecDepth 100000 in
theorem uw_6 : ∀ w ∈ u_ws RX6 TX6 5, w ∈ lwG := fm (lwG_2 29 rfl rfl) (fm (lwG_2 31 rfl rfl) (fm (lwG_2 33 rfl rfl) (fm (lwG_2 35 rfl rfl) (fm (lwG_2 37 rfl rfl) (fmn)))))
set_option maxRecDepth 100000 in
theorem uw_7 : ∀ w ∈ u_ws RX7 TX7 8, w ∈ lwG := fm (lwG_1 146 rfl rfl) (fm (lwG_1 148 rfl rfl) (fm (lwG_1 150 rfl rfl) (fm (lwG_1 152 rfl rfl) (fm (lwG_1 154 rfl rfl) (fm (lwG_1 156 rfl rfl) (fm (lwG_1 158 rfl rfl) (fm (lwG_1 160 rfl rfl) (fmn))))))))
set_option maxRecDepth 100000 in
theorem uw_8 : ∀ w ∈ u_ws RX8 TX8 4, w ∈ lwG := fm (lwG_1 96 rfl rfl) (fm (lwG_1 98 rfl rfl) (fm (lwG_1 100 rfl rfl) (fm (lwG_1 102 rfl rfl) (fmn))))
set_option maxRecDepth 100000 in
theorem uw_9 : ∀ w ∈ u_ws RX9 TX9 16, w ∈ lwG := fm (lwG_2 57 rfl rfl) (fm (lwG_2 59 rfl rfl) (fm (lwG_2 61 rfl rfl) (fm (lwG_2 63 rfl rfl) (fm (lwG_2 65 rfl rfl) (fm (lwG_2 67 rfl rfl) (fm (lwG_2 69 rfl rfl) (fm (lwG_2 71 rfl rfl) (fm (lwG_2 73 rfl rfl) (fm (lwG_2 75 rfl rfl) (fm (lwG_2 77 rfl rfl) (fm (lwG_2 79 rfl rfl) (fm (lwG_2 81 rfl rfl) (fm (lwG_2 83 rfl rfl) (fm (lwG_2 85 rfl rfl) (fm (lwG_2 87 rfl rfl) (fmn))))))))))))))))
