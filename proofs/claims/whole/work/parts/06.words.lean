/-! the words of the tables that the methods need: by program (gen.py) -/
theorem lwG_1 {w : Cond} (i : Nat) (h : tables_1_1[i]? = some w) (g : goodWord w = true) : w ∈ lwG := List.mem_filter.mpr ⟨List.mem_append_right _ (show w ∈ tables_1 from (by have h := List.mem_of_getElem? h; exact List.mem_append_left _ h)), g⟩
theorem lwG_2 {w : Cond} (i : Nat) (h : tables_1_2[i]? = some w) (g : goodWord w = true) : w ∈ lwG := List.mem_filter.mpr ⟨List.mem_append_right _ (show w ∈ tables_1 from (by have h := List.mem_of_getElem? h; exact List.mem_append_right _ (List.mem_append_left _ h))), g⟩
theorem lwG_3 {w : Cond} (i : Nat) (h : tables_1_3[i]? = some w) (g : goodWord w = true) : w ∈ lwG := List.mem_filter.mpr ⟨List.mem_append_right _ (show w ∈ tables_1 from (by have h := List.mem_of_getElem? h; exact List.mem_append_right _ (List.mem_append_right _ (List.mem_append_left _ h)))), g⟩
theorem lwG_4 {w : Cond} (i : Nat) (h : tables_1_4[i]? = some w) (g : goodWord w = true) : w ∈ lwG := List.mem_filter.mpr ⟨List.mem_append_right _ (show w ∈ tables_1 from (by have h := List.mem_of_getElem? h; exact List.mem_append_right _ (List.mem_append_right _ (List.mem_append_right _ (List.mem_append_left _ h))))), g⟩
theorem lwG_5 {w : Cond} (i : Nat) (h : tables_1_5[i]? = some w) (g : goodWord w = true) : w ∈ lwG := List.mem_filter.mpr ⟨List.mem_append_right _ (show w ∈ tables_1 from (by have h := List.mem_of_getElem? h; exact List.mem_append_right _ (List.mem_append_right _ (List.mem_append_right _ (List.mem_append_right _ (List.mem_append_left _ h)))))), g⟩
theorem lwG_6 {w : Cond} (i : Nat) (h : tables_1_6[i]? = some w) (g : goodWord w = true) : w ∈ lwG := List.mem_filter.mpr ⟨List.mem_append_right _ (show w ∈ tables_1 from (by have h := List.mem_of_getElem? h; exact List.mem_append_right _ (List.mem_append_right _ (List.mem_append_right _ (List.mem_append_right _ (List.mem_append_right _ (List.mem_append_left _ h))))))), g⟩
theorem lwG_7 {w : Cond} (i : Nat) (h : tables_1_7[i]? = some w) (g : goodWord w = true) : w ∈ lwG := List.mem_filter.mpr ⟨List.mem_append_right _ (show w ∈ tables_1 from (by have h := List.mem_of_getElem? h; exact List.mem_append_right _ (List.mem_append_right _ (List.mem_append_right _ (List.mem_append_right _ (List.mem_append_right _ (List.mem_append_right _ (List.mem_append_left _ h)))))))), g⟩
theorem lwG_8 {w : Cond} (i : Nat) (h : tables_1_8[i]? = some w) (g : goodWord w = true) : w ∈ lwG := List.mem_filter.mpr ⟨List.mem_append_right _ (show w ∈ tables_1 from (by have h := List.mem_of_getElem? h; exact List.mem_append_right _ (List.mem_append_right _ (List.mem_append_right _ (List.mem_append_right _ (List.mem_append_right _ (List.mem_append_right _ (List.mem_append_right _ (h))))))))), g⟩
theorem lwG_s {w : Cond} (i : Nat) (h : (k2_sels lw_privs)[i]? = some w) (g : goodWord w = true) : w ∈ lwG := List.mem_filter.mpr ⟨List.mem_append_left _ (List.mem_of_getElem? h), g⟩
def WM (k : Nat) : Prop := Cond.code (mi k).1 (mi k).2.1 (mi k).2.2.1 (mi k).2.2.2.1 ∈ lwG ∧ Cond.initialized (mi k).1.cls ∈ lwG ∧
  (match (mi k).2.2.2.2.2.2 with
    | 1 => Cond.static (mi k).1 ∈ lwG
    | _ => Cond.instanceMethod (mi k).1 ∈ lwG ∧ Cond.selects (mi k).1.cls (mi k).1 (mi k).1 ∈ lwG)
theorem wm_0 : WM 0 := ⟨lwG_5 16 rfl rfl, lwG_1 9 rfl rfl, ⟨lwG_5 14 rfl rfl, lwG_5 15 rfl rfl⟩⟩
theorem wm_1 : WM 1 := ⟨lwG_5 64 rfl rfl, lwG_1 9 rfl rfl, ⟨lwG_5 62 rfl rfl, lwG_5 63 rfl rfl⟩⟩
theorem wm_2 : WM 2 := ⟨lwG_5 147 rfl rfl, lwG_1 9 rfl rfl, ⟨lwG_5 145 rfl rfl, lwG_5 146 rfl rfl⟩⟩
theorem wm_3 : WM 3 := ⟨lwG_5 56 rfl rfl, lwG_1 9 rfl rfl, ⟨lwG_5 54 rfl rfl, lwG_5 55 rfl rfl⟩⟩
theorem wm_4 : WM 4 := ⟨lwG_5 28 rfl rfl, lwG_1 9 rfl rfl, ⟨lwG_5 26 rfl rfl, lwG_5 27 rfl rfl⟩⟩
theorem wm_5 : WM 5 := ⟨lwG_5 133 rfl rfl, lwG_1 9 rfl rfl, lwG_5 132 rfl rfl⟩
theorem wm_6 : WM 6 := ⟨lwG_5 24 rfl rfl, lwG_1 9 rfl rfl, ⟨lwG_5 22 rfl rfl, lwG_5 23 rfl rfl⟩⟩
theorem wm_7 : WM 7 := ⟨lwG_5 36 rfl rfl, lwG_1 9 rfl rfl, ⟨lwG_5 35 rfl rfl, lwG_s 34 rfl rfl⟩⟩
theorem wm_8 : WM 8 := ⟨lwG_5 32 rfl rfl, lwG_1 9 rfl rfl, ⟨lwG_5 31 rfl rfl, lwG_s 33 rfl rfl⟩⟩
theorem wm_9 : WM 9 := ⟨lwG_5 40 rfl rfl, lwG_1 9 rfl rfl, ⟨lwG_5 39 rfl rfl, lwG_s 35 rfl rfl⟩⟩
theorem wm_10 : WM 10 := ⟨lwG_5 44 rfl rfl, lwG_1 9 rfl rfl, ⟨lwG_5 43 rfl rfl, lwG_s 36 rfl rfl⟩⟩
theorem wm_11 : WM 11 := ⟨lwG_5 48 rfl rfl, lwG_1 9 rfl rfl, ⟨lwG_5 47 rfl rfl, lwG_s 37 rfl rfl⟩⟩
theorem wm_12 : WM 12 := ⟨lwG_4 226 rfl rfl, lwG_1 8 rfl rfl, ⟨lwG_4 224 rfl rfl, lwG_4 225 rfl rfl⟩⟩
theorem wm_13 : WM 13 := ⟨lwG_5 3 rfl rfl, lwG_1 8 rfl rfl, ⟨lwG_5 1 rfl rfl, lwG_5 2 rfl rfl⟩⟩
theorem wm_14 : WM 14 := ⟨lwG_4 235 rfl rfl, lwG_1 8 rfl rfl, ⟨lwG_4 233 rfl rfl, lwG_4 234 rfl rfl⟩⟩
theorem wm_15 : WM 15 := ⟨lwG_2 190 rfl rfl, lwG_1 8 rfl rfl, ⟨lwG_2 188 rfl rfl, lwG_2 189 rfl rfl⟩⟩
theorem wm_16 : WM 16 := ⟨lwG_2 194 rfl rfl, lwG_1 8 rfl rfl, ⟨lwG_2 193 rfl rfl, lwG_s 2 rfl rfl⟩⟩
theorem wm_17 : WM 17 := ⟨lwG_4 230 rfl rfl, lwG_1 8 rfl rfl, ⟨lwG_4 228 rfl rfl, lwG_4 229 rfl rfl⟩⟩
theorem wm_18 : WM 18 := ⟨lwG_5 7 rfl rfl, lwG_1 8 rfl rfl, ⟨lwG_5 5 rfl rfl, lwG_5 6 rfl rfl⟩⟩
theorem wm_19 : WM 19 := ⟨lwG_2 176 rfl rfl, lwG_1 2 rfl rfl, ⟨lwG_2 174 rfl rfl, lwG_2 175 rfl rfl⟩⟩
theorem wm_20 : WM 20 := ⟨lwG_2 207 rfl rfl, lwG_1 2 rfl rfl, ⟨lwG_2 205 rfl rfl, lwG_2 206 rfl rfl⟩⟩
theorem wm_21 : WM 21 := ⟨lwG_3 196 rfl rfl, lwG_1 2 rfl rfl, ⟨lwG_3 194 rfl rfl, lwG_3 195 rfl rfl⟩⟩
theorem wm_22 : WM 22 := ⟨lwG_3 110 rfl rfl, lwG_1 2 rfl rfl, ⟨lwG_3 108 rfl rfl, lwG_3 109 rfl rfl⟩⟩
theorem wm_23 : WM 23 := ⟨lwG_3 141 rfl rfl, lwG_1 2 rfl rfl, ⟨lwG_3 139 rfl rfl, lwG_3 140 rfl rfl⟩⟩
theorem wm_24 : WM 24 := ⟨lwG_3 144 rfl rfl, lwG_1 2 rfl rfl, lwG_3 143 rfl rfl⟩
theorem wm_25 : WM 25 := ⟨lwG_3 149 rfl rfl, lwG_1 2 rfl rfl, ⟨lwG_3 148 rfl rfl, lwG_s 12 rfl rfl⟩⟩
theorem wm_26 : WM 26 := ⟨lwG_3 153 rfl rfl, lwG_1 2 rfl rfl, ⟨lwG_3 152 rfl rfl, lwG_s 13 rfl rfl⟩⟩
theorem wm_27 : WM 27 := ⟨lwG_3 157 rfl rfl, lwG_1 2 rfl rfl, ⟨lwG_3 156 rfl rfl, lwG_s 14 rfl rfl⟩⟩
theorem wm_28 : WM 28 := ⟨lwG_3 161 rfl rfl, lwG_1 2 rfl rfl, ⟨lwG_3 160 rfl rfl, lwG_s 15 rfl rfl⟩⟩
theorem wm_29 : WM 29 := ⟨lwG_3 164 rfl rfl, lwG_1 2 rfl rfl, lwG_3 163 rfl rfl⟩
theorem wm_30 : WM 30 := ⟨lwG_2 220 rfl rfl, lwG_1 3 rfl rfl, ⟨lwG_2 218 rfl rfl, lwG_2 219 rfl rfl⟩⟩
theorem wm_31 : WM 31 := ⟨lwG_3 114 rfl rfl, lwG_1 3 rfl rfl, ⟨lwG_3 112 rfl rfl, lwG_3 113 rfl rfl⟩⟩
theorem wm_32 : WM 32 := ⟨lwG_3 119 rfl rfl, lwG_1 3 rfl rfl, ⟨lwG_3 117 rfl rfl, lwG_3 118 rfl rfl⟩⟩
theorem wm_33 : WM 33 := ⟨lwG_2 216 rfl rfl, lwG_1 3 rfl rfl, ⟨lwG_2 214 rfl rfl, lwG_2 215 rfl rfl⟩⟩
theorem wm_34 : WM 34 := ⟨lwG_3 123 rfl rfl, lwG_1 3 rfl rfl, ⟨lwG_3 121 rfl rfl, lwG_3 122 rfl rfl⟩⟩
theorem wm_35 : WM 35 := ⟨lwG_2 228 rfl rfl, lwG_1 3 rfl rfl, ⟨lwG_2 226 rfl rfl, lwG_2 227 rfl rfl⟩⟩
theorem wm_36 : WM 36 := ⟨lwG_2 232 rfl rfl, lwG_1 3 rfl rfl, ⟨lwG_2 231 rfl rfl, lwG_s 4 rfl rfl⟩⟩
theorem wm_37 : WM 37 := ⟨lwG_2 236 rfl rfl, lwG_1 3 rfl rfl, ⟨lwG_2 235 rfl rfl, lwG_s 5 rfl rfl⟩⟩
theorem wm_38 : WM 38 := ⟨lwG_3 0 rfl rfl, lwG_1 3 rfl rfl, ⟨lwG_2 239 rfl rfl, lwG_s 6 rfl rfl⟩⟩
theorem wm_39 : WM 39 := ⟨lwG_3 103 rfl rfl, lwG_1 3 rfl rfl, ⟨lwG_3 102 rfl rfl, lwG_s 10 rfl rfl⟩⟩
theorem wm_40 : WM 40 := ⟨lwG_3 8 rfl rfl, lwG_1 3 rfl rfl, ⟨lwG_3 7 rfl rfl, lwG_s 8 rfl rfl⟩⟩
theorem wm_41 : WM 41 := ⟨lwG_3 4 rfl rfl, lwG_1 3 rfl rfl, ⟨lwG_3 3 rfl rfl, lwG_s 7 rfl rfl⟩⟩
theorem wm_42 : WM 42 := ⟨lwG_3 12 rfl rfl, lwG_1 3 rfl rfl, ⟨lwG_3 11 rfl rfl, lwG_s 9 rfl rfl⟩⟩
theorem wm_43 : WM 43 := ⟨lwG_3 106 rfl rfl, lwG_1 3 rfl rfl, lwG_3 105 rfl rfl⟩
theorem wm_44 : WM 44 := ⟨lwG_3 177 rfl rfl, lwG_1 5 rfl rfl, ⟨lwG_3 175 rfl rfl, lwG_3 176 rfl rfl⟩⟩
theorem wm_45 : WM 45 := ⟨lwG_3 182 rfl rfl, lwG_1 5 rfl rfl, ⟨lwG_3 180 rfl rfl, lwG_3 181 rfl rfl⟩⟩
theorem wm_46 : WM 46 := ⟨lwG_3 185 rfl rfl, lwG_1 5 rfl rfl, lwG_3 184 rfl rfl⟩
theorem wm_47 : WM 47 := ⟨lwG_3 190 rfl rfl, lwG_1 5 rfl rfl, lwG_3 189 rfl rfl⟩
theorem wm_48 : WM 48 := ⟨lwG_3 200 rfl rfl, lwG_1 5 rfl rfl, ⟨lwG_3 198 rfl rfl, lwG_3 199 rfl rfl⟩⟩
theorem wm_49 : WM 49 := ⟨lwG_4 20 rfl rfl, lwG_1 7 rfl rfl, ⟨lwG_4 18 rfl rfl, lwG_4 19 rfl rfl⟩⟩
theorem wm_50 : WM 50 := ⟨lwG_4 30 rfl rfl, lwG_1 7 rfl rfl, ⟨lwG_4 28 rfl rfl, lwG_4 29 rfl rfl⟩⟩
theorem wm_51 : WM 51 := ⟨lwG_4 67 rfl rfl, lwG_1 7 rfl rfl, ⟨lwG_4 65 rfl rfl, lwG_4 66 rfl rfl⟩⟩
theorem wm_52 : WM 52 := ⟨lwG_4 43 rfl rfl, lwG_1 7 rfl rfl, ⟨lwG_4 42 rfl rfl, lwG_s 20 rfl rfl⟩⟩
theorem wm_53 : WM 53 := ⟨lwG_4 47 rfl rfl, lwG_1 7 rfl rfl, ⟨lwG_4 46 rfl rfl, lwG_s 21 rfl rfl⟩⟩
theorem wm_54 : WM 54 := ⟨lwG_4 57 rfl rfl, lwG_1 7 rfl rfl, ⟨lwG_4 56 rfl rfl, lwG_s 23 rfl rfl⟩⟩
theorem wm_55 : WM 55 := ⟨lwG_4 34 rfl rfl, lwG_1 7 rfl rfl, ⟨lwG_4 32 rfl rfl, lwG_4 33 rfl rfl⟩⟩
theorem wm_56 : WM 56 := ⟨lwG_4 38 rfl rfl, lwG_1 7 rfl rfl, ⟨lwG_4 37 rfl rfl, lwG_s 19 rfl rfl⟩⟩
theorem wm_57 : WM 57 := ⟨lwG_4 53 rfl rfl, lwG_1 7 rfl rfl, ⟨lwG_4 52 rfl rfl, lwG_s 22 rfl rfl⟩⟩
theorem wm_58 : WM 58 := ⟨lwG_4 61 rfl rfl, lwG_1 7 rfl rfl, ⟨lwG_4 60 rfl rfl, lwG_s 24 rfl rfl⟩⟩
theorem wm_59 : WM 59 := ⟨lwG_4 75 rfl rfl, lwG_1 7 rfl rfl, ⟨lwG_4 73 rfl rfl, lwG_4 74 rfl rfl⟩⟩
theorem wm_60 : WM 60 := ⟨lwG_4 79 rfl rfl, lwG_1 7 rfl rfl, ⟨lwG_4 78 rfl rfl, lwG_s 25 rfl rfl⟩⟩
theorem wm_61 : WM 61 := ⟨lwG_4 83 rfl rfl, lwG_1 7 rfl rfl, ⟨lwG_4 82 rfl rfl, lwG_s 26 rfl rfl⟩⟩
theorem wm_62 : WM 62 := ⟨lwG_4 94 rfl rfl, lwG_1 7 rfl rfl, ⟨lwG_4 93 rfl rfl, lwG_s 27 rfl rfl⟩⟩
theorem wm_63 : WM 63 := ⟨lwG_4 102 rfl rfl, lwG_1 7 rfl rfl, ⟨lwG_4 100 rfl rfl, lwG_4 101 rfl rfl⟩⟩
theorem wm_64 : WM 64 := ⟨lwG_4 106 rfl rfl, lwG_1 7 rfl rfl, ⟨lwG_4 105 rfl rfl, lwG_s 28 rfl rfl⟩⟩
theorem wm_65 : WM 65 := ⟨lwG_4 167 rfl rfl, lwG_1 7 rfl rfl, ⟨lwG_4 165 rfl rfl, lwG_4 166 rfl rfl⟩⟩
theorem wm_66 : WM 66 := ⟨lwG_4 171 rfl rfl, lwG_1 7 rfl rfl, ⟨lwG_4 170 rfl rfl, lwG_s 32 rfl rfl⟩⟩
theorem wm_67 : WM 67 := ⟨lwG_5 107 rfl rfl, lwG_1 10 rfl rfl, ⟨lwG_5 105 rfl rfl, lwG_5 106 rfl rfl⟩⟩
theorem wm_68 : WM 68 := ⟨lwG_5 111 rfl rfl, lwG_1 10 rfl rfl, ⟨lwG_5 109 rfl rfl, lwG_5 110 rfl rfl⟩⟩
theorem wm_69 : WM 69 := ⟨lwG_5 115 rfl rfl, lwG_1 10 rfl rfl, ⟨lwG_5 113 rfl rfl, lwG_5 114 rfl rfl⟩⟩
theorem wm_70 : WM 70 := ⟨lwG_2 147 rfl rfl, lwG_1 10 rfl rfl, ⟨lwG_2 145 rfl rfl, lwG_2 146 rfl rfl⟩⟩
theorem wm_71 : WM 71 := ⟨lwG_5 129 rfl rfl, lwG_1 10 rfl rfl, ⟨lwG_5 127 rfl rfl, lwG_5 128 rfl rfl⟩⟩
theorem wm_72 : WM 72 := ⟨lwG_5 68 rfl rfl, lwG_1 10 rfl rfl, ⟨lwG_5 66 rfl rfl, lwG_5 67 rfl rfl⟩⟩
theorem wm_73 : WM 73 := ⟨lwG_5 76 rfl rfl, lwG_1 10 rfl rfl, ⟨lwG_5 74 rfl rfl, lwG_5 75 rfl rfl⟩⟩
theorem wm_74 : WM 74 := ⟨lwG_2 139 rfl rfl, lwG_1 10 rfl rfl, ⟨lwG_2 137 rfl rfl, lwG_2 138 rfl rfl⟩⟩
theorem wm_75 : WM 75 := ⟨lwG_5 87 rfl rfl, lwG_1 10 rfl rfl, ⟨lwG_5 85 rfl rfl, lwG_5 86 rfl rfl⟩⟩
theorem wm_76 : WM 76 := ⟨lwG_2 143 rfl rfl, lwG_1 10 rfl rfl, ⟨lwG_2 141 rfl rfl, lwG_2 142 rfl rfl⟩⟩
theorem wm_77 : WM 77 := ⟨lwG_2 151 rfl rfl, lwG_1 10 rfl rfl, ⟨lwG_2 149 rfl rfl, lwG_2 150 rfl rfl⟩⟩
theorem wm_78 : WM 78 := ⟨lwG_5 91 rfl rfl, lwG_1 10 rfl rfl, ⟨lwG_5 89 rfl rfl, lwG_5 90 rfl rfl⟩⟩
theorem wm_79 : WM 79 := ⟨lwG_5 95 rfl rfl, lwG_1 10 rfl rfl, ⟨lwG_5 94 rfl rfl, lwG_s 38 rfl rfl⟩⟩
theorem wm_80 : WM 80 := ⟨lwG_5 119 rfl rfl, lwG_1 10 rfl rfl, ⟨lwG_5 117 rfl rfl, lwG_5 118 rfl rfl⟩⟩
theorem wm_81 : WM 81 := ⟨lwG_3 216 rfl rfl, lwG_1 6 rfl rfl, ⟨lwG_3 215 rfl rfl, lwG_s 16 rfl rfl⟩⟩
theorem wm_82 : WM 82 := ⟨lwG_3 212 rfl rfl, lwG_1 6 rfl rfl, ⟨lwG_3 210 rfl rfl, lwG_3 211 rfl rfl⟩⟩
theorem wm_83 : WM 83 := ⟨lwG_3 231 rfl rfl, lwG_1 6 rfl rfl, ⟨lwG_3 230 rfl rfl, lwG_s 17 rfl rfl⟩⟩
theorem wm_84 : WM 84 := ⟨lwG_3 236 rfl rfl, lwG_1 6 rfl rfl, ⟨lwG_3 235 rfl rfl, lwG_s 18 rfl rfl⟩⟩
theorem wm_85 : WM 85 := ⟨lwG_4 182 rfl rfl, lwG_1 6 rfl rfl, ⟨lwG_4 180 rfl rfl, lwG_4 181 rfl rfl⟩⟩
theorem wm_86 : WM 86 := ⟨lwG_3 220 rfl rfl, lwG_1 4 rfl rfl, ⟨lwG_3 218 rfl rfl, lwG_3 219 rfl rfl⟩⟩
theorem wm_87 : WM 87 := ⟨lwG_2 106 rfl rfl, lwG_1 4 rfl rfl, ⟨lwG_2 104 rfl rfl, lwG_2 105 rfl rfl⟩⟩
theorem wm_88 : WM 88 := ⟨lwG_2 117 rfl rfl, lwG_1 4 rfl rfl, ⟨lwG_2 115 rfl rfl, lwG_2 116 rfl rfl⟩⟩
theorem wm_89 : WM 89 := ⟨lwG_2 167 rfl rfl, lwG_1 4 rfl rfl, ⟨lwG_2 165 rfl rfl, lwG_2 166 rfl rfl⟩⟩
theorem wm_90 : WM 90 := ⟨lwG_2 171 rfl rfl, lwG_1 4 rfl rfl, ⟨lwG_2 169 rfl rfl, lwG_2 170 rfl rfl⟩⟩
theorem wm_91 : WM 91 := ⟨lwG_2 186 rfl rfl, lwG_1 4 rfl rfl, ⟨lwG_2 184 rfl rfl, lwG_2 185 rfl rfl⟩⟩
theorem wm_92 : WM 92 := ⟨lwG_5 143 rfl rfl, lwG_1 4 rfl rfl, ⟨lwG_5 141 rfl rfl, lwG_5 142 rfl rfl⟩⟩
theorem wm_93 : WM 93 := ⟨lwG_2 126 rfl rfl, lwG_1 4 rfl rfl, ⟨lwG_2 124 rfl rfl, lwG_2 125 rfl rfl⟩⟩
theorem wm_94 : WM 94 := ⟨lwG_4 1 rfl rfl, lwG_1 4 rfl rfl, ⟨lwG_3 239 rfl rfl, lwG_4 0 rfl rfl⟩⟩
theorem wm_95 : WM 95 := ⟨lwG_2 202 rfl rfl, lwG_1 4 rfl rfl, ⟨lwG_2 200 rfl rfl, lwG_2 201 rfl rfl⟩⟩
theorem wm_96 : WM 96 := ⟨lwG_4 218 rfl rfl, lwG_1 4 rfl rfl, ⟨lwG_4 216 rfl rfl, lwG_4 217 rfl rfl⟩⟩
theorem wm_97 : WM 97 := ⟨lwG_4 197 rfl rfl, lwG_1 4 rfl rfl, ⟨lwG_4 195 rfl rfl, lwG_4 196 rfl rfl⟩⟩
theorem wm_98 : WM 98 := ⟨lwG_3 136 rfl rfl, lwG_1 4 rfl rfl, ⟨lwG_3 134 rfl rfl, lwG_3 135 rfl rfl⟩⟩
theorem wm_99 : WM 99 := ⟨lwG_3 173 rfl rfl, lwG_1 4 rfl rfl, ⟨lwG_3 171 rfl rfl, lwG_3 172 rfl rfl⟩⟩
theorem wm_100 : WM 100 := ⟨lwG_2 98 rfl rfl, lwG_1 1 rfl rfl, ⟨lwG_2 96 rfl rfl, lwG_2 97 rfl rfl⟩⟩
theorem wm_101 : WM 101 := ⟨lwG_2 102 rfl rfl, lwG_1 1 rfl rfl, ⟨lwG_2 100 rfl rfl, lwG_2 101 rfl rfl⟩⟩
theorem wm_102 : WM 102 := ⟨lwG_2 131 rfl rfl, lwG_1 1 rfl rfl, ⟨lwG_2 129 rfl rfl, lwG_2 130 rfl rfl⟩⟩
theorem wm_103 : WM 103 := ⟨lwG_2 159 rfl rfl, lwG_1 1 rfl rfl, ⟨lwG_2 157 rfl rfl, lwG_2 158 rfl rfl⟩⟩
theorem wm_104 : WM 104 := ⟨lwG_2 163 rfl rfl, lwG_1 1 rfl rfl, ⟨lwG_2 161 rfl rfl, lwG_2 162 rfl rfl⟩⟩
theorem wm_105 : WM 105 := ⟨lwG_2 212 rfl rfl, lwG_1 1 rfl rfl, ⟨lwG_2 210 rfl rfl, lwG_2 211 rfl rfl⟩⟩
theorem wm_106 : WM 106 := ⟨lwG_2 224 rfl rfl, lwG_1 1 rfl rfl, ⟨lwG_2 222 rfl rfl, lwG_2 223 rfl rfl⟩⟩
theorem wm_107 : WM 107 := ⟨lwG_3 128 rfl rfl, lwG_1 1 rfl rfl, ⟨lwG_3 126 rfl rfl, lwG_3 127 rfl rfl⟩⟩
theorem wm_108 : WM 108 := ⟨lwG_3 168 rfl rfl, lwG_1 1 rfl rfl, ⟨lwG_3 166 rfl rfl, lwG_3 167 rfl rfl⟩⟩
theorem wm_109 : WM 109 := ⟨lwG_3 208 rfl rfl, lwG_1 1 rfl rfl, ⟨lwG_3 206 rfl rfl, lwG_3 207 rfl rfl⟩⟩
theorem wm_110 : WM 110 := ⟨lwG_4 8 rfl rfl, lwG_1 1 rfl rfl, ⟨lwG_4 6 rfl rfl, lwG_4 7 rfl rfl⟩⟩
theorem wm_111 : WM 111 := ⟨lwG_4 12 rfl rfl, lwG_1 1 rfl rfl, ⟨lwG_4 10 rfl rfl, lwG_4 11 rfl rfl⟩⟩
theorem wm_112 : WM 112 := ⟨lwG_4 71 rfl rfl, lwG_1 1 rfl rfl, ⟨lwG_4 69 rfl rfl, lwG_4 70 rfl rfl⟩⟩
theorem wm_113 : WM 113 := ⟨lwG_4 98 rfl rfl, lwG_1 1 rfl rfl, ⟨lwG_4 96 rfl rfl, lwG_4 97 rfl rfl⟩⟩
theorem wm_114 : WM 114 := ⟨lwG_4 110 rfl rfl, lwG_1 1 rfl rfl, ⟨lwG_4 108 rfl rfl, lwG_4 109 rfl rfl⟩⟩
theorem wm_115 : WM 115 := ⟨lwG_4 122 rfl rfl, lwG_1 1 rfl rfl, ⟨lwG_4 120 rfl rfl, lwG_4 121 rfl rfl⟩⟩
theorem wm_116 : WM 116 := ⟨lwG_4 126 rfl rfl, lwG_1 1 rfl rfl, ⟨lwG_4 124 rfl rfl, lwG_4 125 rfl rfl⟩⟩
theorem wm_117 : WM 117 := ⟨lwG_4 130 rfl rfl, lwG_1 1 rfl rfl, ⟨lwG_4 128 rfl rfl, lwG_4 129 rfl rfl⟩⟩
theorem wm_118 : WM 118 := ⟨lwG_4 152 rfl rfl, lwG_1 1 rfl rfl, ⟨lwG_4 150 rfl rfl, lwG_4 151 rfl rfl⟩⟩
theorem wm_119 : WM 119 := ⟨lwG_4 159 rfl rfl, lwG_1 1 rfl rfl, ⟨lwG_4 157 rfl rfl, lwG_4 158 rfl rfl⟩⟩
theorem wm_120 : WM 120 := ⟨lwG_4 163 rfl rfl, lwG_1 1 rfl rfl, ⟨lwG_4 161 rfl rfl, lwG_4 162 rfl rfl⟩⟩
theorem wm_121 : WM 121 := ⟨lwG_4 178 rfl rfl, lwG_1 1 rfl rfl, ⟨lwG_4 176 rfl rfl, lwG_4 177 rfl rfl⟩⟩
theorem wm_122 : WM 122 := ⟨lwG_4 188 rfl rfl, lwG_1 1 rfl rfl, ⟨lwG_4 186 rfl rfl, lwG_4 187 rfl rfl⟩⟩
theorem wm_123 : WM 123 := ⟨lwG_4 193 rfl rfl, lwG_1 1 rfl rfl, ⟨lwG_4 191 rfl rfl, lwG_4 192 rfl rfl⟩⟩
theorem wm_124 : WM 124 := ⟨lwG_4 202 rfl rfl, lwG_1 1 rfl rfl, ⟨lwG_4 200 rfl rfl, lwG_4 201 rfl rfl⟩⟩
theorem wm_125 : WM 125 := ⟨lwG_4 206 rfl rfl, lwG_1 1 rfl rfl, ⟨lwG_4 204 rfl rfl, lwG_4 205 rfl rfl⟩⟩
theorem wm_126 : WM 126 := ⟨lwG_4 214 rfl rfl, lwG_1 1 rfl rfl, ⟨lwG_4 212 rfl rfl, lwG_4 213 rfl rfl⟩⟩
theorem wm_127 : WM 127 := ⟨lwG_4 222 rfl rfl, lwG_1 1 rfl rfl, ⟨lwG_4 220 rfl rfl, lwG_4 221 rfl rfl⟩⟩
theorem wm_128 : WM 128 := ⟨lwG_4 239 rfl rfl, lwG_1 1 rfl rfl, ⟨lwG_4 237 rfl rfl, lwG_4 238 rfl rfl⟩⟩
theorem wm_129 : WM 129 := ⟨lwG_5 12 rfl rfl, lwG_1 1 rfl rfl, ⟨lwG_5 10 rfl rfl, lwG_5 11 rfl rfl⟩⟩
theorem wm_130 : WM 130 := ⟨lwG_5 20 rfl rfl, lwG_1 1 rfl rfl, ⟨lwG_5 18 rfl rfl, lwG_5 19 rfl rfl⟩⟩
theorem wm_131 : WM 131 := ⟨lwG_5 52 rfl rfl, lwG_1 1 rfl rfl, ⟨lwG_5 50 rfl rfl, lwG_5 51 rfl rfl⟩⟩
theorem wm_132 : WM 132 := ⟨lwG_5 60 rfl rfl, lwG_1 1 rfl rfl, ⟨lwG_5 58 rfl rfl, lwG_5 59 rfl rfl⟩⟩
theorem wm_133 : WM 133 := ⟨lwG_5 72 rfl rfl, lwG_1 1 rfl rfl, ⟨lwG_5 70 rfl rfl, lwG_5 71 rfl rfl⟩⟩
theorem wm_134 : WM 134 := ⟨lwG_5 83 rfl rfl, lwG_1 1 rfl rfl, ⟨lwG_5 81 rfl rfl, lwG_5 82 rfl rfl⟩⟩
theorem wm_135 : WM 135 := ⟨lwG_5 99 rfl rfl, lwG_1 1 rfl rfl, ⟨lwG_5 97 rfl rfl, lwG_5 98 rfl rfl⟩⟩
theorem wm_136 : WM 136 := ⟨lwG_5 103 rfl rfl, lwG_1 1 rfl rfl, ⟨lwG_5 101 rfl rfl, lwG_5 102 rfl rfl⟩⟩
theorem wm_137 : WM 137 := ⟨lwG_5 125 rfl rfl, lwG_1 1 rfl rfl, ⟨lwG_5 123 rfl rfl, lwG_5 124 rfl rfl⟩⟩
theorem wm_138 : WM 138 := ⟨lwG_5 139 rfl rfl, lwG_1 1 rfl rfl, ⟨lwG_5 137 rfl rfl, lwG_5 138 rfl rfl⟩⟩
theorem wm_139 : WM 139 := ⟨lwG_2 135 rfl rfl, lwG_1 1 rfl rfl, ⟨lwG_2 134 rfl rfl, lwG_s 1 rfl rfl⟩⟩
theorem wm_140 : WM 140 := ⟨lwG_3 132 rfl rfl, lwG_1 1 rfl rfl, ⟨lwG_3 131 rfl rfl, lwG_s 11 rfl rfl⟩⟩
theorem wm_141 : WM 141 := ⟨lwG_2 109 rfl rfl, lwG_1 1 rfl rfl, lwG_2 108 rfl rfl⟩
theorem wm_142 : WM 142 := ⟨lwG_2 154 rfl rfl, lwG_1 1 rfl rfl, lwG_2 153 rfl rfl⟩
theorem wm_143 : WM 143 := ⟨lwG_2 122 rfl rfl, lwG_1 1 rfl rfl, ⟨lwG_2 121 rfl rfl, lwG_s 0 rfl rfl⟩⟩
theorem wm_144 : WM 144 := ⟨lwG_4 15 rfl rfl, lwG_1 1 rfl rfl, lwG_4 14 rfl rfl⟩
theorem wm_145 : WM 145 := ⟨lwG_2 179 rfl rfl, lwG_1 1 rfl rfl, lwG_2 178 rfl rfl⟩
theorem wm_146 : WM 146 := ⟨lwG_2 182 rfl rfl, lwG_1 1 rfl rfl, lwG_2 181 rfl rfl⟩
theorem wm_147 : WM 147 := ⟨lwG_2 198 rfl rfl, lwG_1 1 rfl rfl, ⟨lwG_2 197 rfl rfl, lwG_s 3 rfl rfl⟩⟩
theorem wm_148 : WM 148 := ⟨lwG_4 210 rfl rfl, lwG_1 1 rfl rfl, lwG_4 209 rfl rfl⟩
theorem wm_149 : WM 149 := ⟨lwG_4 138 rfl rfl, lwG_1 1 rfl rfl, ⟨lwG_4 137 rfl rfl, lwG_s 30 rfl rfl⟩⟩
theorem wm_150 : WM 150 := ⟨lwG_4 143 rfl rfl, lwG_1 1 rfl rfl, ⟨lwG_4 142 rfl rfl, lwG_s 31 rfl rfl⟩⟩
theorem wm_151 : WM 151 := ⟨lwG_4 148 rfl rfl, lwG_1 1 rfl rfl, lwG_4 147 rfl rfl⟩
theorem wm_152 : WM 152 := ⟨lwG_4 134 rfl rfl, lwG_1 1 rfl rfl, ⟨lwG_4 133 rfl rfl, lwG_s 29 rfl rfl⟩⟩
theorem wm_153 : WM 153 := ⟨lwG_4 155 rfl rfl, lwG_1 1 rfl rfl, lwG_4 154 rfl rfl⟩
theorem wm_154 : WM 154 := ⟨lwG_4 115 rfl rfl, lwG_1 1 rfl rfl, lwG_4 114 rfl rfl⟩
theorem wm_155 : WM 155 := ⟨lwG_4 118 rfl rfl, lwG_1 1 rfl rfl, lwG_4 117 rfl rfl⟩
theorem wm_156 : WM 156 := ⟨lwG_6 127 rfl rfl, lwG_1 11 rfl rfl, lwG_6 126 rfl rfl⟩
theorem wm_157 : WM 157 := ⟨lwG_7 105 rfl rfl, lwG_1 11 rfl rfl, lwG_7 104 rfl rfl⟩
theorem wm_158 : WM 158 := ⟨lwG_7 131 rfl rfl, lwG_1 11 rfl rfl, lwG_7 130 rfl rfl⟩
theorem wm_159 : WM 159 := ⟨lwG_6 124 rfl rfl, lwG_1 11 rfl rfl, ⟨lwG_6 123 rfl rfl, lwG_s 39 rfl rfl⟩⟩
theorem wm_160 : WM 160 := ⟨lwG_6 169 rfl rfl, lwG_1 11 rfl rfl, ⟨lwG_6 168 rfl rfl, lwG_s 43 rfl rfl⟩⟩
theorem wm_161 : WM 161 := ⟨lwG_6 153 rfl rfl, lwG_1 11 rfl rfl, lwG_6 152 rfl rfl⟩
theorem wm_162 : WM 162 := ⟨lwG_6 116 rfl rfl, lwG_1 11 rfl rfl, ⟨lwG_6 114 rfl rfl, lwG_6 115 rfl rfl⟩⟩
theorem wm_163 : WM 163 := ⟨lwG_6 130 rfl rfl, lwG_1 11 rfl rfl, lwG_6 129 rfl rfl⟩
theorem wm_164 : WM 164 := ⟨lwG_6 134 rfl rfl, lwG_1 11 rfl rfl, ⟨lwG_6 133 rfl rfl, lwG_s 40 rfl rfl⟩⟩
theorem wm_165 : WM 165 := ⟨lwG_6 120 rfl rfl, lwG_1 11 rfl rfl, ⟨lwG_6 118 rfl rfl, lwG_6 119 rfl rfl⟩⟩
theorem wm_166 : WM 166 := ⟨lwG_6 138 rfl rfl, lwG_1 11 rfl rfl, ⟨lwG_6 136 rfl rfl, lwG_6 137 rfl rfl⟩⟩
theorem wm_167 : WM 167 := ⟨lwG_6 180 rfl rfl, lwG_1 11 rfl rfl, ⟨lwG_6 179 rfl rfl, lwG_s 45 rfl rfl⟩⟩
theorem wm_168 : WM 168 := ⟨lwG_6 150 rfl rfl, lwG_1 11 rfl rfl, ⟨lwG_6 149 rfl rfl, lwG_s 41 rfl rfl⟩⟩
theorem wm_169 : WM 169 := ⟨lwG_6 176 rfl rfl, lwG_1 11 rfl rfl, ⟨lwG_6 175 rfl rfl, lwG_s 44 rfl rfl⟩⟩
theorem wm_170 : WM 170 := ⟨lwG_6 146 rfl rfl, lwG_1 11 rfl rfl, ⟨lwG_6 144 rfl rfl, lwG_6 145 rfl rfl⟩⟩
theorem wm_171 : WM 171 := ⟨lwG_6 157 rfl rfl, lwG_1 11 rfl rfl, ⟨lwG_6 155 rfl rfl, lwG_6 156 rfl rfl⟩⟩
theorem wm_172 : WM 172 := ⟨lwG_7 199 rfl rfl, lwG_1 11 rfl rfl, ⟨lwG_7 198 rfl rfl, lwG_s 81 rfl rfl⟩⟩
theorem wm_173 : WM 173 := ⟨lwG_7 219 rfl rfl, lwG_1 11 rfl rfl, ⟨lwG_7 218 rfl rfl, lwG_s 82 rfl rfl⟩⟩
theorem wm_174 : WM 174 := ⟨lwG_6 165 rfl rfl, lwG_1 11 rfl rfl, ⟨lwG_6 164 rfl rfl, lwG_s 42 rfl rfl⟩⟩
theorem wm_175 : WM 175 := ⟨lwG_6 172 rfl rfl, lwG_1 11 rfl rfl, lwG_6 171 rfl rfl⟩
theorem wm_176 : WM 176 := ⟨lwG_6 161 rfl rfl, lwG_1 11 rfl rfl, ⟨lwG_6 159 rfl rfl, lwG_6 160 rfl rfl⟩⟩
theorem wm_177 : WM 177 := ⟨lwG_6 184 rfl rfl, lwG_1 11 rfl rfl, ⟨lwG_6 182 rfl rfl, lwG_6 183 rfl rfl⟩⟩
theorem wm_178 : WM 178 := ⟨lwG_6 188 rfl rfl, lwG_1 11 rfl rfl, ⟨lwG_6 186 rfl rfl, lwG_6 187 rfl rfl⟩⟩
theorem wm_179 : WM 179 := ⟨lwG_6 228 rfl rfl, lwG_1 11 rfl rfl, ⟨lwG_6 227 rfl rfl, lwG_s 54 rfl rfl⟩⟩
theorem wm_180 : WM 180 := ⟨lwG_7 3 rfl rfl, lwG_1 11 rfl rfl, ⟨lwG_7 2 rfl rfl, lwG_s 57 rfl rfl⟩⟩
theorem wm_181 : WM 181 := ⟨lwG_6 235 rfl rfl, lwG_1 11 rfl rfl, ⟨lwG_6 234 rfl rfl, lwG_s 55 rfl rfl⟩⟩
theorem wm_182 : WM 182 := ⟨lwG_6 231 rfl rfl, lwG_1 11 rfl rfl, lwG_6 230 rfl rfl⟩
theorem wm_183 : WM 183 := ⟨lwG_6 239 rfl rfl, lwG_1 11 rfl rfl, ⟨lwG_6 238 rfl rfl, lwG_s 56 rfl rfl⟩⟩
theorem wm_184 : WM 184 := ⟨lwG_7 7 rfl rfl, lwG_1 11 rfl rfl, ⟨lwG_7 6 rfl rfl, lwG_s 58 rfl rfl⟩⟩
theorem wm_185 : WM 185 := ⟨lwG_6 224 rfl rfl, lwG_1 11 rfl rfl, ⟨lwG_6 223 rfl rfl, lwG_s 53 rfl rfl⟩⟩
theorem wm_186 : WM 186 := ⟨lwG_6 220 rfl rfl, lwG_1 11 rfl rfl, ⟨lwG_6 219 rfl rfl, lwG_s 52 rfl rfl⟩⟩
theorem wm_187 : WM 187 := ⟨lwG_6 216 rfl rfl, lwG_1 11 rfl rfl, ⟨lwG_6 215 rfl rfl, lwG_s 51 rfl rfl⟩⟩
theorem wm_188 : WM 188 := ⟨lwG_6 212 rfl rfl, lwG_1 11 rfl rfl, ⟨lwG_6 211 rfl rfl, lwG_s 50 rfl rfl⟩⟩
theorem wm_189 : WM 189 := ⟨lwG_6 208 rfl rfl, lwG_1 11 rfl rfl, ⟨lwG_6 207 rfl rfl, lwG_s 49 rfl rfl⟩⟩
theorem wm_190 : WM 190 := ⟨lwG_6 204 rfl rfl, lwG_1 11 rfl rfl, ⟨lwG_6 203 rfl rfl, lwG_s 48 rfl rfl⟩⟩
theorem wm_191 : WM 191 := ⟨lwG_6 200 rfl rfl, lwG_1 11 rfl rfl, ⟨lwG_6 199 rfl rfl, lwG_s 47 rfl rfl⟩⟩
theorem wm_192 : WM 192 := ⟨lwG_6 196 rfl rfl, lwG_1 11 rfl rfl, ⟨lwG_6 195 rfl rfl, lwG_s 46 rfl rfl⟩⟩
theorem wm_193 : WM 193 := ⟨lwG_7 34 rfl rfl, lwG_1 11 rfl rfl, lwG_7 33 rfl rfl⟩
theorem wm_194 : WM 194 := ⟨lwG_7 31 rfl rfl, lwG_1 11 rfl rfl, ⟨lwG_7 30 rfl rfl, lwG_s 63 rfl rfl⟩⟩
theorem wm_195 : WM 195 := ⟨lwG_7 27 rfl rfl, lwG_1 11 rfl rfl, ⟨lwG_7 26 rfl rfl, lwG_s 62 rfl rfl⟩⟩
theorem wm_196 : WM 196 := ⟨lwG_6 192 rfl rfl, lwG_1 11 rfl rfl, ⟨lwG_6 190 rfl rfl, lwG_6 191 rfl rfl⟩⟩
theorem wm_197 : WM 197 := ⟨lwG_7 23 rfl rfl, lwG_1 11 rfl rfl, ⟨lwG_7 22 rfl rfl, lwG_s 61 rfl rfl⟩⟩
theorem wm_198 : WM 198 := ⟨lwG_7 15 rfl rfl, lwG_1 11 rfl rfl, ⟨lwG_7 14 rfl rfl, lwG_s 59 rfl rfl⟩⟩
theorem wm_199 : WM 199 := ⟨lwG_7 19 rfl rfl, lwG_1 11 rfl rfl, ⟨lwG_7 18 rfl rfl, lwG_s 60 rfl rfl⟩⟩
theorem wm_200 : WM 200 := ⟨lwG_7 46 rfl rfl, lwG_1 11 rfl rfl, lwG_7 45 rfl rfl⟩
theorem wm_201 : WM 201 := ⟨lwG_7 53 rfl rfl, lwG_1 11 rfl rfl, lwG_7 52 rfl rfl⟩
theorem wm_202 : WM 202 := ⟨lwG_7 43 rfl rfl, lwG_1 11 rfl rfl, ⟨lwG_7 42 rfl rfl, lwG_s 64 rfl rfl⟩⟩
theorem wm_203 : WM 203 := ⟨lwG_7 50 rfl rfl, lwG_1 11 rfl rfl, ⟨lwG_7 49 rfl rfl, lwG_s 65 rfl rfl⟩⟩
theorem wm_204 : WM 204 := ⟨lwG_7 64 rfl rfl, lwG_1 11 rfl rfl, lwG_7 63 rfl rfl⟩
theorem wm_205 : WM 205 := ⟨lwG_7 61 rfl rfl, lwG_1 11 rfl rfl, ⟨lwG_7 60 rfl rfl, lwG_s 67 rfl rfl⟩⟩
theorem wm_206 : WM 206 := ⟨lwG_7 57 rfl rfl, lwG_1 11 rfl rfl, ⟨lwG_7 56 rfl rfl, lwG_s 66 rfl rfl⟩⟩
theorem wm_207 : WM 207 := ⟨lwG_7 87 rfl rfl, lwG_1 11 rfl rfl, ⟨lwG_7 86 rfl rfl, lwG_s 71 rfl rfl⟩⟩
theorem wm_208 : WM 208 := ⟨lwG_7 109 rfl rfl, lwG_1 11 rfl rfl, ⟨lwG_7 108 rfl rfl, lwG_s 73 rfl rfl⟩⟩
theorem wm_209 : WM 209 := ⟨lwG_7 11 rfl rfl, lwG_1 11 rfl rfl, ⟨lwG_7 9 rfl rfl, lwG_7 10 rfl rfl⟩⟩
theorem wm_210 : WM 210 := ⟨lwG_7 38 rfl rfl, lwG_1 11 rfl rfl, ⟨lwG_7 36 rfl rfl, lwG_7 37 rfl rfl⟩⟩
theorem wm_211 : WM 211 := ⟨lwG_7 75 rfl rfl, lwG_1 11 rfl rfl, ⟨lwG_7 74 rfl rfl, lwG_s 68 rfl rfl⟩⟩
theorem wm_212 : WM 212 := ⟨lwG_7 83 rfl rfl, lwG_1 11 rfl rfl, ⟨lwG_7 82 rfl rfl, lwG_s 70 rfl rfl⟩⟩
theorem wm_213 : WM 213 := ⟨lwG_7 79 rfl rfl, lwG_1 11 rfl rfl, ⟨lwG_7 78 rfl rfl, lwG_s 69 rfl rfl⟩⟩
theorem wm_214 : WM 214 := ⟨lwG_7 71 rfl rfl, lwG_1 11 rfl rfl, lwG_7 70 rfl rfl⟩
theorem wm_215 : WM 215 := ⟨lwG_7 68 rfl rfl, lwG_1 11 rfl rfl, ⟨lwG_7 66 rfl rfl, lwG_7 67 rfl rfl⟩⟩
theorem wm_216 : WM 216 := ⟨lwG_7 91 rfl rfl, lwG_1 11 rfl rfl, ⟨lwG_7 89 rfl rfl, lwG_7 90 rfl rfl⟩⟩
theorem wm_217 : WM 217 := ⟨lwG_7 98 rfl rfl, lwG_1 11 rfl rfl, lwG_7 97 rfl rfl⟩
theorem wm_218 : WM 218 := ⟨lwG_7 102 rfl rfl, lwG_1 11 rfl rfl, ⟨lwG_7 101 rfl rfl, lwG_s 72 rfl rfl⟩⟩
theorem wm_219 : WM 219 := ⟨lwG_7 95 rfl rfl, lwG_1 11 rfl rfl, ⟨lwG_7 93 rfl rfl, lwG_7 94 rfl rfl⟩⟩
theorem wm_220 : WM 220 := ⟨lwG_7 128 rfl rfl, lwG_1 11 rfl rfl, lwG_7 127 rfl rfl⟩
theorem wm_221 : WM 221 := ⟨lwG_7 125 rfl rfl, lwG_1 11 rfl rfl, ⟨lwG_7 124 rfl rfl, lwG_s 76 rfl rfl⟩⟩
theorem wm_222 : WM 222 := ⟨lwG_7 121 rfl rfl, lwG_1 11 rfl rfl, ⟨lwG_7 120 rfl rfl, lwG_s 75 rfl rfl⟩⟩
theorem wm_223 : WM 223 := ⟨lwG_7 135 rfl rfl, lwG_1 11 rfl rfl, ⟨lwG_7 134 rfl rfl, lwG_s 77 rfl rfl⟩⟩
theorem wm_224 : WM 224 := ⟨lwG_7 117 rfl rfl, lwG_1 11 rfl rfl, ⟨lwG_7 116 rfl rfl, lwG_s 74 rfl rfl⟩⟩
theorem wm_225 : WM 225 := ⟨lwG_7 113 rfl rfl, lwG_1 11 rfl rfl, ⟨lwG_7 111 rfl rfl, lwG_7 112 rfl rfl⟩⟩
theorem wm_226 : WM 226 := ⟨lwG_7 143 rfl rfl, lwG_1 11 rfl rfl, ⟨lwG_7 142 rfl rfl, lwG_s 78 rfl rfl⟩⟩
theorem wm_227 : WM 227 := ⟨lwG_7 139 rfl rfl, lwG_1 11 rfl rfl, ⟨lwG_7 137 rfl rfl, lwG_7 138 rfl rfl⟩⟩
theorem wm_228 : WM 228 := ⟨lwG_7 154 rfl rfl, lwG_1 11 rfl rfl, lwG_7 153 rfl rfl⟩
theorem wm_229 : WM 229 := ⟨lwG_7 151 rfl rfl, lwG_1 11 rfl rfl, lwG_7 150 rfl rfl⟩
theorem wm_230 : WM 230 := ⟨lwG_7 147 rfl rfl, lwG_1 11 rfl rfl, ⟨lwG_7 145 rfl rfl, lwG_7 146 rfl rfl⟩⟩
theorem wm_231 : WM 231 := ⟨lwG_7 158 rfl rfl, lwG_1 11 rfl rfl, ⟨lwG_7 156 rfl rfl, lwG_7 157 rfl rfl⟩⟩
theorem wm_232 : WM 232 := ⟨lwG_7 162 rfl rfl, lwG_1 11 rfl rfl, ⟨lwG_7 160 rfl rfl, lwG_7 161 rfl rfl⟩⟩
theorem wm_233 : WM 233 := ⟨lwG_7 166 rfl rfl, lwG_1 11 rfl rfl, ⟨lwG_7 164 rfl rfl, lwG_7 165 rfl rfl⟩⟩
theorem wm_234 : WM 234 := ⟨lwG_7 170 rfl rfl, lwG_1 11 rfl rfl, ⟨lwG_7 168 rfl rfl, lwG_7 169 rfl rfl⟩⟩
theorem wm_235 : WM 235 := ⟨lwG_7 174 rfl rfl, lwG_1 11 rfl rfl, ⟨lwG_7 172 rfl rfl, lwG_7 173 rfl rfl⟩⟩
theorem wm_236 : WM 236 := ⟨lwG_7 186 rfl rfl, lwG_1 11 rfl rfl, ⟨lwG_7 185 rfl rfl, lwG_s 80 rfl rfl⟩⟩
theorem wm_237 : WM 237 := ⟨lwG_7 182 rfl rfl, lwG_1 11 rfl rfl, ⟨lwG_7 181 rfl rfl, lwG_s 79 rfl rfl⟩⟩
theorem wm_238 : WM 238 := ⟨lwG_7 178 rfl rfl, lwG_1 11 rfl rfl, ⟨lwG_7 176 rfl rfl, lwG_7 177 rfl rfl⟩⟩
theorem wm_239 : WM 239 := ⟨lwG_7 190 rfl rfl, lwG_1 11 rfl rfl, ⟨lwG_7 188 rfl rfl, lwG_7 189 rfl rfl⟩⟩
theorem wm_240 : WM 240 := ⟨lwG_7 195 rfl rfl, lwG_1 11 rfl rfl, ⟨lwG_7 193 rfl rfl, lwG_7 194 rfl rfl⟩⟩
theorem wm_241 : WM 241 := ⟨lwG_7 203 rfl rfl, lwG_1 11 rfl rfl, ⟨lwG_7 201 rfl rfl, lwG_7 202 rfl rfl⟩⟩
theorem wm_242 : WM 242 := ⟨lwG_7 207 rfl rfl, lwG_1 11 rfl rfl, ⟨lwG_7 205 rfl rfl, lwG_7 206 rfl rfl⟩⟩
theorem wm_243 : WM 243 := ⟨lwG_7 211 rfl rfl, lwG_1 11 rfl rfl, ⟨lwG_7 209 rfl rfl, lwG_7 210 rfl rfl⟩⟩
theorem wm_244 : WM 244 := ⟨lwG_7 215 rfl rfl, lwG_1 11 rfl rfl, ⟨lwG_7 213 rfl rfl, lwG_7 214 rfl rfl⟩⟩
theorem wm_245 : WM 245 := ⟨lwG_7 235 rfl rfl, lwG_1 11 rfl rfl, ⟨lwG_7 234 rfl rfl, lwG_s 83 rfl rfl⟩⟩
theorem wm_246 : WM 246 := ⟨lwG_8 6 rfl rfl, lwG_1 11 rfl rfl, ⟨lwG_8 5 rfl rfl, lwG_s 85 rfl rfl⟩⟩
theorem wm_247 : WM 247 := ⟨lwG_7 223 rfl rfl, lwG_1 11 rfl rfl, ⟨lwG_7 221 rfl rfl, lwG_7 222 rfl rfl⟩⟩
theorem wm_248 : WM 248 := ⟨lwG_7 227 rfl rfl, lwG_1 11 rfl rfl, ⟨lwG_7 225 rfl rfl, lwG_7 226 rfl rfl⟩⟩
theorem wm_249 : WM 249 := ⟨lwG_8 2 rfl rfl, lwG_1 11 rfl rfl, lwG_8 1 rfl rfl⟩
theorem wm_250 : WM 250 := ⟨lwG_8 10 rfl rfl, lwG_1 11 rfl rfl, ⟨lwG_8 9 rfl rfl, lwG_s 86 rfl rfl⟩⟩
theorem wm_251 : WM 251 := ⟨lwG_8 14 rfl rfl, lwG_1 11 rfl rfl, ⟨lwG_8 13 rfl rfl, lwG_s 87 rfl rfl⟩⟩
theorem wm_252 : WM 252 := ⟨lwG_7 239 rfl rfl, lwG_1 11 rfl rfl, ⟨lwG_7 238 rfl rfl, lwG_s 84 rfl rfl⟩⟩
theorem wm_253 : WM 253 := ⟨lwG_8 26 rfl rfl, lwG_1 11 rfl rfl, ⟨lwG_8 25 rfl rfl, lwG_s 90 rfl rfl⟩⟩
theorem wm_254 : WM 254 := ⟨lwG_8 22 rfl rfl, lwG_1 11 rfl rfl, ⟨lwG_8 21 rfl rfl, lwG_s 89 rfl rfl⟩⟩
theorem wm_255 : WM 255 := ⟨lwG_8 18 rfl rfl, lwG_1 11 rfl rfl, ⟨lwG_8 17 rfl rfl, lwG_s 88 rfl rfl⟩⟩
theorem wm_256 : WM 256 := ⟨lwG_8 38 rfl rfl, lwG_1 11 rfl rfl, ⟨lwG_8 37 rfl rfl, lwG_s 93 rfl rfl⟩⟩
theorem wm_257 : WM 257 := ⟨lwG_8 34 rfl rfl, lwG_1 11 rfl rfl, ⟨lwG_8 33 rfl rfl, lwG_s 92 rfl rfl⟩⟩
theorem wm_258 : WM 258 := ⟨lwG_8 30 rfl rfl, lwG_1 11 rfl rfl, ⟨lwG_8 29 rfl rfl, lwG_s 91 rfl rfl⟩⟩
theorem wm_259 : WM 259 := ⟨lwG_8 46 rfl rfl, lwG_1 11 rfl rfl, ⟨lwG_8 45 rfl rfl, lwG_s 95 rfl rfl⟩⟩
theorem wm_260 : WM 260 := ⟨lwG_8 42 rfl rfl, lwG_1 11 rfl rfl, ⟨lwG_8 41 rfl rfl, lwG_s 94 rfl rfl⟩⟩
theorem wm_261 : WM 261 := ⟨lwG_7 231 rfl rfl, lwG_1 11 rfl rfl, ⟨lwG_7 229 rfl rfl, lwG_7 230 rfl rfl⟩⟩
theorem wm_262 : WM 262 := ⟨lwG_8 54 rfl rfl, lwG_1 11 rfl rfl, ⟨lwG_8 53 rfl rfl, lwG_s 96 rfl rfl⟩⟩
theorem wm_263 : WM 263 := ⟨lwG_8 50 rfl rfl, lwG_1 11 rfl rfl, ⟨lwG_8 48 rfl rfl, lwG_8 49 rfl rfl⟩⟩
theorem wm_264 : WM 264 := ⟨lwG_6 141 rfl rfl, lwG_1 11 rfl rfl, lwG_6 140 rfl rfl⟩
theorem wm_265 : WM 265 := ⟨lwG_8 58 rfl rfl, lwG_1 11 rfl rfl, ⟨lwG_8 56 rfl rfl, lwG_8 57 rfl rfl⟩⟩
theorem wm_266 : WM 266 := ⟨lwG_8 62 rfl rfl, lwG_1 11 rfl rfl, ⟨lwG_8 60 rfl rfl, lwG_8 61 rfl rfl⟩⟩
theorem wm_267 : WM 267 := ⟨lwG_8 70 rfl rfl, lwG_1 11 rfl rfl, ⟨lwG_8 69 rfl rfl, lwG_s 97 rfl rfl⟩⟩
theorem wm_268 : WM 268 := ⟨lwG_8 66 rfl rfl, lwG_1 11 rfl rfl, ⟨lwG_8 64 rfl rfl, lwG_8 65 rfl rfl⟩⟩
theorem wm_269 : WM 269 := ⟨lwG_8 74 rfl rfl, lwG_1 11 rfl rfl, ⟨lwG_8 72 rfl rfl, lwG_8 73 rfl rfl⟩⟩
theorem wm_270 : WM 270 := ⟨lwG_8 78 rfl rfl, lwG_1 11 rfl rfl, ⟨lwG_8 76 rfl rfl, lwG_8 77 rfl rfl⟩⟩
theorem wm_271 : WM 271 := ⟨lwG_8 82 rfl rfl, lwG_1 11 rfl rfl, ⟨lwG_8 80 rfl rfl, lwG_8 81 rfl rfl⟩⟩
theorem wm_272 : WM 272 := ⟨lwG_4 86 rfl rfl, lwG_1 20 rfl rfl, lwG_4 85 rfl rfl⟩
theorem wm_273 : WM 273 := ⟨lwG_3 31 rfl rfl, lwG_1 12 rfl rfl, ⟨lwG_3 29 rfl rfl, lwG_3 30 rfl rfl⟩⟩
theorem wm_274 : WM 274 := ⟨lwG_3 17 rfl rfl, lwG_1 12 rfl rfl, ⟨lwG_3 15 rfl rfl, lwG_3 16 rfl rfl⟩⟩
theorem wm_275 : WM 275 := ⟨lwG_3 21 rfl rfl, lwG_1 12 rfl rfl, ⟨lwG_3 19 rfl rfl, lwG_3 20 rfl rfl⟩⟩
theorem wm_276 : WM 276 := ⟨lwG_3 35 rfl rfl, lwG_1 12 rfl rfl, ⟨lwG_3 33 rfl rfl, lwG_3 34 rfl rfl⟩⟩
theorem wm_277 : WM 277 := ⟨lwG_3 25 rfl rfl, lwG_1 12 rfl rfl, ⟨lwG_3 23 rfl rfl, lwG_3 24 rfl rfl⟩⟩
theorem wm_278 : WM 278 := ⟨lwG_3 41 rfl rfl, lwG_1 13 rfl rfl, lwG_3 40 rfl rfl⟩
theorem wm_279 : WM 279 := ⟨lwG_3 38 rfl rfl, lwG_1 13 rfl rfl, lwG_3 37 rfl rfl⟩
theorem wm_280 : WM 280 := ⟨lwG_3 50 rfl rfl, lwG_1 13 rfl rfl, lwG_3 49 rfl rfl⟩
theorem wm_281 : WM 281 := ⟨lwG_5 79 rfl rfl, lwG_1 19 rfl rfl, lwG_5 78 rfl rfl⟩
theorem wm_282 : WM 282 := ⟨lwG_4 26 rfl rfl, lwG_1 19 rfl rfl, lwG_4 25 rfl rfl⟩
def allP (P : Nat → Prop) : Nat → Nat → Prop
  | _, 0 => True
  | k, n + 1 => P k ∧ allP P (k + 1) n
theorem allP_at {P : Nat → Prop} : ∀ (n k j : Nat), allP P k n → k ≤ j → j < k + n → P j
  | 0, k, j, _, h1, h2 => absurd h2 (by omega)
  | n + 1, k, j, h, h1, h2 => by
    rcases Nat.eq_or_lt_of_le h1 with e | e
    · rw [← e]; exact h.1
    · exact allP_at n (k + 1) j h.2 e (by omega)
theorem wmA_0 : allP WM 0 47 := ⟨wm_0, wm_1, wm_2, wm_3, wm_4, wm_5, wm_6, wm_7, wm_8, wm_9, wm_10, wm_11, wm_12, wm_13, wm_14, wm_15, wm_16, wm_17, wm_18, wm_19, wm_20, wm_21, wm_22, wm_23, wm_24, wm_25, wm_26, wm_27, wm_28, wm_29, wm_30, wm_31, wm_32, wm_33, wm_34, wm_35, wm_36, wm_37, wm_38, wm_39, wm_40, wm_41, wm_42, wm_43, wm_44, wm_45, wm_46, trivial⟩
theorem wmA_47 : allP WM 47 47 := ⟨wm_47, wm_48, wm_49, wm_50, wm_51, wm_52, wm_53, wm_54, wm_55, wm_56, wm_57, wm_58, wm_59, wm_60, wm_61, wm_62, wm_63, wm_64, wm_65, wm_66, wm_67, wm_68, wm_69, wm_70, wm_71, wm_72, wm_73, wm_74, wm_75, wm_76, wm_77, wm_78, wm_79, wm_80, wm_81, wm_82, wm_83, wm_84, wm_85, wm_86, wm_87, wm_88, wm_89, wm_90, wm_91, wm_92, wm_93, trivial⟩
theorem wmA_94 : allP WM 94 47 := ⟨wm_94, wm_95, wm_96, wm_97, wm_98, wm_99, wm_100, wm_101, wm_102, wm_103, wm_104, wm_105, wm_106, wm_107, wm_108, wm_109, wm_110, wm_111, wm_112, wm_113, wm_114, wm_115, wm_116, wm_117, wm_118, wm_119, wm_120, wm_121, wm_122, wm_123, wm_124, wm_125, wm_126, wm_127, wm_128, wm_129, wm_130, wm_131, wm_132, wm_133, wm_134, wm_135, wm_136, wm_137, wm_138, wm_139, wm_140, trivial⟩
theorem wmA_141 : allP WM 141 47 := ⟨wm_141, wm_142, wm_143, wm_144, wm_145, wm_146, wm_147, wm_148, wm_149, wm_150, wm_151, wm_152, wm_153, wm_154, wm_155, wm_156, wm_157, wm_158, wm_159, wm_160, wm_161, wm_162, wm_163, wm_164, wm_165, wm_166, wm_167, wm_168, wm_169, wm_170, wm_171, wm_172, wm_173, wm_174, wm_175, wm_176, wm_177, wm_178, wm_179, wm_180, wm_181, wm_182, wm_183, wm_184, wm_185, wm_186, wm_187, trivial⟩
theorem wmA_188 : allP WM 188 47 := ⟨wm_188, wm_189, wm_190, wm_191, wm_192, wm_193, wm_194, wm_195, wm_196, wm_197, wm_198, wm_199, wm_200, wm_201, wm_202, wm_203, wm_204, wm_205, wm_206, wm_207, wm_208, wm_209, wm_210, wm_211, wm_212, wm_213, wm_214, wm_215, wm_216, wm_217, wm_218, wm_219, wm_220, wm_221, wm_222, wm_223, wm_224, wm_225, wm_226, wm_227, wm_228, wm_229, wm_230, wm_231, wm_232, wm_233, wm_234, trivial⟩
theorem wmA_235 : allP WM 235 47 := ⟨wm_235, wm_236, wm_237, wm_238, wm_239, wm_240, wm_241, wm_242, wm_243, wm_244, wm_245, wm_246, wm_247, wm_248, wm_249, wm_250, wm_251, wm_252, wm_253, wm_254, wm_255, wm_256, wm_257, wm_258, wm_259, wm_260, wm_261, wm_262, wm_263, wm_264, wm_265, wm_266, wm_267, wm_268, wm_269, wm_270, wm_271, wm_272, wm_273, wm_274, wm_275, wm_276, wm_277, wm_278, wm_279, wm_280, wm_281, trivial⟩
theorem wmA_282 : allP WM 282 1 := ⟨wm_282, trivial⟩
theorem wm_all {k : Nat} (h : k < 283) : WM k := by
  rcases Nat.lt_or_ge k 47 with q | q
  · exact allP_at 47 0 k wmA_0 (by omega) (by omega)
  rcases Nat.lt_or_ge k 94 with q | q
  · exact allP_at 47 47 k wmA_47 (by omega) (by omega)
  rcases Nat.lt_or_ge k 141 with q | q
  · exact allP_at 47 94 k wmA_94 (by omega) (by omega)
  rcases Nat.lt_or_ge k 188 with q | q
  · exact allP_at 47 141 k wmA_141 (by omega) (by omega)
  rcases Nat.lt_or_ge k 235 with q | q
  · exact allP_at 47 188 k wmA_188 (by omega) (by omega)
  rcases Nat.lt_or_ge k 282 with q | q
  · exact allP_at 47 235 k wmA_235 (by omega) (by omega)
  · exact allP_at 1 282 k wmA_282 (by omega) (by omega)
theorem fm {α : Type} {P : α → Prop} {a : α} {l : List α} (h1 : P a) (h2 : ∀ t ∈ l, P t) : ∀ t ∈ a :: l, P t := List.forall_mem_cons.mpr ⟨h1, h2⟩
theorem fmn {α : Type} {P : α → Prop} : ∀ t ∈ ([] : List α), P t := fun _ h => absurd h List.not_mem_nil
def clN (c : Nat) : vw_C := nth ("", TX0, 0) vwCl c
def gsN (k : Nat) : String × String × String := nth ("", "", "") [("", "", ""), ("HayRemembers$Lean", "RIGHT", "[I"), ("HayRemembers$Lean", "DOWN", "[I"), ("HayRemembers$Acts", "ABOVE", "[I"), ("java/lang/String", "COMPACT_STRINGS", "Z")] k
def sfN (k : Nat) : String × String := nth ("", "") [("", ""), ("value", "[B"), ("coder", "B")] k
abbrev PF (t : Nat × Nat × Nat × Nat × Nat) : Prop := Cond.fieldLink (nmC t.1) t.2.1 (nmC t.2.2.1) ((clN t.2.2.1).2.1 t.2.2.2.1).2.1 ((clN t.2.2.1).2.1 t.2.2.2.1).2.2.1 ∈ lwG
def mnm (k : Nat) : MethodName := match Nat.blt k 1000 with
  | true => (mi k).1
  | false => nth objectInit [objectInit, Lib.Math.max.name, Lib.Math.min.name, Lib.Math.abs.name, arraycopyName] (k - 1000)
abbrev PL (t : Nat × Nat × Nat × Nat) : Prop := Cond.methodLink (nmC t.1) t.2.1 (mnm t.2.2.1) ∈ lwG
abbrev PG (t : Nat × Nat × Nat × Nat) : Prop := Cond.fieldLink (nmC t.1) t.2.1 (gsN t.2.2.1).1 (gsN t.2.2.1).2.1 (gsN t.2.2.1).2.2 ∈ lwG
abbrev PS (t : Nat × Nat × Nat) : Prop := Cond.fieldLink "java/lang/String" t.1 "java/lang/String" (sfN t.2.1).1 (sfN t.2.1).2 ∈ lwG
abbrev PK (t : Nat × Nat × Int32 × Nat) : Prop := Cond.constant (nmC t.1) t.2.1 t.2.2.1 ∈ lwG
abbrev PO (t : Nat × Nat × Int64 × Nat) : Prop := Cond.constantLong (nmC t.1) t.2.1 t.2.2.1 ∈ lwG
set_option maxRecDepth 100000 in
theorem pf_all : ∀ t ∈ ftL, PF t := fm (lwG_2 3 rfl rfl) (fm (lwG_2 5 rfl rfl) (fm (lwG_2 4 rfl rfl) (fm (lwG_2 6 rfl rfl) (fm (lwG_2 7 rfl rfl) (fm (lwG_2 8 rfl rfl) (fm (lwG_1 227 rfl rfl) (fm (lwG_1 228 rfl rfl) (fm (lwG_1 229 rfl rfl) (fm (lwG_1 37 rfl rfl) (fm (lwG_1 40 rfl rfl) (fm (lwG_1 41 rfl rfl) (fm (lwG_1 43 rfl rfl) (fm (lwG_1 44 rfl rfl) (fm (lwG_1 42 rfl rfl) (fm (lwG_1 35 rfl rfl) (fm (lwG_1 67 rfl rfl) (fm (lwG_1 69 rfl rfl) (fm (lwG_1 68 rfl rfl) (fm (lwG_1 70 rfl rfl) (fm (lwG_1 71 rfl rfl) (fm (lwG_1 72 rfl rfl) (fm (lwG_1 113 rfl rfl) (fm (lwG_1 116 rfl rfl) (fm (lwG_1 178 rfl rfl) (fm (lwG_1 179 rfl rfl) (fm (lwG_1 182 rfl rfl) (fm (lwG_1 183 rfl rfl) (fm (lwG_1 184 rfl rfl) (fm (lwG_1 185 rfl rfl) (fm (lwG_1 186 rfl rfl) (fm (lwG_1 187 rfl rfl) (fm (lwG_1 188 rfl rfl) (fm (lwG_1 189 rfl rfl) (fm (lwG_1 177 rfl rfl) (fm (lwG_1 180 rfl rfl) (fm (lwG_1 181 rfl rfl) (fm (lwG_1 114 rfl rfl) (fm (lwG_1 117 rfl rfl) (fm (lwG_1 39 rfl rfl) (fm (lwG_1 173 rfl rfl) (fm (lwG_1 175 rfl rfl) (fm (lwG_2 29 rfl rfl) (fm (lwG_2 33 rfl rfl) (fm (lwG_2 31 rfl rfl) (fm (lwG_2 32 rfl rfl) (fm (lwG_2 30 rfl rfl) (fm (lwG_1 134 rfl rfl) (fm (lwG_1 147 rfl rfl) (fm (lwG_1 146 rfl rfl) (fm (lwG_1 136 rfl rfl) (fm (lwG_1 138 rfl rfl) (fm (lwG_1 140 rfl rfl) (fm (lwG_1 142 rfl rfl) (fm (lwG_1 144 rfl rfl) (fm (lwG_1 94 rfl rfl) (fm (lwG_1 95 rfl rfl) (fm (lwG_1 96 rfl rfl) (fm (lwG_1 97 rfl rfl) (fm (lwG_1 92 rfl rfl) (fm (lwG_2 46 rfl rfl) (fm (lwG_2 47 rfl rfl) (fm (lwG_2 48 rfl rfl) (fm (lwG_2 49 rfl rfl) (fm (lwG_2 50 rfl rfl) (fm (lwG_2 51 rfl rfl) (fm (lwG_2 52 rfl rfl) (fm (lwG_2 53 rfl rfl) (fm (lwG_2 54 rfl rfl) (fm (lwG_2 55 rfl rfl) (fm (lwG_2 56 rfl rfl) (fm (lwG_2 57 rfl rfl) (fm (lwG_1 93 rfl rfl) (fm (lwG_1 36 rfl rfl) (fm (lwG_1 38 rfl rfl) (fm (lwG_2 59 rfl rfl) (fm (lwG_1 115 rfl rfl) (fm (lwG_1 118 rfl rfl) (fm (lwG_1 137 rfl rfl) (fm (lwG_1 139 rfl rfl) (fm (lwG_1 141 rfl rfl) (fm (lwG_1 143 rfl rfl) (fm (lwG_1 145 rfl rfl) (fm (lwG_1 135 rfl rfl) (fm (lwG_1 174 rfl rfl) (fm (lwG_1 176 rfl rfl) (fm (lwG_2 60 rfl rfl) (fm (lwG_2 58 rfl rfl) (fm (lwG_2 61 rfl rfl) (fm (lwG_5 155 rfl rfl) (fm (lwG_5 156 rfl rfl) (fm (lwG_5 157 rfl rfl) (fm (lwG_5 158 rfl rfl) (fm (lwG_5 159 rfl rfl) (fm (lwG_5 160 rfl rfl) (fm (lwG_5 161 rfl rfl) (fm (lwG_5 164 rfl rfl) (fm (lwG_5 165 rfl rfl) (fm (lwG_5 166 rfl rfl) (fm (lwG_5 167 rfl rfl) (fm (lwG_5 168 rfl rfl) (fm (lwG_5 174 rfl rfl) (fm (lwG_5 175 rfl rfl) (fm (lwG_5 176 rfl rfl) (fm (lwG_5 177 rfl rfl) (fm (lwG_5 178 rfl rfl) (fm (lwG_5 179 rfl rfl) (fm (lwG_5 180 rfl rfl) (fm (lwG_5 182 rfl rfl) (fm (lwG_5 183 rfl rfl) (fm (lwG_5 184 rfl rfl) (fm (lwG_5 185 rfl rfl) (fm (lwG_5 186 rfl rfl) (fm (lwG_5 192 rfl rfl) (fm (lwG_5 193 rfl rfl) (fm (lwG_5 196 rfl rfl) (fm (lwG_5 197 rfl rfl) (fm (lwG_5 198 rfl rfl) (fm (lwG_5 199 rfl rfl) (fm (lwG_5 201 rfl rfl) (fm (lwG_5 205 rfl rfl) (fm (lwG_5 206 rfl rfl) (fm (lwG_5 207 rfl rfl) (fm (lwG_5 208 rfl rfl) (fm (lwG_5 209 rfl rfl) (fm (lwG_5 210 rfl rfl) (fm (lwG_5 212 rfl rfl) (fm (lwG_5 214 rfl rfl) (fm (lwG_5 215 rfl rfl) (fm (lwG_5 216 rfl rfl) (fm (lwG_5 217 rfl rfl) (fm (lwG_5 218 rfl rfl) (fm (lwG_5 154 rfl rfl) (fm (lwG_5 163 rfl rfl) (fm (lwG_5 162 rfl rfl) (fm (lwG_5 169 rfl rfl) (fm (lwG_5 170 rfl rfl) (fm (lwG_5 171 rfl rfl) (fm (lwG_5 173 rfl rfl) (fm (lwG_5 172 rfl rfl) (fm (lwG_5 181 rfl rfl) (fm (lwG_5 187 rfl rfl) (fm (lwG_5 188 rfl rfl) (fm (lwG_5 189 rfl rfl) (fm (lwG_5 190 rfl rfl) (fm (lwG_5 191 rfl rfl) (fm (lwG_5 194 rfl rfl) (fm (lwG_5 195 rfl rfl) (fm (lwG_5 200 rfl rfl) (fm (lwG_5 202 rfl rfl) (fm (lwG_5 203 rfl rfl) (fm (lwG_5 204 rfl rfl) (fm (lwG_5 211 rfl rfl) (fm (lwG_5 213 rfl rfl) (fmn))))))))))))))))))))))))))))))))))))))))))))))))))))))))))))))))))))))))))))))))))))))))))))))))))))))))))))))))))))))))))))))))))))))))))))))))))))))))))
set_option maxRecDepth 100000 in
theorem pl_all : ∀ t ∈ mtL, PL t := fm (lwG_5 25 rfl rfl) (fm (lwG_5 29 rfl rfl) (fm (lwG_5 37 rfl rfl) (fm (lwG_5 41 rfl rfl) (fm (lwG_5 45 rfl rfl) (fm (lwG_5 33 rfl rfl) (fm (lwG_2 191 rfl rfl) (fm (lwG_4 231 rfl rfl) (fm (lwG_5 8 rfl rfl) (fm (lwG_3 197 rfl rfl) (fm (lwG_3 111 rfl rfl) (fm (lwG_3 115 rfl rfl) (fm (lwG_3 116 rfl rfl) (fm (lwG_3 142 rfl rfl) (fm (lwG_3 146 rfl rfl) (fm (lwG_3 145 rfl rfl) (fm (lwG_3 150 rfl rfl) (fm (lwG_3 154 rfl rfl) (fm (lwG_3 158 rfl rfl) (fm (lwG_3 162 rfl rfl) (fm (lwG_2 229 rfl rfl) (fm (lwG_3 1 rfl rfl) (fm (lwG_2 233 rfl rfl) (fm (lwG_3 9 rfl rfl) (fm (lwG_2 237 rfl rfl) (fm (lwG_3 104 rfl rfl) (fm (lwG_3 5 rfl rfl) (fm (lwG_3 14 rfl rfl) (fm (lwG_3 100 rfl rfl) (fm (lwG_3 183 rfl rfl) (fm (lwG_3 188 rfl rfl) (fm (lwG_3 201 rfl rfl) (fm (lwG_3 204 rfl rfl) (fm (lwG_4 21 rfl rfl) (fm (lwG_4 22 rfl rfl) (fm (lwG_4 23 rfl rfl) (fm (lwG_4 24 rfl rfl) (fm (lwG_4 40 rfl rfl) (fm (lwG_4 48 rfl rfl) (fm (lwG_4 35 rfl rfl) (fm (lwG_4 50 rfl rfl) (fm (lwG_4 39 rfl rfl) (fm (lwG_4 44 rfl rfl) (fm (lwG_4 49 rfl rfl) (fm (lwG_4 54 rfl rfl) (fm (lwG_4 58 rfl rfl) (fm (lwG_4 63 rfl rfl) (fm (lwG_4 62 rfl rfl) (fm (lwG_4 76 rfl rfl) (fm (lwG_4 80 rfl rfl) (fm (lwG_4 91 rfl rfl) (fm (lwG_4 84 rfl rfl) (fm (lwG_4 90 rfl rfl) (fm (lwG_4 103 rfl rfl) (fm (lwG_4 168 rfl rfl) (fm (lwG_4 172 rfl rfl) (fm (lwG_4 173 rfl rfl) (fm (lwG_4 174 rfl rfl) (fm (lwG_5 77 rfl rfl) (fm (lwG_2 144 rfl rfl) (fm (lwG_5 92 rfl rfl) (fm (lwG_5 120 rfl rfl) (fm (lwG_5 121 rfl rfl) (fm (lwG_3 217 rfl rfl) (fm (lwG_3 213 rfl rfl) (fm (lwG_3 224 rfl rfl) (fm (lwG_3 225 rfl rfl) (fm (lwG_3 226 rfl rfl) (fm (lwG_3 227 rfl rfl) (fm (lwG_3 228 rfl rfl) (fm (lwG_3 232 rfl rfl) (fm (lwG_3 233 rfl rfl) (fm (lwG_4 2 rfl rfl) (fm (lwG_4 3 rfl rfl) (fm (lwG_4 4 rfl rfl) (fm (lwG_3 237 rfl rfl) (fm (lwG_3 238 rfl rfl) (fm (lwG_4 184 rfl rfl) (fm (lwG_3 221 rfl rfl) (fm (lwG_2 118 rfl rfl) (fm (lwG_2 172 rfl rfl) (fm (lwG_2 127 rfl rfl) (fm (lwG_2 203 rfl rfl) (fm (lwG_4 198 rfl rfl) (fm (lwG_3 137 rfl rfl) (fm (lwG_3 138 rfl rfl) (fm (lwG_3 174 rfl rfl) (fm (lwG_3 178 rfl rfl) (fm (lwG_3 179 rfl rfl) (fm (lwG_2 103 rfl rfl) (fm (lwG_2 107 rfl rfl) (fm (lwG_2 114 rfl rfl) (fm (lwG_2 119 rfl rfl) (fm (lwG_2 132 rfl rfl) (fm (lwG_2 136 rfl rfl) (fm (lwG_2 140 rfl rfl) (fm (lwG_2 148 rfl rfl) (fm (lwG_2 152 rfl rfl) (fm (lwG_2 160 rfl rfl) (fm (lwG_2 177 rfl rfl) (fm (lwG_2 180 rfl rfl) (fm (lwG_2 183 rfl rfl) (fm (lwG_2 187 rfl rfl) (fm (lwG_2 195 rfl rfl) (fm (lwG_2 164 rfl rfl) (fm (lwG_2 168 rfl rfl) (fm (lwG_2 173 rfl rfl) (fm (lwG_2 213 rfl rfl) (fm (lwG_2 217 rfl rfl) (fm (lwG_2 225 rfl rfl) (fm (lwG_3 107 rfl rfl) (fm (lwG_3 120 rfl rfl) (fm (lwG_3 129 rfl rfl) (fm (lwG_3 133 rfl rfl) (fm (lwG_3 170 rfl rfl) (fm (lwG_3 193 rfl rfl) (fm (lwG_3 209 rfl rfl) (fm (lwG_4 13 rfl rfl) (fm (lwG_4 17 rfl rfl) (fm (lwG_4 27 rfl rfl) (fm (lwG_4 31 rfl rfl) (fm (lwG_4 64 rfl rfl) (fm (lwG_4 72 rfl rfl) (fm (lwG_4 99 rfl rfl) (fm (lwG_4 112 rfl rfl) (fm (lwG_4 113 rfl rfl) (fm (lwG_4 116 rfl rfl) (fm (lwG_4 16 rfl rfl) (fm (lwG_4 131 rfl rfl) (fm (lwG_4 140 rfl rfl) (fm (lwG_4 145 rfl rfl) (fm (lwG_4 146 rfl rfl) (fm (lwG_4 153 rfl rfl) (fm (lwG_4 164 rfl rfl) (fm (lwG_4 179 rfl rfl) (fm (lwG_4 189 rfl rfl) (fm (lwG_4 194 rfl rfl) (fm (lwG_4 207 rfl rfl) (fm (lwG_4 208 rfl rfl) (fm (lwG_4 215 rfl rfl) (fm (lwG_4 223 rfl rfl) (fm (lwG_4 227 rfl rfl) (fm (lwG_4 232 rfl rfl) (fm (lwG_5 0 rfl rfl) (fm (lwG_5 4 rfl rfl) (fm (lwG_5 13 rfl rfl) (fm (lwG_5 21 rfl rfl) (fm (lwG_5 53 rfl rfl) (fm (lwG_5 61 rfl rfl) (fm (lwG_5 65 rfl rfl) (fm (lwG_5 73 rfl rfl) (fm (lwG_5 84 rfl rfl) (fm (lwG_5 88 rfl rfl) (fm (lwG_5 104 rfl rfl) (fm (lwG_5 108 rfl rfl) (fm (lwG_5 112 rfl rfl) (fm (lwG_5 116 rfl rfl) (fm (lwG_5 126 rfl rfl) (fm (lwG_5 130 rfl rfl) (fm (lwG_5 131 rfl rfl) (fm (lwG_5 140 rfl rfl) (fm (lwG_5 144 rfl rfl) (fm (lwG_2 123 rfl rfl) (fm (lwG_2 199 rfl rfl) (fm (lwG_2 204 rfl rfl) (fm (lwG_4 139 rfl rfl) (fm (lwG_4 135 rfl rfl) (fm (lwG_4 144 rfl rfl) (fm (lwG_6 125 rfl rfl) (fm (lwG_6 121 rfl rfl) (fm (lwG_6 128 rfl rfl) (fm (lwG_6 131 rfl rfl) (fm (lwG_6 139 rfl rfl) (fm (lwG_6 151 rfl rfl) (fm (lwG_6 177 rfl rfl) (fm (lwG_6 147 rfl rfl) (fm (lwG_6 166 rfl rfl) (fm (lwG_6 162 rfl rfl) (fm (lwG_6 170 rfl rfl) (fm (lwG_6 173 rfl rfl) (fm (lwG_7 0 rfl rfl) (fm (lwG_6 225 rfl rfl) (fm (lwG_6 232 rfl rfl) (fm (lwG_6 229 rfl rfl) (fm (lwG_6 236 rfl rfl) (fm (lwG_6 221 rfl rfl) (fm (lwG_6 201 rfl rfl) (fm (lwG_7 4 rfl rfl) (fm (lwG_6 217 rfl rfl) (fm (lwG_6 213 rfl rfl) (fm (lwG_6 209 rfl rfl) (fm (lwG_6 205 rfl rfl) (fm (lwG_6 197 rfl rfl) (fm (lwG_7 32 rfl rfl) (fm (lwG_7 28 rfl rfl) (fm (lwG_6 193 rfl rfl) (fm (lwG_7 24 rfl rfl) (fm (lwG_7 20 rfl rfl) (fm (lwG_7 44 rfl rfl) (fm (lwG_7 16 rfl rfl) (fm (lwG_7 51 rfl rfl) (fm (lwG_7 40 rfl rfl) (fm (lwG_7 62 rfl rfl) (fm (lwG_7 47 rfl rfl) (fm (lwG_7 58 rfl rfl) (fm (lwG_7 12 rfl rfl) (fm (lwG_7 54 rfl rfl) (fm (lwG_7 80 rfl rfl) (fm (lwG_7 84 rfl rfl) (fm (lwG_7 69 rfl rfl) (fm (lwG_7 72 rfl rfl) (fm (lwG_7 76 rfl rfl) (fm (lwG_7 103 rfl rfl) (fm (lwG_7 106 rfl rfl) (fm (lwG_7 99 rfl rfl) (fm (lwG_7 96 rfl rfl) (fm (lwG_7 129 rfl rfl) (fm (lwG_7 126 rfl rfl) (fm (lwG_7 122 rfl rfl) (fm (lwG_7 118 rfl rfl) (fm (lwG_7 132 rfl rfl) (fm (lwG_7 114 rfl rfl) (fm (lwG_7 140 rfl rfl) (fm (lwG_7 149 rfl rfl) (fm (lwG_7 152 rfl rfl) (fm (lwG_7 179 rfl rfl) (fm (lwG_7 183 rfl rfl) (fm (lwG_7 196 rfl rfl) (fm (lwG_7 216 rfl rfl) (fm (lwG_8 3 rfl rfl) (fm (lwG_8 7 rfl rfl) (fm (lwG_8 0 rfl rfl) (fm (lwG_8 11 rfl rfl) (fm (lwG_7 236 rfl rfl) (fm (lwG_8 23 rfl rfl) (fm (lwG_8 19 rfl rfl) (fm (lwG_8 27 rfl rfl) (fm (lwG_8 35 rfl rfl) (fm (lwG_8 31 rfl rfl) (fm (lwG_8 15 rfl rfl) (fm (lwG_8 43 rfl rfl) (fm (lwG_7 232 rfl rfl) (fm (lwG_8 39 rfl rfl) (fm (lwG_8 51 rfl rfl) (fm (lwG_8 67 rfl rfl) (fm (lwG_3 32 rfl rfl) (fm (lwG_3 22 rfl rfl) (fm (lwG_3 28 rfl rfl) (fm (lwG_3 18 rfl rfl) (fm (lwG_3 36 rfl rfl) (fm (lwG_3 45 rfl rfl) (fm (lwG_3 39 rfl rfl) (fm (lwG_3 42 rfl rfl) (fm (lwG_3 48 rfl rfl) (fmn))))))))))))))))))))))))))))))))))))))))))))))))))))))))))))))))))))))))))))))))))))))))))))))))))))))))))))))))))))))))))))))))))))))))))))))))))))))))))))))))))))))))))))))))))))))))))))))))))))))))))))))))))))))))))))))))))))))))))))))))))))))))))))))
set_option maxRecDepth 100000 in
theorem pg_all : ∀ t ∈ gtL, PG t := fm (lwG_5 134 rfl rfl) (fm (lwG_3 186 rfl rfl) (fm (lwG_3 191 rfl rfl) (fm (lwG_3 26 rfl rfl) (fmn))))
set_option maxRecDepth 100000 in
theorem ps_all : ∀ t ∈ sfL, PS t := fm (lwG_8 85 rfl rfl) (fm (lwG_8 84 rfl rfl) (fmn))
set_option maxRecDepth 100000 in
theorem pk_all : ∀ t ∈ ktL, PK t := fm (lwG_4 183 rfl rfl) (fm (lwG_3 169 rfl rfl) (fm (lwG_7 39 rfl rfl) (fm (lwG_7 191 rfl rfl) (fm (lwG_4 87 rfl rfl) (fm (lwG_4 88 rfl rfl) (fm (lwG_4 89 rfl rfl) (fmn)))))))
set_option maxRecDepth 100000 in
theorem po_all : ∀ t ∈ ltL, PO t := fm (lwG_2 110 rfl rfl) (fm (lwG_2 112 rfl rfl) (fm (lwG_4 111 rfl rfl) (fm (lwG_2 111 rfl rfl) (fm (lwG_2 113 rfl rfl) (fm (lwG_2 155 rfl rfl) (fm (lwG_6 142 rfl rfl) (fm (lwG_7 148 rfl rfl) (fmn))))))))
theorem ftB : ftL.all (fun t => Nat.blt t.1 15 && Nat.blt t.2.2.1 11 && Nat.blt t.2.2.2.1 (clN t.2.2.1).2.2 && Nat.blt t.2.2.2.1 100 && decide (((clN t.2.2.1).2.1 t.2.2.2.1).1 = nmC t.2.2.1)) = true := by decide +kernel
theorem mtB : mtL.all (fun t => Nat.blt t.2.2.1 283 || (Nat.blt 1000 t.2.2.1 && Nat.blt t.2.2.1 1005)) = true := by decide +kernel
theorem wl_iMath : Cond.initialized "java/lang/Math" ∈ lwG := lwG_1 14 rfl rfl
theorem wl_iSys : Cond.initialized "java/lang/System" ∈ lwG := lwG_1 18 rfl rfl
theorem wl_max_s : Cond.static Lib.Math.max.name ∈ lwG := lwG_3 43 rfl rfl
theorem wl_max_c : Cond.code Lib.Math.max.name Lib.Math.max.code 2 (some .int) ∈ lwG := lwG_3 44 rfl rfl
theorem wl_min_s : Cond.static Lib.Math.min.name ∈ lwG := lwG_3 46 rfl rfl
theorem wl_min_c : Cond.code Lib.Math.min.name Lib.Math.min.code 2 (some .int) ∈ lwG := lwG_3 47 rfl rfl
theorem wl_abs_s : Cond.static Lib.Math.abs.name ∈ lwG := lwG_3 202 rfl rfl
theorem wl_abs_c : Cond.code Lib.Math.abs.name Lib.Math.abs.code 1 (some .int) ∈ lwG := lwG_3 203 rfl rfl
theorem wl_ac_s : Cond.static arraycopyName ∈ lwG := lwG_3 222 rfl rfl
theorem wl_ac_n : Cond.native arraycopyName ∈ lwG := lwG_3 223 rfl rfl
set_option maxRecDepth 100000 in
theorem uw_0 : ∀ w ∈ u_ws RX0 TX0 6, w ∈ lwG := fm (lwG_2 9 rfl rfl) (fm (lwG_2 11 rfl rfl) (fm (lwG_2 13 rfl rfl) (fm (lwG_2 15 rfl rfl) (fm (lwG_2 17 rfl rfl) (fm (lwG_2 19 rfl rfl) (fmn))))))
set_option maxRecDepth 100000 in
theorem uw_1 : ∀ w ∈ u_ws RX1 TX1 3, w ∈ lwG := fm (lwG_1 230 rfl rfl) (fm (lwG_1 232 rfl rfl) (fm (lwG_1 234 rfl rfl) (fmn)))
set_option maxRecDepth 100000 in
theorem uw_2 : ∀ w ∈ u_ws RX2 TX2 7, w ∈ lwG := fm (lwG_1 45 rfl rfl) (fm (lwG_1 47 rfl rfl) (fm (lwG_1 49 rfl rfl) (fm (lwG_1 51 rfl rfl) (fm (lwG_1 53 rfl rfl) (fm (lwG_1 55 rfl rfl) (fm (lwG_1 57 rfl rfl) (fmn)))))))
set_option maxRecDepth 100000 in
theorem uw_3 : ∀ w ∈ u_ws RX3 TX3 6, w ∈ lwG := fm (lwG_1 73 rfl rfl) (fm (lwG_1 75 rfl rfl) (fm (lwG_1 77 rfl rfl) (fm (lwG_1 79 rfl rfl) (fm (lwG_1 81 rfl rfl) (fm (lwG_1 83 rfl rfl) (fmn))))))
set_option maxRecDepth 100000 in
theorem uw_4 : ∀ w ∈ u_ws RX4 TX4 2, w ∈ lwG := fm (lwG_1 119 rfl rfl) (fm (lwG_1 121 rfl rfl) (fmn))
set_option maxRecDepth 100000 in
theorem uw_5 : ∀ w ∈ u_ws RX5 TX5 15, w ∈ lwG := fm (lwG_1 190 rfl rfl) (fm (lwG_1 192 rfl rfl) (fm (lwG_1 194 rfl rfl) (fm (lwG_1 196 rfl rfl) (fm (lwG_1 198 rfl rfl) (fm (lwG_1 200 rfl rfl) (fm (lwG_1 202 rfl rfl) (fm (lwG_1 204 rfl rfl) (fm (lwG_1 206 rfl rfl) (fm (lwG_1 208 rfl rfl) (fm (lwG_1 210 rfl rfl) (fm (lwG_1 212 rfl rfl) (fm (lwG_1 214 rfl rfl) (fm (lwG_1 216 rfl rfl) (fm (lwG_1 218 rfl rfl) (fmn)))))))))))))))
set_option maxRecDepth 100000 in
theorem uw_6 : ∀ w ∈ u_ws RX6 TX6 5, w ∈ lwG := fm (lwG_2 34 rfl rfl) (fm (lwG_2 36 rfl rfl) (fm (lwG_2 38 rfl rfl) (fm (lwG_2 40 rfl rfl) (fm (lwG_2 42 rfl rfl) (fmn)))))
set_option maxRecDepth 100000 in
theorem uw_7 : ∀ w ∈ u_ws RX7 TX7 8, w ∈ lwG := fm (lwG_1 148 rfl rfl) (fm (lwG_1 150 rfl rfl) (fm (lwG_1 152 rfl rfl) (fm (lwG_1 154 rfl rfl) (fm (lwG_1 156 rfl rfl) (fm (lwG_1 158 rfl rfl) (fm (lwG_1 160 rfl rfl) (fm (lwG_1 162 rfl rfl) (fmn))))))))
set_option maxRecDepth 100000 in
theorem uw_8 : ∀ w ∈ u_ws RX8 TX8 4, w ∈ lwG := fm (lwG_1 98 rfl rfl) (fm (lwG_1 100 rfl rfl) (fm (lwG_1 102 rfl rfl) (fm (lwG_1 104 rfl rfl) (fmn))))
set_option maxRecDepth 100000 in
theorem uw_9 : ∀ w ∈ u_ws RX9 TX9 16, w ∈ lwG := fm (lwG_2 62 rfl rfl) (fm (lwG_2 64 rfl rfl) (fm (lwG_2 66 rfl rfl) (fm (lwG_2 68 rfl rfl) (fm (lwG_2 70 rfl rfl) (fm (lwG_2 72 rfl rfl) (fm (lwG_2 74 rfl rfl) (fm (lwG_2 76 rfl rfl) (fm (lwG_2 78 rfl rfl) (fm (lwG_2 80 rfl rfl) (fm (lwG_2 82 rfl rfl) (fm (lwG_2 84 rfl rfl) (fm (lwG_2 86 rfl rfl) (fm (lwG_2 88 rfl rfl) (fm (lwG_2 90 rfl rfl) (fm (lwG_2 92 rfl rfl) (fmn))))))))))))))))
set_option maxRecDepth 100000 in
theorem uw_10 : ∀ w ∈ u_ws RX10 TX10 66, w ∈ lwG := fm (lwG_5 219 rfl rfl) (fm (lwG_5 221 rfl rfl) (fm (lwG_5 223 rfl rfl) (fm (lwG_5 225 rfl rfl) (fm (lwG_5 227 rfl rfl) (fm (lwG_5 229 rfl rfl) (fm (lwG_5 231 rfl rfl) (fm (lwG_5 233 rfl rfl) (fm (lwG_5 235 rfl rfl) (fm (lwG_5 237 rfl rfl) (fm (lwG_5 239 rfl rfl) (fm (lwG_6 1 rfl rfl) (fm (lwG_6 3 rfl rfl) (fm (lwG_6 5 rfl rfl) (fm (lwG_6 7 rfl rfl) (fm (lwG_6 9 rfl rfl) (fm (lwG_6 11 rfl rfl) (fm (lwG_6 13 rfl rfl) (fm (lwG_6 15 rfl rfl) (fm (lwG_6 17 rfl rfl) (fm (lwG_6 19 rfl rfl) (fm (lwG_6 21 rfl rfl) (fm (lwG_6 23 rfl rfl) (fm (lwG_6 25 rfl rfl) (fm (lwG_6 27 rfl rfl) (fm (lwG_6 29 rfl rfl) (fm (lwG_6 31 rfl rfl) (fm (lwG_6 33 rfl rfl) (fm (lwG_6 35 rfl rfl) (fm (lwG_6 37 rfl rfl) (fm (lwG_6 39 rfl rfl) (fm (lwG_6 41 rfl rfl) (fm (lwG_6 43 rfl rfl) (fm (lwG_6 45 rfl rfl) (fm (lwG_6 47 rfl rfl) (fm (lwG_6 49 rfl rfl) (fm (lwG_6 51 rfl rfl) (fm (lwG_6 53 rfl rfl) (fm (lwG_6 55 rfl rfl) (fm (lwG_6 57 rfl rfl) (fm (lwG_6 59 rfl rfl) (fm (lwG_6 61 rfl rfl) (fm (lwG_6 63 rfl rfl) (fm (lwG_6 65 rfl rfl) (fm (lwG_6 67 rfl rfl) (fm (lwG_6 69 rfl rfl) (fm (lwG_6 71 rfl rfl) (fm (lwG_6 73 rfl rfl) (fm (lwG_6 75 rfl rfl) (fm (lwG_6 77 rfl rfl) (fm (lwG_6 79 rfl rfl) (fm (lwG_6 81 rfl rfl) (fm (lwG_6 83 rfl rfl) (fm (lwG_6 85 rfl rfl) (fm (lwG_6 87 rfl rfl) (fm (lwG_6 89 rfl rfl) (fm (lwG_6 91 rfl rfl) (fm (lwG_6 93 rfl rfl) (fm (lwG_6 95 rfl rfl) (fm (lwG_6 97 rfl rfl) (fm (lwG_6 99 rfl rfl) (fm (lwG_6 101 rfl rfl) (fm (lwG_6 103 rfl rfl) (fm (lwG_6 105 rfl rfl) (fm (lwG_6 107 rfl rfl) (fm (lwG_6 109 rfl rfl) (fmn))))))))))))))))))))))))))))))))))))))))))))))))))))))))))))))))))
