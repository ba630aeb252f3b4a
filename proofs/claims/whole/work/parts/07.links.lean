/-! ===== what instructions link, by places of the tables ===== -/
theorem inT_X0 : ∀ w ∈ u_ws RX0 TX0 4, w ∈ TT := by
  intro w h
  obtain ⟨k, hk, rfl⟩ := List.mem_map.mp h
  have hk := List.mem_range.mp hk
  match k, hk with
  | 0, _ => exact tm1 114 _ rfl rfl
  | 1, _ => exact tm1 116 _ rfl rfl
  | 2, _ => exact tm1 118 _ rfl rfl
  | 3, _ => exact tm1 120 _ rfl rfl
  | n + 4, h => exact absurd h (by omega)
theorem inT_X1 : ∀ w ∈ u_ws RX1 TX1 7, w ∈ TT := by
  intro w h
  obtain ⟨k, hk, rfl⟩ := List.mem_map.mp h
  have hk := List.mem_range.mp hk
  match k, hk with
  | 0, _ => exact tm1 87 _ rfl rfl
  | 1, _ => exact tm1 89 _ rfl rfl
  | 2, _ => exact tm1 91 _ rfl rfl
  | 3, _ => exact tm1 93 _ rfl rfl
  | 4, _ => exact tm1 95 _ rfl rfl
  | 5, _ => exact tm1 97 _ rfl rfl
  | 6, _ => exact tm1 99 _ rfl rfl
  | n + 7, h => exact absurd h (by omega)
theorem inT_X2 : ∀ w ∈ u_ws RX2 TX2 2, w ∈ TT := by
  intro w h
  obtain ⟨k, hk, rfl⟩ := List.mem_map.mp h
  have hk := List.mem_range.mp hk
  match k, hk with
  | 0, _ => exact tm1 134 _ rfl rfl
  | 1, _ => exact tm1 136 _ rfl rfl
  | n + 2, h => exact absurd h (by omega)
theorem inT_X3 : ∀ w ∈ u_ws RX3 TX3 1, w ∈ TT := by
  intro w h
  obtain ⟨k, hk, rfl⟩ := List.mem_map.mp h
  have hk := List.mem_range.mp hk
  match k, hk with
  | 0, _ => exact tm1 32 _ rfl rfl
  | n + 1, h => exact absurd h (by omega)
theorem inT_X4 : ∀ w ∈ u_ws RX4 TX4 7, w ∈ TT := by
  intro w h
  obtain ⟨k, hk, rfl⟩ := List.mem_map.mp h
  have hk := List.mem_range.mp hk
  match k, hk with
  | 0, _ => exact tm1 53 _ rfl rfl
  | 1, _ => exact tm1 55 _ rfl rfl
  | 2, _ => exact tm1 57 _ rfl rfl
  | 3, _ => exact tm1 59 _ rfl rfl
  | 4, _ => exact tm1 61 _ rfl rfl
  | 5, _ => exact tm1 63 _ rfl rfl
  | 6, _ => exact tm1 65 _ rfl rfl
  | n + 7, h => exact absurd h (by omega)
theorem inT_X5 : ∀ w ∈ u_ws RX5 TX5 8, w ∈ TT := by
  intro w h
  obtain ⟨k, hk, rfl⟩ := List.mem_map.mp h
  have hk := List.mem_range.mp hk
  match k, hk with
  | 0, _ => exact tm1 147 _ rfl rfl
  | 1, _ => exact tm1 149 _ rfl rfl
  | 2, _ => exact tm1 151 _ rfl rfl
  | 3, _ => exact tm1 153 _ rfl rfl
  | 4, _ => exact tm1 155 _ rfl rfl
  | 5, _ => exact tm1 157 _ rfl rfl
  | 6, _ => exact tm1 159 _ rfl rfl
  | 7, _ => exact tm1 161 _ rfl rfl
  | n + 8, h => exact absurd h (by omega)
theorem inT_X6 : ∀ w ∈ u_ws RX6 TX6 23, w ∈ TT := by
  intro w h
  obtain ⟨k, hk, rfl⟩ := List.mem_map.mp h
  have hk := List.mem_range.mp hk
  match k, hk with
  | 0, _ => exact tm3 40 _ rfl rfl
  | 1, _ => exact tm3 42 _ rfl rfl
  | 2, _ => exact tm3 44 _ rfl rfl
  | 3, _ => exact tm3 46 _ rfl rfl
  | 4, _ => exact tm3 48 _ rfl rfl
  | 5, _ => exact tm3 50 _ rfl rfl
  | 6, _ => exact tm3 52 _ rfl rfl
  | 7, _ => exact tm3 54 _ rfl rfl
  | 8, _ => exact tm3 56 _ rfl rfl
  | 9, _ => exact tm3 58 _ rfl rfl
  | 10, _ => exact tm3 60 _ rfl rfl
  | 11, _ => exact tm3 62 _ rfl rfl
  | 12, _ => exact tm3 64 _ rfl rfl
  | 13, _ => exact tm3 66 _ rfl rfl
  | 14, _ => exact tm3 68 _ rfl rfl
  | 15, _ => exact tm3 70 _ rfl rfl
  | 16, _ => exact tm3 72 _ rfl rfl
  | 17, _ => exact tm3 74 _ rfl rfl
  | 18, _ => exact tm3 76 _ rfl rfl
  | 19, _ => exact tm3 78 _ rfl rfl
  | 20, _ => exact tm3 80 _ rfl rfl
  | 21, _ => exact tm3 82 _ rfl rfl
  | 22, _ => exact tm3 84 _ rfl rfl
  | n + 23, h => exact absurd h (by omega)
theorem lc_L_7 : Cond.classLink RL 7 RX5 ∈ TT := tm1 11 _ rfl rfl
theorem lk_L_9 : KLI RL 9 yX5_init cX5_init 1 0 := ⟨tm1 13 _ rfl rfl, tm1 14 _ rfl rfl, tm1 1 _ rfl rfl, tm1 15 _ rfl rfl, rfl, ⟨by decide, by decide, by decide⟩⟩
theorem lc_L_10 : Cond.classLink RL 10 RX6 ∈ TT := tm3 7 _ rfl rfl
theorem lk_L_12 : KLI RL 12 yX6_init cX6_init 1 0 := ⟨tm3 9 _ rfl rfl, tm3 10 _ rfl rfl, tm1 8 _ rfl rfl, tm3 11 _ rfl rfl, rfl, ⟨by decide, by decide, by decide⟩⟩
theorem lk_L_13 : KLV RL 13 RX5 yX5_machines cX5_machines 4 (some .int) 2 := ⟨tm1 164 _ rfl rfl, tm1 165 _ rfl rfl, tm1 166 _ rfl rfl, tm1 1 _ rfl rfl, tm1 167 _ rfl rfl, ⟨rfl, by decide, by decide, by decide⟩⟩
theorem lk_L_17 : KLV RL 17 RX6 yX6_machines cX6_machines 4 (some .int) 2 := ⟨tm3 88 _ rfl rfl, tm3 89 _ rfl rfl, tm3 90 _ rfl rfl, tm1 8 _ rfl rfl, tm3 91 _ rfl rfl, ⟨rfl, by decide, by decide, by decide⟩⟩
theorem lk_L_18 : KLV RL 18 RX5 yX5_put cX5_put 5 (some .int) 3 := ⟨tm1 180 _ rfl rfl, tm1 181 _ rfl rfl, tm1 182 _ rfl rfl, tm1 1 _ rfl rfl, tm1 183 _ rfl rfl, ⟨rfl, by decide, by decide, by decide⟩⟩
theorem lk_L_22 : KLV RL 22 RX6 yX6_put cX6_put 5 (some .int) 3 := ⟨tm3 95 _ rfl rfl, tm3 96 _ rfl rfl, tm3 97 _ rfl rfl, tm1 8 _ rfl rfl, tm3 98 _ rfl rfl, ⟨rfl, by decide, by decide, by decide⟩⟩
theorem lk_L_23 : KLV RL 23 RX5 yX5_rule cX5_rule 4 (some .int) 2 := ⟨tm1 205 _ rfl rfl, tm1 206 _ rfl rfl, tm1 207 _ rfl rfl, tm1 1 _ rfl rfl, tm1 208 _ rfl rfl, ⟨rfl, by decide, by decide, by decide⟩⟩
theorem lk_L_26 : KLV RL 26 RX6 yX6_rule cX6_rule 4 (some .int) 2 := ⟨tm3 110 _ rfl rfl, tm3 111 _ rfl rfl, tm3 112 _ rfl rfl, tm1 8 _ rfl rfl, tm3 113 _ rfl rfl, ⟨rfl, by decide, by decide, by decide⟩⟩
theorem lk_L_27 : KLV RL 27 RX5 yX5_slow cX5_slow 5 (some .int) 3 := ⟨tm1 213 _ rfl rfl, tm1 214 _ rfl rfl, tm1 215 _ rfl rfl, tm1 1 _ rfl rfl, tm1 216 _ rfl rfl, ⟨rfl, by decide, by decide, by decide⟩⟩
theorem lk_L_30 : KLV RL 30 RX6 yX6_slow cX6_slow 5 (some .int) 3 := ⟨tm3 114 _ rfl rfl, tm3 115 _ rfl rfl, tm3 116 _ rfl rfl, tm1 8 _ rfl rfl, tm3 117 _ rfl rfl, ⟨rfl, by decide, by decide, by decide⟩⟩
theorem lk_L_31 : KLV RL 31 RX5 yX5_at cX5_at 3 (some .int) 2 := ⟨tm1 228 _ rfl rfl, tm1 229 _ rfl rfl, tm1 230 _ rfl rfl, tm1 1 _ rfl rfl, tm1 231 _ rfl rfl, ⟨rfl, by decide, by decide, by decide⟩⟩
theorem lk_L_34 : KLV RL 34 RX6 yX6_at cX6_at 3 (some .int) 2 := ⟨tm3 118 _ rfl rfl, tm3 119 _ rfl rfl, tm3 120 _ rfl rfl, tm1 8 _ rfl rfl, tm3 121 _ rfl rfl, ⟨rfl, by decide, by decide, by decide⟩⟩
theorem lk_L_35 : KLV RL 35 RX5 yX5_way cX5_way 3 (some .int) 2 := ⟨tm1 232 _ rfl rfl, tm1 233 _ rfl rfl, tm1 234 _ rfl rfl, tm1 1 _ rfl rfl, tm1 235 _ rfl rfl, ⟨rfl, by decide, by decide, by decide⟩⟩
theorem lk_L_38 : KLV RL 38 RX6 yX6_way cX6_way 3 (some .int) 2 := ⟨tm3 122 _ rfl rfl, tm3 123 _ rfl rfl, tm3 124 _ rfl rfl, tm1 8 _ rfl rfl, tm3 125 _ rfl rfl, ⟨rfl, by decide, by decide, by decide⟩⟩
theorem lk_L_39 : KLV RL 39 RX5 yX5_letter cX5_letter 4 (some .int) 3 := ⟨tm2 114 _ rfl rfl, tm2 115 _ rfl rfl, tm2 116 _ rfl rfl, tm1 1 _ rfl rfl, tm2 117 _ rfl rfl, ⟨rfl, by decide, by decide, by decide⟩⟩
theorem lk_L_42 : KLV RL 42 RX6 yX6_letter cX6_letter 4 (some .int) 3 := ⟨tm3 192 _ rfl rfl, tm3 193 _ rfl rfl, tm3 194 _ rfl rfl, tm1 8 _ rfl rfl, tm3 195 _ rfl rfl, ⟨rfl, by decide, by decide, by decide⟩⟩
theorem lk_L_43 : KLV RL 43 RX5 yX5_behind cX5_behind 5 (some .int) 4 := ⟨tm2 121 _ rfl rfl, tm2 122 _ rfl rfl, tm2 123 _ rfl rfl, tm1 1 _ rfl rfl, tm2 124 _ rfl rfl, ⟨rfl, by decide, by decide, by decide⟩⟩
theorem lk_L_47 : KLV RL 47 RX6 yX6_behind cX6_behind 5 (some .int) 4 := ⟨tm3 196 _ rfl rfl, tm3 197 _ rfl rfl, tm3 198 _ rfl rfl, tm1 8 _ rfl rfl, tm3 199 _ rfl rfl, ⟨rfl, by decide, by decide, by decide⟩⟩
theorem lk_L_48 : KLV RL 48 RX5 yX5_same cX5_same 3 (some .int) 2 := ⟨tm2 151 _ rfl rfl, tm2 152 _ rfl rfl, tm2 153 _ rfl rfl, tm1 1 _ rfl rfl, tm2 154 _ rfl rfl, ⟨rfl, by decide, by decide, by decide⟩⟩
theorem lk_L_51 : KLV RL 51 RX6 yX6_same cX6_same 7 (some .int) 2 := ⟨tm3 216 _ rfl rfl, tm3 217 _ rfl rfl, tm3 218 _ rfl rfl, tm1 8 _ rfl rfl, tm3 219 _ rfl rfl, ⟨rfl, by decide, by decide, by decide⟩⟩
theorem lk_L_52 : KLV RL 52 RX5 yX5_alike cX5_alike 3 (some .int) 2 := ⟨tm2 181 _ rfl rfl, tm2 182 _ rfl rfl, tm2 183 _ rfl rfl, tm1 1 _ rfl rfl, tm2 184 _ rfl rfl, ⟨rfl, by decide, by decide, by decide⟩⟩
theorem lk_L_55 : KLV RL 55 RX6 yX6_alike cX6_alike 5 (some .int) 2 := ⟨tm3 228 _ rfl rfl, tm3 229 _ rfl rfl, tm3 230 _ rfl rfl, tm1 8 _ rfl rfl, tm3 231 _ rfl rfl, ⟨rfl, by decide, by decide, by decide⟩⟩
theorem lk_L_56 : KLV RL 56 RX5 yX5_best cX5_best 7 (some .int) 2 := ⟨tm2 185 _ rfl rfl, tm2 186 _ rfl rfl, tm2 187 _ rfl rfl, tm1 1 _ rfl rfl, tm2 188 _ rfl rfl, ⟨rfl, by decide, by decide, by decide⟩⟩
theorem lk_L_59 : KLV RL 59 RX6 yX6_best cX6_best 7 (some .int) 2 := ⟨tm3 236 _ rfl rfl, tm3 237 _ rfl rfl, tm3 238 _ rfl rfl, tm1 8 _ rfl rfl, tm3 239 _ rfl rfl, ⟨rfl, by decide, by decide, by decide⟩⟩
theorem lk_L_60 : KLV RL 60 RX5 yX5_from cX5_from 4 (some .int) 2 := ⟨tm2 193 _ rfl rfl, tm2 194 _ rfl rfl, tm2 195 _ rfl rfl, tm1 1 _ rfl rfl, tm2 196 _ rfl rfl, ⟨rfl, by decide, by decide, by decide⟩⟩
theorem lk_L_63 : KLV RL 63 RX6 yX6_from cX6_from 4 (some .int) 2 := ⟨tm4 4 _ rfl rfl, tm4 5 _ rfl rfl, tm4 6 _ rfl rfl, tm1 8 _ rfl rfl, tm4 7 _ rfl rfl, ⟨rfl, by decide, by decide, by decide⟩⟩
theorem lk_L_64 : KLV RL 64 RX5 yX5_lost cX5_lost 4 (some .int) 3 := ⟨tm2 197 _ rfl rfl, tm2 198 _ rfl rfl, tm2 199 _ rfl rfl, tm1 1 _ rfl rfl, tm2 200 _ rfl rfl, ⟨rfl, by decide, by decide, by decide⟩⟩
theorem lk_L_67 : KLV RL 67 RX6 yX6_lost cX6_lost 4 (some .int) 3 := ⟨tm4 8 _ rfl rfl, tm4 9 _ rfl rfl, tm4 10 _ rfl rfl, tm1 8 _ rfl rfl, tm4 11 _ rfl rfl, ⟨rfl, by decide, by decide, by decide⟩⟩
theorem lk_L_68 : KLV RL 68 RX5 yX5_worst cX5_worst 8 (some .int) 2 := ⟨tm2 209 _ rfl rfl, tm2 210 _ rfl rfl, tm2 211 _ rfl rfl, tm1 1 _ rfl rfl, tm2 212 _ rfl rfl, ⟨rfl, by decide, by decide, by decide⟩⟩
theorem lk_L_71 : KLV RL 71 RX6 yX6_worst cX6_worst 8 (some .int) 2 := ⟨tm4 24 _ rfl rfl, tm4 25 _ rfl rfl, tm4 26 _ rfl rfl, tm1 8 _ rfl rfl, tm4 27 _ rfl rfl, ⟨rfl, by decide, by decide, by decide⟩⟩
theorem lk_L_72 : KLV RL 72 RX5 yX5_comes cX5_comes 8 (some .int) 4 := ⟨tm2 213 _ rfl rfl, tm2 214 _ rfl rfl, tm2 215 _ rfl rfl, tm1 1 _ rfl rfl, tm2 216 _ rfl rfl, ⟨rfl, by decide, by decide, by decide⟩⟩
theorem lk_L_75 : KLV RL 75 RX6 yX6_comes cX6_comes 8 (some .int) 4 := ⟨tm4 28 _ rfl rfl, tm4 29 _ rfl rfl, tm4 30 _ rfl rfl, tm1 8 _ rfl rfl, tm4 31 _ rfl rfl, ⟨rfl, by decide, by decide, by decide⟩⟩
theorem lk_L_76 : KLV RL 76 RX5 yX5_image cX5_image 2 (some .int) 1 := ⟨tm2 221 _ rfl rfl, tm2 222 _ rfl rfl, tm2 223 _ rfl rfl, tm1 1 _ rfl rfl, tm2 224 _ rfl rfl, ⟨rfl, by decide, by decide, by decide⟩⟩
theorem lk_L_80 : KLV RL 80 RX6 yX6_image cX6_image 3 (some .int) 1 := ⟨tm4 32 _ rfl rfl, tm4 33 _ rfl rfl, tm4 34 _ rfl rfl, tm1 8 _ rfl rfl, tm4 35 _ rfl rfl, ⟨rfl, by decide, by decide, by decide⟩⟩
theorem lk_L_81 : KLV RL 81 RX5 yX5_restore cX5_restore 2 (some .int) 1 := ⟨tm2 235 _ rfl rfl, tm2 236 _ rfl rfl, tm2 237 _ rfl rfl, tm1 1 _ rfl rfl, tm2 238 _ rfl rfl, ⟨rfl, by decide, by decide, by decide⟩⟩
theorem lk_L_84 : KLV RL 84 RX6 yX6_restore cX6_restore 3 (some .int) 1 := ⟨tm4 36 _ rfl rfl, tm4 37 _ rfl rfl, tm4 38 _ rfl rfl, tm1 8 _ rfl rfl, tm4 39 _ rfl rfl, ⟨rfl, by decide, by decide, by decide⟩⟩
theorem lk_L_85 : KLV RL 85 RX5 yX5_count cX5_count 2 (some .int) 1 := ⟨tm2 239 _ rfl rfl, tm3 0 _ rfl rfl, tm3 1 _ rfl rfl, tm1 1 _ rfl rfl, tm3 2 _ rfl rfl, ⟨rfl, by decide, by decide, by decide⟩⟩
theorem lk_L_88 : KLV RL 88 RX6 yX6_count cX6_count 2 (some .int) 1 := ⟨tm4 40 _ rfl rfl, tm4 41 _ rfl rfl, tm4 42 _ rfl rfl, tm1 8 _ rfl rfl, tm4 43 _ rfl rfl, ⟨rfl, by decide, by decide, by decide⟩⟩
theorem lo_X0_3 : Cond.methodLink RX0 3 objectInit ∈ TT := tm1 107 _ rfl rfl
theorem lf_X0_9 : Cond.fieldLink RX0 9 "SumsForAll$Busy" "inRound" "[I" ∈ TT := tm1 108 _ rfl rfl
theorem lf_X0_15 : Cond.fieldLink RX0 15 "SumsForAll$Busy" "inAll" "[I" ∈ TT := tm1 109 _ rfl rfl
theorem lf_X0_18 : Cond.fieldLink RX0 18 "SumsForAll$Busy" "time" "I" ∈ TT := tm1 110 _ rfl rfl
theorem lf_X0_22 : Cond.fieldLink RX0 22 "SumsForAll$Busy" "longestRound" "I" ∈ TT := tm1 112 _ rfl rfl
theorem lk_X0_25 : KLS RX0 25 yJ7_fill_53178 cJ7_fill_53178 4 none 2 := ⟨tm2 77 _ rfl rfl, tm1 37 _ rfl rfl, tm1 4 _ rfl rfl, tm1 38 _ rfl rfl, ⟨by decide, by decide, by decide⟩⟩
theorem lf_X0_31 : Cond.fieldLinkNest RX0 31 "SumsForAll$Letters" "rounds" "I" "SumsForAll" ∈ nestT := List.mem_of_getElem? (i := 11) rfl
theorem lf_X0_36 : Cond.fieldLinkNest RX0 36 "SumsForAll$Letters" "written" "I" "SumsForAll" ∈ nestT := List.mem_of_getElem? (i := 7) rfl
theorem lk_X0_39 : KLV RX0 39 RX1 yX1_told cX1_told 3 (some .int) 2 := ⟨tm2 78 _ rfl rfl, tm2 79 _ rfl rfl, tm2 80 _ rfl rfl, tm1 5 _ rfl rfl, tm2 81 _ rfl rfl, ⟨rfl, by decide, by decide, by decide⟩⟩
theorem lk_X0_43 : KLV RX0 43 RX4 yX4_priceOf cX4_priceOf 4 (some .int) 2 := ⟨tm2 87 _ rfl rfl, tm2 88 _ rfl rfl, tm2 89 _ rfl rfl, tm1 2 _ rfl rfl, tm2 90 _ rfl rfl, ⟨rfl, by decide, by decide, by decide⟩⟩
theorem lk_X0_49 : KLV RX0 49 RX0 yX0_charge cX0_charge 3 none 2 := ⟨tm2 93 _ rfl rfl, tm2 95 _ rfl rfl, tm0 16 _ rfl rfl, tm1 6 _ rfl rfl, tm2 96 _ rfl rfl, ⟨rfl, by decide, by decide, by decide⟩⟩
theorem lk_X0_53 : KLV RX0 53 RX0 yX0_longestInRound cX0_longestInRound 3 (some .int) 0 := ⟨tm2 98 _ rfl rfl, tm2 100 _ rfl rfl, tm0 17 _ rfl rfl, tm1 6 _ rfl rfl, tm2 101 _ rfl rfl, ⟨rfl, by decide, by decide, by decide⟩⟩
theorem lk_X0_57 : KLSN RX0 57 yX5_isWithin "SumsForAll" cX5_isWithin 3 (some .boolean) 3 := ⟨List.mem_of_getElem? (i := 24) rfl, tm1 169 _ rfl rfl, tm1 1 _ rfl rfl, tm1 170 _ rfl rfl, ⟨by decide, by decide, by decide⟩⟩
theorem lo_X0_61 : Cond.methodLink RX0 61 Lib.Math.max.name ∈ TT := tm2 102 _ rfl rfl
theorem lo_X1_3 : Cond.methodLink RX1 3 objectInit ∈ TT := tm1 73 _ rfl rfl
theorem lf_X1_9 : Cond.fieldLink RX1 9 "SumsForAll$Letters" "table" "[I" ∈ TT := tm1 74 _ rfl rfl
theorem lf_X1_15 : Cond.fieldLink RX1 15 "SumsForAll$Letters" "written" "I" ∈ TT := tm1 75 _ rfl rfl
theorem lf_X1_19 : Cond.fieldLink RX1 19 "SumsForAll$Letters" "rounds" "I" ∈ TT := tm1 79 _ rfl rfl
theorem lf_X1_22 : Cond.fieldLink RX1 22 "SumsForAll$Letters" "many" "I" ∈ TT := tm1 83 _ rfl rfl
theorem lf_X1_25 : Cond.fieldLink RX1 25 "SumsForAll$Letters" "size" "I" ∈ TT := tm1 84 _ rfl rfl
theorem lf_X1_28 : Cond.fieldLink RX1 28 "SumsForAll$Letters" "spanFirst" "[I" ∈ TT := tm1 85 _ rfl rfl
theorem lf_X1_31 : Cond.fieldLink RX1 31 "SumsForAll$Letters" "spanLength" "[I" ∈ TT := tm1 86 _ rfl rfl
theorem lo_X1_34 : Cond.methodLink RX1 34 Lib.Math.min.name ∈ TT := tm2 7 _ rfl rfl
theorem lk_X1_40 : KLV RX1 40 RX1 yX1_writeRing cX1_writeRing 3 none 0 := ⟨tm2 10 _ rfl rfl, tm2 12 _ rfl rfl, tm0 2 _ rfl rfl, tm1 5 _ rfl rfl, tm2 13 _ rfl rfl, ⟨rfl, by decide, by decide, by decide⟩⟩
theorem lk_X1_43 : KLV RX1 43 RX1 yX1_writeHalves cX1_writeHalves 3 none 0 := ⟨tm2 34 _ rfl rfl, tm2 36 _ rfl rfl, tm0 8 _ rfl rfl, tm1 5 _ rfl rfl, tm2 37 _ rfl rfl, ⟨rfl, by decide, by decide, by decide⟩⟩
theorem lk_X1_46 : KLV RX1 46 RX1 yX1_writeTree cX1_writeTree 4 none 0 := ⟨tm2 55 _ rfl rfl, tm2 57 _ rfl rfl, tm0 13 _ rfl rfl, tm1 5 _ rfl rfl, tm2 58 _ rfl rfl, ⟨rfl, by decide, by decide, by decide⟩⟩
theorem lk_X1_49 : KLV RX1 49 RX1 yX1_writeEach cX1_writeEach 2 none 0 := ⟨tm2 69 _ rfl rfl, tm2 71 _ rfl rfl, tm0 15 _ rfl rfl, tm1 5 _ rfl rfl, tm2 72 _ rfl rfl, ⟨rfl, by decide, by decide, by decide⟩⟩
theorem lk_X1_52 : KLV RX1 52 RX1 yX1_has cX1_has 2 (some .boolean) 1 := ⟨tm2 82 _ rfl rfl, tm2 83 _ rfl rfl, tm2 84 _ rfl rfl, tm1 5 _ rfl rfl, tm2 85 _ rfl rfl, ⟨rfl, by decide, by decide, by decide⟩⟩
theorem lk_X1_56 : KLSN RX1 56 yX5_isWithin "SumsForAll" cX5_isWithin 3 (some .boolean) 3 := ⟨List.mem_of_getElem? (i := 23) rfl, tm1 169 _ rfl rfl, tm1 1 _ rfl rfl, tm1 170 _ rfl rfl, ⟨by decide, by decide, by decide⟩⟩
theorem lk_X1_60 : KLV RX1 60 RX1 yX1_told cX1_told 3 (some .int) 2 := ⟨tm2 109 _ rfl rfl, tm2 79 _ rfl rfl, tm2 80 _ rfl rfl, tm1 5 _ rfl rfl, tm2 81 _ rfl rfl, ⟨rfl, by decide, by decide, by decide⟩⟩
theorem lk_X1_63 : KLV RX1 63 RX1 yX1_send cX1_send 7 none 5 := ⟨tm2 26 _ rfl rfl, tm2 28 _ rfl rfl, tm0 6 _ rfl rfl, tm1 5 _ rfl rfl, tm2 29 _ rfl rfl, ⟨rfl, by decide, by decide, by decide⟩⟩
theorem lk_X1_67 : KLV RX1 67 RX1 yX1_aroundTheRing cX1_aroundTheRing 2 (some .int) 1 := ⟨tm2 14 _ rfl rfl, tm2 16 _ rfl rfl, tm0 3 _ rfl rfl, tm1 5 _ rfl rfl, tm2 17 _ rfl rfl, ⟨rfl, by decide, by decide, by decide⟩⟩
theorem lk_X1_71 : KLV RX1 71 RX1 yX1_sendPart cX1_sendPart 5 none 3 := ⟨tm2 18 _ rfl rfl, tm2 20 _ rfl rfl, tm0 4 _ rfl rfl, tm1 5 _ rfl rfl, tm2 21 _ rfl rfl, ⟨rfl, by decide, by decide, by decide⟩⟩
theorem lk_X1_75 : KLV RX1 75 RX1 yX1_endRound cX1_endRound 1 none 0 := ⟨tm2 30 _ rfl rfl, tm2 32 _ rfl rfl, tm0 7 _ rfl rfl, tm1 5 _ rfl rfl, tm2 33 _ rfl rfl, ⟨rfl, by decide, by decide, by decide⟩⟩
theorem lk_X1_78 : KLV RX1 78 RX1 yX1_partStart cX1_partStart 2 (some .int) 1 := ⟨tm2 22 _ rfl rfl, tm2 24 _ rfl rfl, tm0 5 _ rfl rfl, tm1 5 _ rfl rfl, tm2 25 _ rfl rfl, ⟨rfl, by decide, by decide, by decide⟩⟩
theorem lk_X1_81 : KLV RX1 81 RX1 yX1_greatestPowerOfTwo cX1_greatestPowerOfTwo 3 (some .int) 0 := ⟨tm2 38 _ rfl rfl, tm2 40 _ rfl rfl, tm0 9 _ rfl rfl, tm1 5 _ rfl rfl, tm2 41 _ rfl rfl, ⟨rfl, by decide, by decide, by decide⟩⟩
theorem lk_X1_85 : KLV RX1 85 RX1 yX1_sendWhole cX1_sendWhole 4 none 3 := ⟨tm2 42 _ rfl rfl, tm2 44 _ rfl rfl, tm0 10 _ rfl rfl, tm1 5 _ rfl rfl, tm2 45 _ rfl rfl, ⟨rfl, by decide, by decide, by decide⟩⟩
theorem lk_X1_88 : KLS RX1 88 yJ7_fill_53178 cJ7_fill_53178 4 none 2 := ⟨tm2 46 _ rfl rfl, tm1 37 _ rfl rfl, tm1 4 _ rfl rfl, tm1 38 _ rfl rfl, ⟨by decide, by decide, by decide⟩⟩
theorem lk_X1_94 : KLV RX1 94 RX1 yX1_writeHalving cX1_writeHalving 7 none 2 := ⟨tm2 47 _ rfl rfl, tm2 49 _ rfl rfl, tm0 11 _ rfl rfl, tm1 5 _ rfl rfl, tm2 50 _ rfl rfl, ⟨rfl, by decide, by decide, by decide⟩⟩
theorem lk_X1_98 : KLV RX1 98 RX1 yX1_writeDoubling cX1_writeDoubling 4 none 2 := ⟨tm2 51 _ rfl rfl, tm2 53 _ rfl rfl, tm0 12 _ rfl rfl, tm1 5 _ rfl rfl, tm2 54 _ rfl rfl, ⟨rfl, by decide, by decide, by decide⟩⟩
theorem lk_X1_101 : KLV RX1 101 RX1 yX1_deepestLevel cX1_deepestLevel 3 (some .int) 0 := ⟨tm2 59 _ rfl rfl, tm2 61 _ rfl rfl, tm0 14 _ rfl rfl, tm1 5 _ rfl rfl, tm2 62 _ rfl rfl, ⟨rfl, by decide, by decide, by decide⟩⟩
theorem lk_X1_104 : KLS RX1 104 yX1_firstOnLevel cX1_firstOnLevel 1 (some .int) 1 := ⟨tm2 63 _ rfl rfl, tm2 64 _ rfl rfl, tm1 5 _ rfl rfl, tm2 65 _ rfl rfl, ⟨by decide, by decide, by decide⟩⟩
theorem lk_X1_107 : KLS RX1 107 yX1_upper cX1_upper 1 (some .int) 1 := ⟨tm2 66 _ rfl rfl, tm2 67 _ rfl rfl, tm1 5 _ rfl rfl, tm2 68 _ rfl rfl, ⟨by decide, by decide, by decide⟩⟩
theorem lo_X2_3 : Cond.methodLink RX2 3 objectInit ∈ TT := tm1 128 _ rfl rfl
theorem lc_X2_9 : Cond.classLink RX2 9 RX3 ∈ TT := tm1 129 _ rfl rfl
theorem lk_X2_11 : KLIN RX2 11 yX3_init "SumsForAll" cX3_init 1 0 := ⟨List.mem_of_getElem? (i := 20) rfl, tm1 28 _ rfl rfl, tm1 3 _ rfl rfl, tm1 29 _ rfl rfl, rfl, ⟨by decide, by decide, by decide⟩⟩
theorem lf_X2_12 : Cond.fieldLink RX2 12 "SumsForAll$Play" "rows" "LSumsForAll$Rows;" ∈ TT := tm1 131 _ rfl rfl
theorem lf_X2_18 : Cond.fieldLink RX2 18 "SumsForAll$Play" "atRoundStart" "LSumsForAll$Rows;" ∈ TT := tm1 133 _ rfl rfl
theorem lf_X2_21 : Cond.fieldLinkNest RX2 21 "SumsForAll$Setting" "rows" "LSumsForAll$Rows;" "SumsForAll" ∈ nestT := List.mem_of_getElem? (i := 0) rfl
theorem lk_X2_24 : KLV RX2 24 RX3 yX3_copyFrom cX3_copyFrom 2 none 1 := ⟨tm2 129 _ rfl rfl, tm2 130 _ rfl rfl, tm2 131 _ rfl rfl, tm1 3 _ rfl rfl, tm2 132 _ rfl rfl, ⟨rfl, by decide, by decide, by decide⟩⟩
theorem lf_X2_28 : Cond.fieldLinkNest RX2 28 "SumsForAll$Letters" "rounds" "I" "SumsForAll" ∈ nestT := List.mem_of_getElem? (i := 10) rfl
theorem lf_X2_34 : Cond.fieldLinkNest RX2 34 "SumsForAll$Letters" "written" "I" "SumsForAll" ∈ nestT := List.mem_of_getElem? (i := 8) rfl
theorem lk_X2_37 : KLV RX2 37 RX1 yX1_told cX1_told 3 (some .int) 2 := ⟨tm2 136 _ rfl rfl, tm2 79 _ rfl rfl, tm2 80 _ rfl rfl, tm1 5 _ rfl rfl, tm2 81 _ rfl rfl, ⟨rfl, by decide, by decide, by decide⟩⟩
theorem lk_X2_41 : KLV RX2 41 RX2 yX2_deliver cX2_deliver 12 none 3 := ⟨tm2 137 _ rfl rfl, tm2 139 _ rfl rfl, tm0 18 _ rfl rfl, tm1 7 _ rfl rfl, tm2 140 _ rfl rfl, ⟨rfl, by decide, by decide, by decide⟩⟩
theorem lk_X2_45 : KLV RX2 45 RX3 yX3_get cX3_get 3 (some .int) 2 := ⟨tm2 141 _ rfl rfl, tm1 194 _ rfl rfl, tm1 195 _ rfl rfl, tm1 3 _ rfl rfl, tm1 196 _ rfl rfl, ⟨rfl, by decide, by decide, by decide⟩⟩
theorem lk_X2_48 : KLS RX2 48 yX2_received cX2_received 4 (some .int) 4 := ⟨tm2 142 _ rfl rfl, tm2 143 _ rfl rfl, tm1 7 _ rfl rfl, tm2 144 _ rfl rfl, ⟨by decide, by decide, by decide⟩⟩
theorem lk_X2_52 : KLV RX2 52 RX3 yX3_set cX3_set 4 none 3 := ⟨tm2 150 _ rfl rfl, tm1 202 _ rfl rfl, tm1 203 _ rfl rfl, tm1 3 _ rfl rfl, tm1 204 _ rfl rfl, ⟨rfl, by decide, by decide, by decide⟩⟩
theorem lk_X2_56 : KLV RX2 56 RX4 yX4_mixed cX4_mixed 3 (some .int) 2 := ⟨tm2 145 _ rfl rfl, tm2 146 _ rfl rfl, tm2 147 _ rfl rfl, tm1 2 _ rfl rfl, tm2 148 _ rfl rfl, ⟨rfl, by decide, by decide, by decide⟩⟩
theorem lo_X3_3 : Cond.methodLink RX3 3 objectInit ∈ TT := tm1 30 _ rfl rfl
theorem lf_X3_9 : Cond.fieldLink RX3 9 "SumsForAll$Rows" "numbers" "[I" ∈ TT := tm1 31 _ rfl rfl
theorem lk_X3_15 : KLS RX3 15 yX3_isInside cX3_isInside 2 (some .boolean) 2 := ⟨tm1 197 _ rfl rfl, tm1 198 _ rfl rfl, tm1 3 _ rfl rfl, tm1 199 _ rfl rfl, ⟨by decide, by decide, by decide⟩⟩
theorem lk_X3_19 : KLS RX3 19 yJ7_fill_53178 cJ7_fill_53178 4 none 2 := ⟨tm1 179 _ rfl rfl, tm1 37 _ rfl rfl, tm1 4 _ rfl rfl, tm1 38 _ rfl rfl, ⟨by decide, by decide, by decide⟩⟩
theorem lo_X3_25 : Cond.methodLink RX3 25 arraycopyName ∈ TT := tm2 133 _ rfl rfl
theorem lk_X3_31 : KLV RX3 31 RX3 yX3_get cX3_get 3 (some .int) 2 := ⟨tm2 167 _ rfl rfl, tm1 194 _ rfl rfl, tm1 195 _ rfl rfl, tm1 3 _ rfl rfl, tm1 196 _ rfl rfl, ⟨rfl, by decide, by decide, by decide⟩⟩
theorem lk_X3_35 : KLSN RX3 35 yX5_isWithin "SumsForAll" cX5_isWithin 3 (some .boolean) 3 := ⟨List.mem_of_getElem? (i := 22) rfl, tm1 169 _ rfl rfl, tm1 1 _ rfl rfl, tm1 170 _ rfl rfl, ⟨by decide, by decide, by decide⟩⟩
theorem lo_X4_3 : Cond.methodLink RX4 3 objectInit ∈ TT := tm1 24 _ rfl rfl
theorem lc_X4_9 : Cond.classLink RX4 9 RX3 ∈ TT := tm1 25 _ rfl rfl
theorem lk_X4_11 : KLIN RX4 11 yX3_init "SumsForAll" cX3_init 1 0 := ⟨List.mem_of_getElem? (i := 16) rfl, tm1 28 _ rfl rfl, tm1 3 _ rfl rfl, tm1 29 _ rfl rfl, rfl, ⟨by decide, by decide, by decide⟩⟩
theorem lf_X4_12 : Cond.fieldLink RX4 12 "SumsForAll$Setting" "rows" "LSumsForAll$Rows;" ∈ TT := tm1 39 _ rfl rfl
theorem lf_X4_18 : Cond.fieldLink RX4 18 "SumsForAll$Setting" "slows" "[I" ∈ TT := tm1 42 _ rfl rfl
theorem lf_X4_22 : Cond.fieldLink RX4 22 "SumsForAll$Setting" "many" "I" ∈ TT := tm1 43 _ rfl rfl
theorem lf_X4_26 : Cond.fieldLink RX4 26 "SumsForAll$Setting" "size" "I" ∈ TT := tm1 45 _ rfl rfl
theorem lf_X4_29 : Cond.fieldLink RX4 29 "SumsForAll$Setting" "op" "I" ∈ TT := tm1 47 _ rfl rfl
theorem lf_X4_32 : Cond.fieldLink RX4 32 "SumsForAll$Setting" "start" "I" ∈ TT := tm1 49 _ rfl rfl
theorem lf_X4_35 : Cond.fieldLink RX4 35 "SumsForAll$Setting" "each" "I" ∈ TT := tm1 51 _ rfl rfl
theorem lk_X4_38 : KLS RX4 38 yJ7_fill_53178 cJ7_fill_53178 4 none 2 := ⟨tm1 36 _ rfl rfl, tm1 37 _ rfl rfl, tm1 4 _ rfl rfl, tm1 38 _ rfl rfl, ⟨by decide, by decide, by decide⟩⟩
theorem lk_X4_44 : KLV RX4 44 RX3 yX3_clear cX3_clear 1 none 0 := ⟨tm1 175 _ rfl rfl, tm1 176 _ rfl rfl, tm1 177 _ rfl rfl, tm1 3 _ rfl rfl, tm1 178 _ rfl rfl, ⟨rfl, by decide, by decide, by decide⟩⟩
theorem lk_X4_47 : KLV RX4 47 RX3 yX3_copyFrom cX3_copyFrom 2 none 1 := ⟨tm2 233 _ rfl rfl, tm2 130 _ rfl rfl, tm2 131 _ rfl rfl, tm1 3 _ rfl rfl, tm2 132 _ rfl rfl, ⟨rfl, by decide, by decide, by decide⟩⟩
theorem lo_X4_51 : Cond.methodLink RX4 51 arraycopyName ∈ TT := tm2 234 _ rfl rfl
theorem lk_X4_57 : KLSN RX4 57 yX5_isWithin "SumsForAll" cX5_isWithin 3 (some .boolean) 3 := ⟨List.mem_of_getElem? (i := 21) rfl, tm1 169 _ rfl rfl, tm1 1 _ rfl rfl, tm1 170 _ rfl rfl, ⟨by decide, by decide, by decide⟩⟩
theorem lk_X4_61 : KLS RX4 61 yX4_hasLine cX4_hasLine 2 (some .boolean) 2 := ⟨tm1 221 _ rfl rfl, tm1 222 _ rfl rfl, tm1 2 _ rfl rfl, tm1 223 _ rfl rfl, ⟨by decide, by decide, by decide⟩⟩
theorem lo_X4_65 : Cond.methodLink RX4 65 Lib.Math.max.name ∈ TT := tm2 149 _ rfl rfl
theorem lk_X4_71 : KLV RX4 71 RX3 yX3_get cX3_get 3 (some .int) 2 := ⟨tm2 179 _ rfl rfl, tm1 194 _ rfl rfl, tm1 195 _ rfl rfl, tm1 3 _ rfl rfl, tm1 196 _ rfl rfl, ⟨rfl, by decide, by decide, by decide⟩⟩
theorem lk_X4_74 : KLV RX4 74 RX4 yX4_mixed cX4_mixed 3 (some .int) 2 := ⟨tm2 180 _ rfl rfl, tm2 146 _ rfl rfl, tm2 147 _ rfl rfl, tm1 2 _ rfl rfl, tm2 148 _ rfl rfl, ⟨rfl, by decide, by decide, by decide⟩⟩
theorem lk_X4_77 : KLV RX4 77 RX1 yX1_told cX1_told 3 (some .int) 2 := ⟨tm2 91 _ rfl rfl, tm2 79 _ rfl rfl, tm2 80 _ rfl rfl, tm1 5 _ rfl rfl, tm2 81 _ rfl rfl, ⟨rfl, by decide, by decide, by decide⟩⟩
theorem lk_X4_82 : KLV RX4 82 RX4 yX4_slowness cX4_slowness 3 (some .int) 2 := ⟨tm2 92 _ rfl rfl, tm1 218 _ rfl rfl, tm1 219 _ rfl rfl, tm1 2 _ rfl rfl, tm1 220 _ rfl rfl, ⟨rfl, by decide, by decide, by decide⟩⟩
theorem lo_X5_1 : Cond.methodLink RX5 1 objectInit ∈ TT := tm1 16 _ rfl rfl
theorem lc_X5_7 : Cond.classLink RX5 7 RX4 ∈ TT := tm1 19 _ rfl rfl
theorem lk_X5_9 : KLI RX5 9 yX4_init cX4_init 1 0 := ⟨tm1 21 _ rfl rfl, tm1 22 _ rfl rfl, tm1 2 _ rfl rfl, tm1 23 _ rfl rfl, rfl, ⟨by decide, by decide, by decide⟩⟩
theorem lf_X5_10 : Cond.fieldLink RX5 10 "SumsForAll" "now" "LSumsForAll$Setting;" ∈ TT := tm1 139 _ rfl rfl
theorem lf_X5_16 : Cond.fieldLink RX5 16 "SumsForAll" "image0" "LSumsForAll$Setting;" ∈ TT := tm1 140 _ rfl rfl
theorem lf_X5_19 : Cond.fieldLink RX5 19 "SumsForAll" "image1" "LSumsForAll$Setting;" ∈ TT := tm1 141 _ rfl rfl
theorem lf_X5_22 : Cond.fieldLink RX5 22 "SumsForAll" "keptImages" "I" ∈ TT := tm1 142 _ rfl rfl
theorem lc_X5_26 : Cond.classLink RX5 26 RX1 ∈ TT := tm1 68 _ rfl rfl
theorem lk_X5_28 : KLIN RX5 28 yX1_init "SumsForAll" cX1_init 1 0 := ⟨List.mem_of_getElem? (i := 17) rfl, tm1 71 _ rfl rfl, tm1 5 _ rfl rfl, tm1 72 _ rfl rfl, rfl, ⟨by decide, by decide, by decide⟩⟩
theorem lf_X5_29 : Cond.fieldLink RX5 29 "SumsForAll" "letters" "LSumsForAll$Letters;" ∈ TT := tm1 143 _ rfl rfl
theorem lc_X5_33 : Cond.classLink RX5 33 RX0 ∈ TT := tm1 102 _ rfl rfl
theorem lk_X5_35 : KLIN RX5 35 yX0_init "SumsForAll" cX0_init 1 0 := ⟨List.mem_of_getElem? (i := 18) rfl, tm1 105 _ rfl rfl, tm1 6 _ rfl rfl, tm1 106 _ rfl rfl, rfl, ⟨by decide, by decide, by decide⟩⟩
theorem lf_X5_36 : Cond.fieldLink RX5 36 "SumsForAll" "busy" "LSumsForAll$Busy;" ∈ TT := tm1 144 _ rfl rfl
theorem lc_X5_40 : Cond.classLink RX5 40 RX2 ∈ TT := tm1 123 _ rfl rfl
theorem lk_X5_42 : KLIN RX5 42 yX2_init "SumsForAll" cX2_init 1 0 := ⟨List.mem_of_getElem? (i := 19) rfl, tm1 126 _ rfl rfl, tm1 7 _ rfl rfl, tm1 127 _ rfl rfl, rfl, ⟨by decide, by decide, by decide⟩⟩
theorem lf_X5_43 : Cond.fieldLink RX5 43 "SumsForAll" "usual" "LSumsForAll$Play;" ∈ TT := tm1 145 _ rfl rfl
theorem lf_X5_47 : Cond.fieldLink RX5 47 "SumsForAll" "another" "LSumsForAll$Play;" ∈ TT := tm1 146 _ rfl rfl
theorem lk_X5_50 : KLS RX5 50 yX5_isWithin cX5_isWithin 3 (some .boolean) 3 := ⟨tm1 168 _ rfl rfl, tm1 169 _ rfl rfl, tm1 1 _ rfl rfl, tm1 170 _ rfl rfl, ⟨by decide, by decide, by decide⟩⟩
theorem lf_X5_54 : Cond.fieldLinkNest RX5 54 "SumsForAll$Setting" "many" "I" "SumsForAll" ∈ nestT := List.mem_of_getElem? (i := 2) rfl
theorem lk_X5_57 : KLV RX5 57 RX4 yX4_begin cX4_begin 3 none 2 := ⟨tm1 171 _ rfl rfl, tm1 172 _ rfl rfl, tm1 173 _ rfl rfl, tm1 2 _ rfl rfl, tm1 174 _ rfl rfl, ⟨rfl, by decide, by decide, by decide⟩⟩
theorem lk_X5_61 : KLV RX5 61 RX4 yX4_hasMachine cX4_hasMachine 2 (some .boolean) 1 := ⟨tm1 184 _ rfl rfl, tm1 185 _ rfl rfl, tm1 186 _ rfl rfl, tm1 2 _ rfl rfl, tm1 187 _ rfl rfl, ⟨rfl, by decide, by decide, by decide⟩⟩
theorem lk_X5_65 : KLV RX5 65 RX4 yX4_hasPlace cX4_hasPlace 2 (some .boolean) 1 := ⟨tm1 189 _ rfl rfl, tm1 190 _ rfl rfl, tm1 191 _ rfl rfl, tm1 2 _ rfl rfl, tm1 192 _ rfl rfl, ⟨rfl, by decide, by decide, by decide⟩⟩
theorem lf_X5_68 : Cond.fieldLinkNest RX5 68 "SumsForAll$Setting" "rows" "LSumsForAll$Rows;" "SumsForAll" ∈ nestT := List.mem_of_getElem? (i := 1) rfl
theorem lk_X5_72 : KLV RX5 72 RX3 yX3_get cX3_get 3 (some .int) 2 := ⟨tm1 193 _ rfl rfl, tm1 194 _ rfl rfl, tm1 195 _ rfl rfl, tm1 3 _ rfl rfl, tm1 196 _ rfl rfl, ⟨rfl, by decide, by decide, by decide⟩⟩
theorem lk_X5_78 : KLV RX5 78 RX3 yX3_set cX3_set 4 none 3 := ⟨tm1 201 _ rfl rfl, tm1 202 _ rfl rfl, tm1 203 _ rfl rfl, tm1 3 _ rfl rfl, tm1 204 _ rfl rfl, ⟨rfl, by decide, by decide, by decide⟩⟩
theorem lk_X5_82 : KLV RX5 82 RX5 yX5_ruleNow cX5_ruleNow 2 (some .int) 1 := ⟨tm1 209 _ rfl rfl, tm1 211 _ rfl rfl, tm0 0 _ rfl rfl, tm1 1 _ rfl rfl, tm1 212 _ rfl rfl, ⟨rfl, by decide, by decide, by decide⟩⟩
theorem lf_X5_86 : Cond.fieldLinkNest RX5 86 "SumsForAll$Setting" "op" "I" "SumsForAll" ∈ nestT := List.mem_of_getElem? (i := 4) rfl
theorem lf_X5_89 : Cond.fieldLinkNest RX5 89 "SumsForAll$Setting" "start" "I" "SumsForAll" ∈ nestT := List.mem_of_getElem? (i := 5) rfl
theorem lf_X5_92 : Cond.fieldLinkNest RX5 92 "SumsForAll$Setting" "each" "I" "SumsForAll" ∈ nestT := List.mem_of_getElem? (i := 6) rfl
theorem lk_X5_95 : KLV RX5 95 RX4 yX4_slowness cX4_slowness 3 (some .int) 2 := ⟨tm1 217 _ rfl rfl, tm1 218 _ rfl rfl, tm1 219 _ rfl rfl, tm1 2 _ rfl rfl, tm1 220 _ rfl rfl, ⟨rfl, by decide, by decide, by decide⟩⟩
theorem lk_X5_98 : KLV RX5 98 RX4 yX4_setSlowness cX4_setSlowness 4 none 3 := ⟨tm1 224 _ rfl rfl, tm1 225 _ rfl rfl, tm1 226 _ rfl rfl, tm1 2 _ rfl rfl, tm1 227 _ rfl rfl, ⟨rfl, by decide, by decide, by decide⟩⟩
theorem lk_X5_101 : KLS RX5 101 yX5_isWay cX5_isWay 1 (some .boolean) 1 := ⟨tm1 236 _ rfl rfl, tm1 237 _ rfl rfl, tm1 1 _ rfl rfl, tm1 238 _ rfl rfl, ⟨by decide, by decide, by decide⟩⟩
theorem lk_X5_104 : KLV RX5 104 RX5 yX5_write cX5_write 2 none 1 := ⟨tm1 239 _ rfl rfl, tm2 1 _ rfl rfl, tm0 1 _ rfl rfl, tm1 1 _ rfl rfl, tm2 2 _ rfl rfl, ⟨rfl, by decide, by decide, by decide⟩⟩
theorem lk_X5_108 : KLV RX5 108 RX0 yX0_reckon cX0_reckon 7 none 2 := ⟨tm2 73 _ rfl rfl, tm2 74 _ rfl rfl, tm2 75 _ rfl rfl, tm1 6 _ rfl rfl, tm2 76 _ rfl rfl, ⟨rfl, by decide, by decide, by decide⟩⟩
theorem lf_X5_112 : Cond.fieldLinkNest RX5 112 "SumsForAll$Letters" "rounds" "I" "SumsForAll" ∈ nestT := List.mem_of_getElem? (i := 12) rfl
theorem lf_X5_115 : Cond.fieldLinkNest RX5 115 "SumsForAll$Letters" "written" "I" "SumsForAll" ∈ nestT := List.mem_of_getElem? (i := 9) rfl
theorem lk_X5_118 : KLV RX5 118 RX1 yX1_numbersInAll cX1_numbersInAll 3 (some .int) 0 := ⟨tm2 105 _ rfl rfl, tm2 106 _ rfl rfl, tm2 107 _ rfl rfl, tm1 5 _ rfl rfl, tm2 108 _ rfl rfl, ⟨rfl, by decide, by decide, by decide⟩⟩
theorem lf_X5_122 : Cond.fieldLinkNest RX5 122 "SumsForAll$Busy" "time" "I" "SumsForAll" ∈ nestT := List.mem_of_getElem? (i := 13) rfl
theorem lf_X5_125 : Cond.fieldLinkNest RX5 125 "SumsForAll$Busy" "longestRound" "I" "SumsForAll" ∈ nestT := List.mem_of_getElem? (i := 14) rfl
theorem lk_X5_128 : KLV RX5 128 RX0 yX0_busiestMachine cX0_busiestMachine 4 (some .int) 1 := ⟨tm2 110 _ rfl rfl, tm2 111 _ rfl rfl, tm2 112 _ rfl rfl, tm1 6 _ rfl rfl, tm2 113 _ rfl rfl, ⟨rfl, by decide, by decide, by decide⟩⟩
theorem lk_X5_131 : KLV RX5 131 RX1 yX1_has cX1_has 2 (some .boolean) 1 := ⟨tm2 118 _ rfl rfl, tm2 83 _ rfl rfl, tm2 84 _ rfl rfl, tm1 5 _ rfl rfl, tm2 85 _ rfl rfl, ⟨rfl, by decide, by decide, by decide⟩⟩
theorem lk_X5_134 : KLV RX5 134 RX4 yX4_priceOf cX4_priceOf 4 (some .int) 2 := ⟨tm2 119 _ rfl rfl, tm2 88 _ rfl rfl, tm2 89 _ rfl rfl, tm1 2 _ rfl rfl, tm2 90 _ rfl rfl, ⟨rfl, by decide, by decide, by decide⟩⟩
theorem lk_X5_138 : KLV RX5 138 RX1 yX1_told cX1_told 3 (some .int) 2 := ⟨tm2 120 _ rfl rfl, tm2 79 _ rfl rfl, tm2 80 _ rfl rfl, tm1 5 _ rfl rfl, tm2 81 _ rfl rfl, ⟨rfl, by decide, by decide, by decide⟩⟩
theorem lk_X5_141 : KLV RX5 141 RX2 yX2_run cX2_run 7 none 4 := ⟨tm2 125 _ rfl rfl, tm2 126 _ rfl rfl, tm2 127 _ rfl rfl, tm1 7 _ rfl rfl, tm2 128 _ rfl rfl, ⟨rfl, by decide, by decide, by decide⟩⟩
theorem lf_X5_145 : Cond.fieldLinkNest RX5 145 "SumsForAll$Play" "rows" "LSumsForAll$Rows;" "SumsForAll" ∈ nestT := List.mem_of_getElem? (i := 15) rfl
theorem lk_X5_146 : KLV RX5 146 RX5 yX5_playToTheEnd cX5_playToTheEnd 3 none 2 := ⟨tm2 155 _ rfl rfl, tm2 157 _ rfl rfl, tm0 19 _ rfl rfl, tm1 1 _ rfl rfl, tm2 158 _ rfl rfl, ⟨rfl, by decide, by decide, by decide⟩⟩
theorem lk_X5_150 : KLV RX5 150 RX5 yX5_allRowsAreOne cX5_allRowsAreOne 3 (some .boolean) 1 := ⟨tm2 159 _ rfl rfl, tm2 161 _ rfl rfl, tm0 20 _ rfl rfl, tm1 1 _ rfl rfl, tm2 162 _ rfl rfl, ⟨rfl, by decide, by decide, by decide⟩⟩
theorem lk_X5_154 : KLS RX5 154 yX5_asNumber cX5_asNumber 1 (some .int) 1 := ⟨tm2 168 _ rfl rfl, tm2 169 _ rfl rfl, tm1 1 _ rfl rfl, tm2 170 _ rfl rfl, ⟨by decide, by decide, by decide⟩⟩
theorem lk_X5_158 : KLV RX5 158 RX5 yX5_placesMixedByRising cX5_placesMixedByRising 4 (some .int) 1 := ⟨tm2 171 _ rfl rfl, tm2 173 _ rfl rfl, tm0 21 _ rfl rfl, tm1 1 _ rfl rfl, tm2 174 _ rfl rfl, ⟨rfl, by decide, by decide, by decide⟩⟩
theorem lf_X5_162 : Cond.fieldLinkNest RX5 162 "SumsForAll$Setting" "size" "I" "SumsForAll" ∈ nestT := List.mem_of_getElem? (i := 3) rfl
theorem lk_X5_165 : KLV RX5 165 RX3 yX3_differing cX3_differing 7 (some .int) 4 := ⟨tm2 163 _ rfl rfl, tm2 164 _ rfl rfl, tm2 165 _ rfl rfl, tm1 3 _ rfl rfl, tm2 166 _ rfl rfl, ⟨rfl, by decide, by decide, by decide⟩⟩
theorem lk_X5_169 : KLV RX5 169 RX5 yX5_timeIfSizeWere cX5_timeIfSizeWere 3 (some .int) 2 := ⟨tm2 189 _ rfl rfl, tm2 191 _ rfl rfl, tm0 22 _ rfl rfl, tm1 1 _ rfl rfl, tm2 192 _ rfl rfl, ⟨rfl, by decide, by decide, by decide⟩⟩
theorem lk_X5_172 : KLV RX5 172 RX5 yX5_machinesThatDiffer cX5_machinesThatDiffer 3 (some .int) 0 := ⟨tm2 201 _ rfl rfl, tm2 203 _ rfl rfl, tm0 23 _ rfl rfl, tm1 1 _ rfl rfl, tm2 204 _ rfl rfl, ⟨rfl, by decide, by decide, by decide⟩⟩
theorem lk_X5_175 : KLV RX5 175 RX5 yX5_numbersThatDiffer cX5_numbersThatDiffer 3 (some .int) 0 := ⟨tm2 205 _ rfl rfl, tm2 207 _ rfl rfl, tm0 24 _ rfl rfl, tm1 1 _ rfl rfl, tm2 208 _ rfl rfl, ⟨rfl, by decide, by decide, by decide⟩⟩
theorem lk_X5_178 : KLV RX5 178 RX1 yX1_brings cX1_brings 4 (some .boolean) 2 := ⟨tm2 217 _ rfl rfl, tm2 218 _ rfl rfl, tm2 219 _ rfl rfl, tm1 5 _ rfl rfl, tm2 220 _ rfl rfl, ⟨rfl, by decide, by decide, by decide⟩⟩
theorem lk_X5_182 : KLV RX5 182 RX5 yX5_imageOf cX5_imageOf 2 (some (.object "SumsForAll$Setting")) 1 := ⟨tm2 225 _ rfl rfl, tm2 227 _ rfl rfl, tm0 25 _ rfl rfl, tm1 1 _ rfl rfl, tm2 228 _ rfl rfl, ⟨rfl, by decide, by decide, by decide⟩⟩
theorem lk_X5_186 : KLV RX5 186 RX4 yX4_copyFrom cX4_copyFrom 2 none 1 := ⟨tm2 229 _ rfl rfl, tm2 230 _ rfl rfl, tm2 231 _ rfl rfl, tm1 2 _ rfl rfl, tm2 232 _ rfl rfl, ⟨rfl, by decide, by decide, by decide⟩⟩
theorem lk_X5_190 : KLV RX5 190 RX4 yX4_allNumbersAdded cX4_allNumbersAdded 4 (some .int) 0 := ⟨tm3 3 _ rfl rfl, tm3 4 _ rfl rfl, tm3 5 _ rfl rfl, tm1 2 _ rfl rfl, tm3 6 _ rfl rfl, ⟨rfl, by decide, by decide, by decide⟩⟩
theorem lk_X5_193 : KLV RX5 193 RX1 yX1_write cX1_write 4 none 3 := ⟨tm2 3 _ rfl rfl, tm2 4 _ rfl rfl, tm2 5 _ rfl rfl, tm1 5 _ rfl rfl, tm2 6 _ rfl rfl, ⟨rfl, by decide, by decide, by decide⟩⟩
theorem lk_X5_195 : KLV RX5 195 RX4 yX4_mixedByRising cX4_mixedByRising 4 (some .int) 1 := ⟨tm2 175 _ rfl rfl, tm2 176 _ rfl rfl, tm2 177 _ rfl rfl, tm1 2 _ rfl rfl, tm2 178 _ rfl rfl, ⟨rfl, by decide, by decide, by decide⟩⟩
theorem lo_X6_1 : Cond.methodLink RX6 1 objectInit ∈ TT := tm3 12 _ rfl rfl
theorem lf_X6_7 : Cond.fieldLink RX6 7 "SumsForAllModel" "state" "[I" ∈ TT := tm3 17 _ rfl rfl
theorem lf_X6_13 : Cond.fieldLink RX6 13 "SumsForAllModel" "images" "[I" ∈ TT := tm3 18 _ rfl rfl
theorem lf_X6_16 : Cond.fieldLink RX6 16 "SumsForAllModel" "isKept" "[Z" ∈ TT := tm3 19 _ rfl rfl
theorem lf_X6_20 : Cond.fieldLink RX6 20 "SumsForAllModel" "round" "[I" ∈ TT := tm3 20 _ rfl rfl
theorem lf_X6_23 : Cond.fieldLink RX6 23 "SumsForAllModel" "from" "[I" ∈ TT := tm3 21 _ rfl rfl
theorem lf_X6_26 : Cond.fieldLink RX6 26 "SumsForAllModel" "to" "[I" ∈ TT := tm3 22 _ rfl rfl
theorem lf_X6_29 : Cond.fieldLink RX6 29 "SumsForAllModel" "first" "[I" ∈ TT := tm3 23 _ rfl rfl
theorem lf_X6_32 : Cond.fieldLink RX6 32 "SumsForAllModel" "much" "[I" ∈ TT := tm3 24 _ rfl rfl
theorem lf_X6_35 : Cond.fieldLink RX6 35 "SumsForAllModel" "kind" "[I" ∈ TT := tm3 25 _ rfl rfl
theorem lf_X6_38 : Cond.fieldLink RX6 38 "SumsForAllModel" "low" "[I" ∈ TT := tm3 28 _ rfl rfl
theorem lf_X6_41 : Cond.fieldLink RX6 41 "SumsForAllModel" "span" "[I" ∈ TT := tm3 29 _ rfl rfl
theorem lf_X6_44 : Cond.fieldLink RX6 44 "SumsForAllModel" "nextLow" "[I" ∈ TT := tm3 30 _ rfl rfl
theorem lf_X6_47 : Cond.fieldLink RX6 47 "SumsForAllModel" "nextSpan" "[I" ∈ TT := tm3 31 _ rfl rfl
theorem lf_X6_50 : Cond.fieldLink RX6 50 "SumsForAllModel" "now" "[I" ∈ TT := tm3 32 _ rfl rfl
theorem lf_X6_53 : Cond.fieldLink RX6 53 "SumsForAllModel" "begun" "[I" ∈ TT := tm3 33 _ rfl rfl
theorem lf_X6_56 : Cond.fieldLink RX6 56 "SumsForAllModel" "busy" "[I" ∈ TT := tm3 34 _ rfl rfl
theorem lf_X6_59 : Cond.fieldLink RX6 59 "SumsForAllModel" "busyAll" "[I" ∈ TT := tm3 35 _ rfl rfl
theorem lf_X6_62 : Cond.fieldLink RX6 62 "SumsForAllModel" "ended" "[I" ∈ TT := tm3 39 _ rfl rfl
theorem lk_X6_65 : KLV RX6 65 RX6 yX6_begin cX6_begin 4 none 2 := ⟨tm3 13 _ rfl rfl, tm3 15 _ rfl rfl, tm0 26 _ rfl rfl, tm1 8 _ rfl rfl, tm3 16 _ rfl rfl, ⟨rfl, by decide, by decide, by decide⟩⟩
theorem lk_X6_69 : KLS RX6 69 yX6_in cX6_in 3 (some .boolean) 3 := ⟨tm3 92 _ rfl rfl, tm3 93 _ rfl rfl, tm1 8 _ rfl rfl, tm3 94 _ rfl rfl, ⟨by decide, by decide, by decide⟩⟩
theorem lk_X6_73 : KLV RX6 73 RX6 yX6_isMachine cX6_isMachine 2 (some .boolean) 1 := ⟨tm3 99 _ rfl rfl, tm3 101 _ rfl rfl, tm0 27 _ rfl rfl, tm1 8 _ rfl rfl, tm3 102 _ rfl rfl, ⟨rfl, by decide, by decide, by decide⟩⟩
theorem lk_X6_77 : KLV RX6 77 RX6 yX6_isPlace cX6_isPlace 2 (some .boolean) 1 := ⟨tm3 103 _ rfl rfl, tm3 105 _ rfl rfl, tm0 28 _ rfl rfl, tm1 8 _ rfl rfl, tm3 106 _ rfl rfl, ⟨rfl, by decide, by decide, by decide⟩⟩
theorem lk_X6_80 : KLS RX6 80 yX6_cell cX6_cell 2 (some .int) 2 := ⟨tm3 107 _ rfl rfl, tm3 108 _ rfl rfl, tm1 8 _ rfl rfl, tm3 109 _ rfl rfl, ⟨by decide, by decide, by decide⟩⟩
theorem lf_X6_84 : Cond.fieldLink RX6 84 "SumsForAllModel" "letters" "I" ∈ TT := tm3 26 _ rfl rfl
theorem lf_X6_88 : Cond.fieldLink RX6 88 "SumsForAllModel" "rounds" "I" ∈ TT := tm3 27 _ rfl rfl
theorem lk_X6_91 : KLV RX6 91 RX6 yX6_send cX6_send 6 none 5 := ⟨tm3 141 _ rfl rfl, tm3 143 _ rfl rfl, tm0 32 _ rfl rfl, tm1 8 _ rfl rfl, tm3 144 _ rfl rfl, ⟨rfl, by decide, by decide, by decide⟩⟩
theorem lk_X6_95 : KLV RX6 95 RX6 yX6_sendPart cX6_sendPart 8 none 4 := ⟨tm3 137 _ rfl rfl, tm3 139 _ rfl rfl, tm0 31 _ rfl rfl, tm1 8 _ rfl rfl, tm3 140 _ rfl rfl, ⟨rfl, by decide, by decide, by decide⟩⟩
theorem lk_X6_99 : KLV RX6 99 RX6 yX6_takeNext cX6_takeNext 3 none 1 := ⟨tm3 153 _ rfl rfl, tm3 155 _ rfl rfl, tm0 35 _ rfl rfl, tm1 8 _ rfl rfl, tm3 156 _ rfl rfl, ⟨rfl, by decide, by decide, by decide⟩⟩
theorem lk_X6_103 : KLV RX6 103 RX6 yX6_halve cX6_halve 6 none 2 := ⟨tm3 149 _ rfl rfl, tm3 151 _ rfl rfl, tm0 34 _ rfl rfl, tm1 8 _ rfl rfl, tm3 152 _ rfl rfl, ⟨rfl, by decide, by decide, by decide⟩⟩
theorem lk_X6_106 : KLV RX6 106 RX6 yX6_doubleUp cX6_doubleUp 4 none 2 := ⟨tm3 157 _ rfl rfl, tm3 159 _ rfl rfl, tm0 36 _ rfl rfl, tm1 8 _ rfl rfl, tm3 160 _ rfl rfl, ⟨rfl, by decide, by decide, by decide⟩⟩
theorem lk_X6_109 : KLS RX6 109 yX6_levelOf cX6_levelOf 3 (some .int) 1 := ⟨tm3 165 _ rfl rfl, tm3 166 _ rfl rfl, tm1 8 _ rfl rfl, tm3 167 _ rfl rfl, ⟨by decide, by decide, by decide⟩⟩
theorem lk_X6_113 : KLV RX6 113 RX6 yX6_layRing cX6_layRing 5 none 1 := ⟨tm3 133 _ rfl rfl, tm3 135 _ rfl rfl, tm0 30 _ rfl rfl, tm1 8 _ rfl rfl, tm3 136 _ rfl rfl, ⟨rfl, by decide, by decide, by decide⟩⟩
theorem lk_X6_116 : KLV RX6 116 RX6 yX6_layHalves cX6_layHalves 5 none 1 := ⟨tm3 145 _ rfl rfl, tm3 147 _ rfl rfl, tm0 33 _ rfl rfl, tm1 8 _ rfl rfl, tm3 148 _ rfl rfl, ⟨rfl, by decide, by decide, by decide⟩⟩
theorem lk_X6_119 : KLV RX6 119 RX6 yX6_layTree cX6_layTree 6 none 1 := ⟨tm3 161 _ rfl rfl, tm3 163 _ rfl rfl, tm0 37 _ rfl rfl, tm1 8 _ rfl rfl, tm3 164 _ rfl rfl, ⟨rfl, by decide, by decide, by decide⟩⟩
theorem lk_X6_122 : KLV RX6 122 RX6 yX6_layEach cX6_layEach 3 none 1 := ⟨tm3 168 _ rfl rfl, tm3 170 _ rfl rfl, tm0 38 _ rfl rfl, tm1 8 _ rfl rfl, tm3 171 _ rfl rfl, ⟨rfl, by decide, by decide, by decide⟩⟩
theorem lk_X6_125 : KLV RX6 125 RX6 yX6_mixed cX6_mixed 3 (some .int) 2 := ⟨tm3 212 _ rfl rfl, tm3 214 _ rfl rfl, tm0 47 _ rfl rfl, tm1 8 _ rfl rfl, tm3 215 _ rfl rfl, ⟨rfl, by decide, by decide, by decide⟩⟩
theorem lk_X6_128 : KLV RX6 128 RX6 yX6_beginRound cX6_beginRound 2 none 0 := ⟨tm3 204 _ rfl rfl, tm3 206 _ rfl rfl, tm0 45 _ rfl rfl, tm1 8 _ rfl rfl, tm3 207 _ rfl rfl, ⟨rfl, by decide, by decide, by decide⟩⟩
theorem lk_X6_131 : KLV RX6 131 RX6 yX6_come cX6_come 5 none 1 := ⟨tm3 208 _ rfl rfl, tm3 210 _ rfl rfl, tm0 46 _ rfl rfl, tm1 8 _ rfl rfl, tm3 211 _ rfl rfl, ⟨rfl, by decide, by decide, by decide⟩⟩
theorem lf_X6_134 : Cond.fieldLink RX6 134 "SumsForAllModel" "longest" "I" ∈ TT := tm3 38 _ rfl rfl
theorem lf_X6_137 : Cond.fieldLink RX6 137 "SumsForAllModel" "longestRound" "I" ∈ TT := tm3 37 _ rfl rfl
theorem lf_X6_140 : Cond.fieldLink RX6 140 "SumsForAllModel" "time" "I" ∈ TT := tm3 36 _ rfl rfl
theorem lk_X6_143 : KLV RX6 143 RX6 yX6_priceOf cX6_priceOf 2 (some .int) 1 := ⟨tm3 176 _ rfl rfl, tm3 178 _ rfl rfl, tm0 40 _ rfl rfl, tm1 8 _ rfl rfl, tm3 179 _ rfl rfl, ⟨rfl, by decide, by decide, by decide⟩⟩
theorem lk_X6_146 : KLV RX6 146 RX6 yX6_endRound cX6_endRound 4 none 1 := ⟨tm3 180 _ rfl rfl, tm3 182 _ rfl rfl, tm0 41 _ rfl rfl, tm1 8 _ rfl rfl, tm3 183 _ rfl rfl, ⟨rfl, by decide, by decide, by decide⟩⟩
theorem lk_X6_149 : KLS RX6 149 yX6_isWay cX6_isWay 1 (some .boolean) 1 := ⟨tm3 126 _ rfl rfl, tm3 127 _ rfl rfl, tm1 8 _ rfl rfl, tm3 128 _ rfl rfl, ⟨by decide, by decide, by decide⟩⟩
theorem lk_X6_152 : KLV RX6 152 RX6 yX6_lay cX6_lay 3 none 2 := ⟨tm3 129 _ rfl rfl, tm3 131 _ rfl rfl, tm0 29 _ rfl rfl, tm1 8 _ rfl rfl, tm3 132 _ rfl rfl, ⟨rfl, by decide, by decide, by decide⟩⟩
theorem lk_X6_155 : KLV RX6 155 RX6 yX6_clock cX6_clock 2 none 0 := ⟨tm3 172 _ rfl rfl, tm3 174 _ rfl rfl, tm0 39 _ rfl rfl, tm1 8 _ rfl rfl, tm3 175 _ rfl rfl, ⟨rfl, by decide, by decide, by decide⟩⟩
theorem lk_X6_158 : KLV RX6 158 RX6 yX6_numbers cX6_numbers 3 (some .int) 0 := ⟨tm3 184 _ rfl rfl, tm3 186 _ rfl rfl, tm0 42 _ rfl rfl, tm1 8 _ rfl rfl, tm3 187 _ rfl rfl, ⟨rfl, by decide, by decide, by decide⟩⟩
theorem lk_X6_162 : KLV RX6 162 RX6 yX6_busiest cX6_busiest 3 (some .int) 0 := ⟨tm3 188 _ rfl rfl, tm3 190 _ rfl rfl, tm0 43 _ rfl rfl, tm1 8 _ rfl rfl, tm3 191 _ rfl rfl, ⟨rfl, by decide, by decide, by decide⟩⟩
theorem lk_X6_165 : KLV RX6 165 RX6 yX6_go cX6_go 4 none 2 := ⟨tm3 200 _ rfl rfl, tm3 202 _ rfl rfl, tm0 44 _ rfl rfl, tm1 8 _ rfl rfl, tm3 203 _ rfl rfl, ⟨rfl, by decide, by decide, by decide⟩⟩
theorem lk_X6_168 : KLV RX6 168 RX6 yX6_goAll cX6_goAll 3 none 2 := ⟨tm3 220 _ rfl rfl, tm3 222 _ rfl rfl, tm0 48 _ rfl rfl, tm1 8 _ rfl rfl, tm3 223 _ rfl rfl, ⟨rfl, by decide, by decide, by decide⟩⟩
theorem lk_X6_171 : KLV RX6 171 RX6 yX6_allMixed cX6_allMixed 4 (some .int) 1 := ⟨tm3 224 _ rfl rfl, tm3 226 _ rfl rfl, tm0 49 _ rfl rfl, tm1 8 _ rfl rfl, tm3 227 _ rfl rfl, ⟨rfl, by decide, by decide, by decide⟩⟩
theorem lk_X6_174 : KLV RX6 174 RX6 yX6_keepEnd cX6_keepEnd 2 none 0 := ⟨tm3 232 _ rfl rfl, tm3 234 _ rfl rfl, tm0 50 _ rfl rfl, tm1 8 _ rfl rfl, tm3 235 _ rfl rfl, ⟨rfl, by decide, by decide, by decide⟩⟩
theorem lk_X6_177 : KLV RX6 177 RX6 yX6_timeBy cX6_timeBy 3 (some .int) 2 := ⟨tm4 0 _ rfl rfl, tm4 2 _ rfl rfl, tm0 51 _ rfl rfl, tm1 8 _ rfl rfl, tm4 3 _ rfl rfl, ⟨rfl, by decide, by decide, by decide⟩⟩
theorem lk_X6_180 : KLV RX6 180 RX6 yX6_otherNumbers cX6_otherNumbers 4 (some .int) 1 := ⟨tm4 16 _ rfl rfl, tm4 18 _ rfl rfl, tm0 53 _ rfl rfl, tm1 8 _ rfl rfl, tm4 19 _ rfl rfl, ⟨rfl, by decide, by decide, by decide⟩⟩
theorem lk_X6_183 : KLV RX6 183 RX6 yX6_harmed cX6_harmed 3 (some .int) 0 := ⟨tm4 12 _ rfl rfl, tm4 14 _ rfl rfl, tm0 52 _ rfl rfl, tm1 8 _ rfl rfl, tm4 15 _ rfl rfl, ⟨rfl, by decide, by decide, by decide⟩⟩
theorem lk_X6_186 : KLV RX6 186 RX6 yX6_harm cX6_harm 3 (some .int) 0 := ⟨tm4 20 _ rfl rfl, tm4 22 _ rfl rfl, tm0 54 _ rfl rfl, tm1 8 _ rfl rfl, tm4 23 _ rfl rfl, ⟨rfl, by decide, by decide, by decide⟩⟩
theorem lk_X6_189 : KLV RX6 189 RX6 yX6_allNumbers cX6_allNumbers 3 (some .int) 0 := ⟨tm4 44 _ rfl rfl, tm4 46 _ rfl rfl, tm0 55 _ rfl rfl, tm1 8 _ rfl rfl, tm4 47 _ rfl rfl, ⟨rfl, by decide, by decide, by decide⟩⟩
theorem w_objI : Cond.instanceMethod objectInit ∈ TT := tm1 17 _ rfl rfl
theorem w_objC : Cond.code objectInit ⟨#[0xb1]⟩ 1 none ∈ TT := tm1 18 _ rfl rfl
theorem w_maxS : Cond.static Lib.Math.max.name ∈ TT := tm2 103 _ rfl rfl
theorem w_maxC : Cond.code Lib.Math.max.name Lib.Math.max.code 2 (some .int) ∈ TT := tm2 104 _ rfl rfl
theorem w_minS : Cond.static Lib.Math.min.name ∈ TT := tm2 8 _ rfl rfl
theorem w_minC : Cond.code Lib.Math.min.name Lib.Math.min.code 2 (some .int) ∈ TT := tm2 9 _ rfl rfl
theorem w_mathI : Cond.initialized "java/lang/Math" ∈ TT := tm1 9 _ rfl rfl
theorem w_sysI : Cond.initialized "java/lang/System" ∈ TT := tm1 10 _ rfl rfl
theorem w_acN : Cond.native arraycopyName ∈ TT := tm2 135 _ rfl rfl
theorem w_acS : Cond.static arraycopyName ∈ TT := tm2 134 _ rfl rfl
theorem w_ini_X5 : Cond.initialized RX5 ∈ TT := tm1 1 _ rfl rfl
theorem w_ini_X4 : Cond.initialized RX4 ∈ TT := tm1 2 _ rfl rfl
theorem w_ini_X3 : Cond.initialized RX3 ∈ TT := tm1 3 _ rfl rfl
theorem w_ini_X1 : Cond.initialized RX1 ∈ TT := tm1 5 _ rfl rfl
theorem w_ini_X0 : Cond.initialized RX0 ∈ TT := tm1 6 _ rfl rfl
theorem w_ini_X2 : Cond.initialized RX2 ∈ TT := tm1 7 _ rfl rfl
theorem w_ini_X6 : Cond.initialized RX6 ∈ TT := tm1 8 _ rfl rfl
theorem w_inst_X5 : Cond.instantiable RX5 8 ∈ TT := tm1 12 _ rfl rfl
theorem w_inst_X4 : Cond.instantiable RX4 7 ∈ TT := tm1 20 _ rfl rfl
theorem w_inst_X3 : Cond.instantiable RX3 1 ∈ TT := tm1 26 _ rfl rfl
theorem w_arrI : Cond.arrayClass .int ∈ TT := tm1 35 _ rfl rfl
theorem w_inst_X1 : Cond.instantiable RX1 7 ∈ TT := tm1 69 _ rfl rfl
theorem w_inst_X0 : Cond.instantiable RX0 4 ∈ TT := tm1 103 _ rfl rfl
theorem w_inst_X2 : Cond.instantiable RX2 2 ∈ TT := tm1 124 _ rfl rfl
theorem w_inst_X6 : Cond.instantiable RX6 23 ∈ TT := tm3 8 _ rfl rfl
theorem w_arrZ : Cond.arrayClass .boolean ∈ TT := tm3 87 _ rfl rfl
