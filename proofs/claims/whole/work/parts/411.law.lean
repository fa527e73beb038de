/-! the law: its calls, its cases, its loop -/
def SX (k : Nat) (v : Nat → Int) (σ : Sg) : Rs := match k with
  | 0 => H_status σ
  | 1 => H_top σ
  | 2 => H_bottom σ
  | 3 => H_tray (v 1) (v 2) (v 3) σ
  | 4 => H_write (v 1) (v 2) (or64 (sl64 (v 3) 32) (an64 (v 4) 4294967295)) σ
  | 5 => H_read (v 1) (v 2) σ
  | 6 => H_pour (v 1) (v 2) (v 3) (v 4) (v 5) σ
  | 7 => H_feed (v 1) (v 2) (v 3) (v 4) (v 5) σ
  | 8 => H_province (v 1) σ
  | 9 => H_years (v 1) σ
  | 10 => H_fault (v 1) σ
  | 11 => H_many (v 1) σ
  | 12 => H_word (v 1) (v 2) σ
  | 13 => H_person (v 1) (v 2) σ
  | 14 => H_strand (v 1) (v 2) (v 3) σ
  | 15 => H_dinner (v 1) (v 2) σ
  | 16 => H_longest (v 1) σ
  | 17 => H_copyHair (v 1) σ
  | 18 => H_day (v 1) σ
  | 19 => H_say (v 1) (v 2) (v 3) σ
  | 20 => H_keep (v 1) (v 2) σ
  | 21 => H_learn (v 1) (v 2) σ
  | 22 => H_cut (v 1) (v 2) σ
  | 23 => H_train (v 1) (v 2) σ
  | 24 => H_trade (v 1) (if (v 2) = 0 then 0 else 1) σ
  | 25 => H_rule (v 1) (v 2) σ
  | 26 => H_invite (v 1) (v 2) (v 3) σ
  | 27 => H_cancel σ
  | 28 => H_hairIn (v 1) (v 2) σ
  | 29 => H_knownIn (v 1) (v 2) σ
  | 30 => H_out (v 1) σ
  | 31 => H_learnsIn (v 1) (v 2) σ
  | 32 => H_wildIn (v 1) σ
  | 33 => H_dinesIn (v 1) σ
  | 34 => H_quiet (v 1) (v 2) σ
  | 35 => H_quietHair (v 1) (v 2) σ
  | 36 => H_unsaid (v 1) (v 2) σ
  | 37 => H_sure (v 1) (v 2) σ
  | 38 => H_ask (v 1) (v 2) σ
  | 39 => H_lengthOf (v 1) (v 2) σ
  | 40 => H_daysFor (v 1) (v 2) σ
  | 41 => H_round (v 1) σ
  | 42 => H_oneRound σ
  | 43 => H_plaits (v 1) (v 2) (v 3) σ
  | 44 => H_plaitAt (v 1) (v 2) (v 3) (v 4) σ
  | 45 => H_tellers (v 1) (v 2) σ
  | 46 => H_rumour (v 1) (v 2) σ
  | 47 => H_game (v 1) (v 2) (v 3) σ
  | 48 => H_moveOf (v 1) (v 2) (v 3) σ
  | 49 => H_safe (v 1) (v 2) σ
  | 50 => H_riskiest σ
  | 51 => H_live (v 1) σ
  | 52 => H_lived (v 1) σ
  | 53 => H_mean (v 1) (v 2) σ
  | 54 => H_mark σ
  | 55 => H_back σ
  | _ => none
def SM (k : Nat) (v : Nat → Int) (σ : Sg) : Rs := match k with
  | 0 => M_status σ
  | 1 => M_top σ
  | 2 => M_bottom σ
  | 3 => M_tray (v 1) (v 2) (v 3) σ
  | 4 => M_write (v 1) (v 2) (or64 (sl64 (v 3) 32) (an64 (v 4) 4294967295)) σ
  | 5 => M_read (v 1) (v 2) σ
  | 6 => M_pour (v 1) (v 2) (v 3) (v 4) (v 5) σ
  | 7 => M_feed (v 1) (v 2) (v 3) (v 4) (v 5) σ
  | 8 => M_province (v 1) σ
  | 9 => M_years (v 1) σ
  | 10 => M_fault (v 1) σ
  | 11 => M_many (v 1) σ
  | 12 => M_word (v 1) (v 2) σ
  | 13 => M_person (v 1) (v 2) σ
  | 14 => M_strand (v 1) (v 2) (v 3) σ
  | 15 => M_dinner (v 1) (v 2) σ
  | 16 => M_longest (v 1) σ
  | 17 => M_copyHair (v 1) σ
  | 18 => M_day (v 1) σ
  | 19 => M_say (v 1) (v 2) (v 3) σ
  | 20 => M_keep (v 1) (v 2) σ
  | 21 => M_learn (v 1) (v 2) σ
  | 22 => M_cut_ (v 1) (v 2) σ
  | 23 => M_train (v 1) (v 2) σ
  | 24 => M_trade (v 1) (if (v 2) = 0 then 0 else 1) σ
  | 25 => M_rule (v 1) (v 2) σ
  | 26 => M_invite (v 1) (v 2) (v 3) σ
  | 27 => M_cancel σ
  | 28 => M_hairIn (v 1) (v 2) σ
  | 29 => M_knownIn (v 1) (v 2) σ
  | 30 => M_out (v 1) σ
  | 31 => M_learnsIn (v 1) (v 2) σ
  | 32 => M_wildIn (v 1) σ
  | 33 => M_dinesIn (v 1) σ
  | 34 => M_quiet (v 1) (v 2) σ
  | 35 => M_quietHair (v 1) (v 2) σ
  | 36 => M_unsaid (v 1) (v 2) σ
  | 37 => M_sure (v 1) (v 2) σ
  | 38 => M_ask (v 1) (v 2) σ
  | 39 => M_lengthOf (v 1) (v 2) σ
  | 40 => M_daysFor (v 1) (v 2) σ
  | 41 => M_round (v 1) σ
  | 42 => M_oneRound σ
  | 43 => M_plaits (v 1) (v 2) (v 3) σ
  | 44 => M_plaitAt (v 1) (v 2) (v 3) (v 4) σ
  | 45 => M_tellers (v 1) (v 2) σ
  | 46 => M_rumour (v 1) (v 2) σ
  | 47 => M_game (v 1) (v 2) (v 3) σ
  | 48 => M_moveOf (v 1) (v 2) (v 3) σ
  | 49 => M_safe (v 1) (v 2) σ
  | 50 => M_riskiest σ
  | 51 => M_live (v 1) σ
  | 52 => M_lived (v 1) σ
  | 53 => M_mean (v 1) (v 2) σ
  | 54 => M_mark σ
  | 55 => M_back σ
  | _ => none
def STL (Rel : Sg → Sg → Prop) : Prop := ∀ (k : Nat) (v : Nat → Int) (σ τ : Sg), k < 56 → (∀ j, c32 (v j)) → Rel σ τ → ∃ (r : Int) (σ1 τ1 : Sg), SX k v σ = some (r, σ1) ∧ SM k v τ = some (r, τ1) ∧ Rel σ1 τ1
theorem lk_RL_13 : LK R_law 13 yX11_status := Or.inl (tm 683 (by decide +kernel) rfl)
theorem lk_RL_17 : LK R_law 17 yX12_status := Or.inl (tm 1702 (by decide +kernel) rfl)
theorem lk_RL_18 : LK R_law 18 yX11_top := Or.inl (tm 687 (by decide +kernel) rfl)
theorem lk_RL_22 : LK R_law 22 yX12_top := Or.inl (tm 1706 (by decide +kernel) rfl)
theorem lk_RL_23 : LK R_law 23 yX11_bottom := Or.inl (tm 691 (by decide +kernel) rfl)
theorem lk_RL_26 : LK R_law 26 yX12_bottom := Or.inl (tm 1710 (by decide +kernel) rfl)
theorem lk_RL_27 : LK R_law 27 yX11_tray := Or.inl (tm 695 (by decide +kernel) rfl)
theorem lk_RL_31 : LK R_law 31 yX12_tray := Or.inl (tm 1714 (by decide +kernel) rfl)
theorem lk_RL_34 : LK R_law 34 yX11_write := Or.inl (tm 720 (by decide +kernel) rfl)
theorem lk_RL_38 : LK R_law 38 yX12_write := Or.inl (tm 1722 (by decide +kernel) rfl)
theorem lk_RL_39 : LK R_law 39 yX11_read := Or.inl (tm 755 (by decide +kernel) rfl)
theorem lk_RL_43 : LK R_law 43 yX12_read := Or.inl (tm 1737 (by decide +kernel) rfl)
theorem lk_RL_44 : LK R_law 44 yX11_pour := Or.inl (tm 767 (by decide +kernel) rfl)
theorem lk_RL_48 : LK R_law 48 yX12_pour := Or.inl (tm 1742 (by decide +kernel) rfl)
theorem lk_RL_49 : LK R_law 49 yX11_feed := Or.inl (tm 783 (by decide +kernel) rfl)
theorem lk_RL_53 : LK R_law 53 yX12_feed := Or.inl (tm 1746 (by decide +kernel) rfl)
theorem lk_RL_54 : LK R_law 54 yX11_province := Or.inl (tm 791 (by decide +kernel) rfl)
theorem lk_RL_58 : LK R_law 58 yX12_province := Or.inl (tm 1758 (by decide +kernel) rfl)
theorem lk_RL_59 : LK R_law 59 yX11_years := Or.inl (tm 968 (by decide +kernel) rfl)
theorem lk_RL_62 : LK R_law 62 yX12_years := Or.inl (tm 1960 (by decide +kernel) rfl)
theorem lk_RL_63 : LK R_law 63 yX11_fault := Or.inl (tm 1044 (by decide +kernel) rfl)
theorem lk_RL_66 : LK R_law 66 yX12_fault := Or.inl (tm 1754 (by decide +kernel) rfl)
theorem lk_RL_67 : LK R_law 67 yX11_many := Or.inl (tm 1048 (by decide +kernel) rfl)
theorem lk_RL_70 : LK R_law 70 yX12_many := Or.inl (tm 1976 (by decide +kernel) rfl)
theorem lk_RL_71 : LK R_law 71 yX11_word := Or.inl (tm 1076 (by decide +kernel) rfl)
theorem lk_RL_75 : LK R_law 75 yX12_word := Or.inl (tm 2001 (by decide +kernel) rfl)
theorem lk_RL_76 : LK R_law 76 yX11_person := Or.inl (tm 1089 (by decide +kernel) rfl)
theorem lk_RL_79 : LK R_law 79 yX12_person := Or.inl (tm 2018 (by decide +kernel) rfl)
theorem lk_RL_80 : LK R_law 80 yX11_strand := Or.inl (tm 1099 (by decide +kernel) rfl)
theorem lk_RL_84 : LK R_law 84 yX12_strand := Or.inl (tm 2026 (by decide +kernel) rfl)
theorem lk_RL_85 : LK R_law 85 yX11_dinner := Or.inl (tm 1113 (by decide +kernel) rfl)
theorem lk_RL_88 : LK R_law 88 yX12_dinner := Or.inl (tm 2030 (by decide +kernel) rfl)
theorem lk_RL_89 : LK R_law 89 yX11_longest := Or.inl (tm 1125 (by decide +kernel) rfl)
theorem lk_RL_92 : LK R_law 92 yX12_longest := Or.inl (tm 2039 (by decide +kernel) rfl)
theorem lk_RL_93 : LK R_law 93 yX11_copyHair := Or.inl (tm 1136 (by decide +kernel) rfl)
theorem lk_RL_96 : LK R_law 96 yX12_copyHair := Or.inl (tm 2047 (by decide +kernel) rfl)
theorem lk_RL_97 : LK R_law 97 yX11_day := Or.inl (tm 1140 (by decide +kernel) rfl)
theorem lk_RL_100 : LK R_law 100 yX12_day := Or.inl (tm 2057 (by decide +kernel) rfl)
theorem lk_RL_101 : LK R_law 101 yX11_say := Or.inl (tm 1157 (by decide +kernel) rfl)
theorem lk_RL_104 : LK R_law 104 yX12_say := Or.inl (tm 2083 (by decide +kernel) rfl)
theorem lk_RL_105 : LK R_law 105 yX11_keep := Or.inl (tm 1170 (by decide +kernel) rfl)
theorem lk_RL_108 : LK R_law 108 yX12_keep := Or.inl (tm 2087 (by decide +kernel) rfl)
theorem lk_RL_109 : LK R_law 109 yX11_learn := Or.inl (tm 1188 (by decide +kernel) rfl)
theorem lk_RL_112 : LK R_law 112 yX12_learn := Or.inl (tm 2102 (by decide +kernel) rfl)
theorem lk_RL_113 : LK R_law 113 yX11_cut := Or.inl (tm 1193 (by decide +kernel) rfl)
theorem lk_RL_116 : LK R_law 116 yX12_cut_ := Or.inl (tm 2106 (by decide +kernel) rfl)
theorem lk_RL_117 : LK R_law 117 yX11_train := Or.inl (tm 1208 (by decide +kernel) rfl)
theorem lk_RL_121 : LK R_law 121 yX12_train := Or.inl (tm 2114 (by decide +kernel) rfl)
theorem lk_RL_122 : LK R_law 122 yX11_trade := Or.inl (tm 1212 (by decide +kernel) rfl)
theorem lk_RL_126 : LK R_law 126 yX12_trade := Or.inl (tm 2119 (by decide +kernel) rfl)
theorem lk_RL_127 : LK R_law 127 yX11_rule := Or.inl (tm 1216 (by decide +kernel) rfl)
theorem lk_RL_130 : LK R_law 130 yX12_rule := Or.inl (tm 2123 (by decide +kernel) rfl)
theorem lk_RL_131 : LK R_law 131 yX11_invite := Or.inl (tm 1220 (by decide +kernel) rfl)
theorem lk_RL_134 : LK R_law 134 yX12_invite := Or.inl (tm 2129 (by decide +kernel) rfl)
theorem lk_RL_135 : LK R_law 135 yX11_cancel := Or.inl (tm 1225 (by decide +kernel) rfl)
theorem lk_RL_138 : LK R_law 138 yX12_cancel := Or.inl (tm 2134 (by decide +kernel) rfl)
theorem lk_RL_139 : LK R_law 139 yX11_hairIn := Or.inl (tm 1229 (by decide +kernel) rfl)
theorem lk_RL_142 : LK R_law 142 yX12_hairIn := Or.inl (tm 2138 (by decide +kernel) rfl)
theorem lk_RL_143 : LK R_law 143 yX11_knownIn := Or.inl (tm 1237 (by decide +kernel) rfl)
theorem lk_RL_146 : LK R_law 146 yX12_knownIn := Or.inl (tm 2158 (by decide +kernel) rfl)
theorem lk_RL_147 : LK R_law 147 yX11_out := Or.inl (tm 1241 (by decide +kernel) rfl)
theorem lk_RL_150 : LK R_law 150 yX12_out := Or.inl (tm 2162 (by decide +kernel) rfl)
theorem lk_RL_151 : LK R_law 151 yX11_learnsIn := Or.inl (tm 1245 (by decide +kernel) rfl)
theorem lk_RL_154 : LK R_law 154 yX12_learnsIn := Or.inl (tm 2166 (by decide +kernel) rfl)
theorem lk_RL_155 : LK R_law 155 yX11_wildIn := Or.inl (tm 1249 (by decide +kernel) rfl)
theorem lk_RL_158 : LK R_law 158 yX12_wildIn := Or.inl (tm 2170 (by decide +kernel) rfl)
theorem lk_RL_159 : LK R_law 159 yX11_dinesIn := Or.inl (tm 1253 (by decide +kernel) rfl)
theorem lk_RL_162 : LK R_law 162 yX12_dinesIn := Or.inl (tm 2174 (by decide +kernel) rfl)
theorem lk_RL_163 : LK R_law 163 yX11_quiet := Or.inl (tm 1266 (by decide +kernel) rfl)
theorem lk_RL_166 : LK R_law 166 yX12_quiet := Or.inl (tm 2182 (by decide +kernel) rfl)
theorem lk_RL_167 : LK R_law 167 yX11_quietHair := Or.inl (tm 1275 (by decide +kernel) rfl)
theorem lk_RL_170 : LK R_law 170 yX12_quietHair := Or.inl (tm 2198 (by decide +kernel) rfl)
theorem lk_RL_171 : LK R_law 171 yX11_unsaid := Or.inl (tm 1280 (by decide +kernel) rfl)
theorem lk_RL_174 : LK R_law 174 yX12_unsaid := Or.inl (tm 2202 (by decide +kernel) rfl)
theorem lk_RL_175 : LK R_law 175 yX11_sure := Or.inl (tm 1307 (by decide +kernel) rfl)
theorem lk_RL_178 : LK R_law 178 yX12_sure := Or.inl (tm 2235 (by decide +kernel) rfl)
theorem lk_RL_179 : LK R_law 179 yX11_ask := Or.inl (tm 1315 (by decide +kernel) rfl)
theorem lk_RL_182 : LK R_law 182 yX12_ask := Or.inl (tm 2239 (by decide +kernel) rfl)
theorem lk_RL_183 : LK R_law 183 yX11_lengthOf := Or.inl (tm 1327 (by decide +kernel) rfl)
theorem lk_RL_186 : LK R_law 186 yX12_lengthOf := Or.inl (tm 2247 (by decide +kernel) rfl)
theorem lk_RL_187 : LK R_law 187 yX11_daysFor := Or.inl (tm 1339 (by decide +kernel) rfl)
theorem lk_RL_190 : LK R_law 190 yX12_daysFor := Or.inl (tm 2255 (by decide +kernel) rfl)
theorem lk_RL_191 : LK R_law 191 yX11_round := Or.inl (tm 1343 (by decide +kernel) rfl)
theorem lk_RL_194 : LK R_law 194 yX12_round := Or.inl (tm 2260 (by decide +kernel) rfl)
theorem lk_RL_195 : LK R_law 195 yX11_oneRound := Or.inl (tm 1363 (by decide +kernel) rfl)
theorem lk_RL_198 : LK R_law 198 yX12_oneRound := Or.inl (tm 2280 (by decide +kernel) rfl)
theorem lk_RL_199 : LK R_law 199 yX11_plaits := Or.inl (tm 1372 (by decide +kernel) rfl)
theorem lk_RL_202 : LK R_law 202 yX12_plaits := Or.inl (tm 2284 (by decide +kernel) rfl)
theorem lk_RL_203 : LK R_law 203 yX11_plaitAt := Or.inl (tm 1397 (by decide +kernel) rfl)
theorem lk_RL_207 : LK R_law 207 yX12_plaitAt := Or.inl (tm 2300 (by decide +kernel) rfl)
theorem lk_RL_208 : LK R_law 208 yX11_tellers := Or.inl (tm 1409 (by decide +kernel) rfl)
theorem lk_RL_211 : LK R_law 211 yX12_tellers := Or.inl (tm 2304 (by decide +kernel) rfl)
theorem lk_RL_212 : LK R_law 212 yX11_rumour := Or.inl (tm 1417 (by decide +kernel) rfl)
theorem lk_RL_215 : LK R_law 215 yX12_rumour := Or.inl (tm 2312 (by decide +kernel) rfl)
theorem lk_RL_216 : LK R_law 216 yX11_game := Or.inl (tm 1421 (by decide +kernel) rfl)
theorem lk_RL_219 : LK R_law 219 yX12_game := Or.inl (tm 2316 (by decide +kernel) rfl)
theorem lk_RL_220 : LK R_law 220 yX11_moveOf := Or.inl (tm 1463 (by decide +kernel) rfl)
theorem lk_RL_223 : LK R_law 223 yX12_moveOf := Or.inl (tm 2336 (by decide +kernel) rfl)
theorem lk_RL_224 : LK R_law 224 yX11_safe := Or.inl (tm 1467 (by decide +kernel) rfl)
theorem lk_RL_227 : LK R_law 227 yX12_safe := Or.inl (tm 2340 (by decide +kernel) rfl)
theorem lk_RL_228 : LK R_law 228 yX11_riskiest := Or.inl (tm 1478 (by decide +kernel) rfl)
theorem lk_RL_231 : LK R_law 231 yX12_riskiest := Or.inl (tm 2355 (by decide +kernel) rfl)
theorem lk_RL_232 : LK R_law 232 yX11_live := Or.inl (tm 1486 (by decide +kernel) rfl)
theorem lk_RL_235 : LK R_law 235 yX12_live := Or.inl (tm 2359 (by decide +kernel) rfl)
theorem lk_RL_236 : LK R_law 236 yX11_lived := Or.inl (tm 1542 (by decide +kernel) rfl)
theorem lk_RL_239 : LK R_law 239 yX12_lived := Or.inl (tm 2404 (by decide +kernel) rfl)
theorem lk_RL_240 : LK R_law 240 yX11_mean := Or.inl (tm 1546 (by decide +kernel) rfl)
theorem lk_RL_243 : LK R_law 243 yX12_mean := Or.inl (tm 2408 (by decide +kernel) rfl)
theorem lk_RL_244 : LK R_law 244 yX11_mark := Or.inl (tm 1550 (by decide +kernel) rfl)
theorem lk_RL_247 : LK R_law 247 yX12_mark := Or.inl (tm 2412 (by decide +kernel) rfl)
theorem lk_RL_248 : LK R_law 248 yX11_back := Or.inl (tm 1554 (by decide +kernel) rfl)
theorem lk_RL_251 : LK R_law 251 yX12_back := Or.inl (tm 2416 (by decide +kernel) rfl)
theorem dL_law_18 : decode code 18 = .ok (.iload_n 3, 1) := by decide +kernel
theorem dL_law_19 : decode code 19 = .ok (.aload_n 0, 1) := by decide +kernel
theorem dL_law_20 : decode code 20 = .ok (.arraylength, 1) := by decide +kernel
theorem dL_law_21 : decode code 21 = .ok (.bipush 6, 2) := by decide +kernel
theorem dL_law_23 : decode code 23 = .ok (.isub, 1) := by decide +kernel
theorem dL_law_24 : decode code 24 = .ok (.if_icmp .gt 2021, 3) := by decide +kernel
theorem dL_law_27 : decode code 27 = .ok (.aload_n 0, 1) := by decide +kernel
theorem dL_law_28 : decode code 28 = .ok (.iload_n 3, 1) := by decide +kernel
theorem dL_law_29 : decode code 29 = .ok (.iaload, 1) := by decide +kernel
theorem dL_law_30 : decode code 30 = .ok (.bipush 63, 2) := by decide +kernel
theorem dL_law_32 : decode code 32 = .ok (.iand, 1) := by decide +kernel
theorem dL_law_33 : decode code 33 = .ok (.tableswitch 2006 0 55 #[239, 252, 266, 280, 323, 396, 430, 493, 556, 579, 602, 625, 648, 681, 714, 757, 790, 813, 836, 859, 902, 935, 968, 1001, 1034, 1083, 1116, 1159, 1172, 1205, 1238, 1261, 1294, 1317, 1340, 1373, 1406, 1439, 1472, 1505, 1538, 1571, 1594, 1607, 1650, 1703, 1736, 1769, 1812, 1855, 1888, 1901, 1924, 1947, 1980, 1993], 239) := by decide +kernel
theorem dL_law_272 : decode code 272 = .ok (.aload_n 1, 1) := by decide +kernel
theorem dL_law_273 : decode code 273 = .ok (.invokevirtual 13, 3) := by decide +kernel
theorem dL_law_276 : decode code 276 = .ok (.aload_n 2, 1) := by decide +kernel
theorem dL_law_277 : decode code 277 = .ok (.invokevirtual 17, 3) := by decide +kernel
theorem dL_law_280 : decode code 280 = .ok (.if_icmp .eq 1759, 3) := by decide +kernel
theorem dL_law_285 : decode code 285 = .ok (.aload_n 1, 1) := by decide +kernel
theorem dL_law_286 : decode code 286 = .ok (.invokevirtual 18, 3) := by decide +kernel
theorem dL_law_289 : decode code 289 = .ok (.aload_n 2, 1) := by decide +kernel
theorem dL_law_290 : decode code 290 = .ok (.invokevirtual 22, 3) := by decide +kernel
theorem dL_law_293 : decode code 293 = .ok (.lcmp, 1) := by decide +kernel
theorem dL_law_294 : decode code 294 = .ok (.ifCond .eq 1745, 3) := by decide +kernel
theorem dL_law_299 : decode code 299 = .ok (.aload_n 1, 1) := by decide +kernel
theorem dL_law_300 : decode code 300 = .ok (.invokevirtual 23, 3) := by decide +kernel
theorem dL_law_303 : decode code 303 = .ok (.aload_n 2, 1) := by decide +kernel
theorem dL_law_304 : decode code 304 = .ok (.invokevirtual 26, 3) := by decide +kernel
theorem dL_law_307 : decode code 307 = .ok (.lcmp, 1) := by decide +kernel
theorem dL_law_308 : decode code 308 = .ok (.ifCond .eq 1731, 3) := by decide +kernel
theorem dL_law_313 : decode code 313 = .ok (.aload_n 1, 1) := by decide +kernel
theorem dL_law_314 : decode code 314 = .ok (.aload_n 0, 1) := by decide +kernel
theorem dL_law_315 : decode code 315 = .ok (.iload_n 3, 1) := by decide +kernel
theorem dL_law_316 : decode code 316 = .ok (.iconst 1, 1) := by decide +kernel
theorem dL_law_317 : decode code 317 = .ok (.iadd, 1) := by decide +kernel
theorem dL_law_318 : decode code 318 = .ok (.iaload, 1) := by decide +kernel
theorem dL_law_319 : decode code 319 = .ok (.aload_n 0, 1) := by decide +kernel
theorem dL_law_320 : decode code 320 = .ok (.iload_n 3, 1) := by decide +kernel
theorem dL_law_321 : decode code 321 = .ok (.iconst 2, 1) := by decide +kernel
theorem dL_law_322 : decode code 322 = .ok (.iadd, 1) := by decide +kernel
theorem dL_law_323 : decode code 323 = .ok (.iaload, 1) := by decide +kernel
theorem dL_law_324 : decode code 324 = .ok (.aload_n 0, 1) := by decide +kernel
theorem dL_law_325 : decode code 325 = .ok (.iload_n 3, 1) := by decide +kernel
theorem dL_law_326 : decode code 326 = .ok (.iconst 3, 1) := by decide +kernel
theorem dL_law_327 : decode code 327 = .ok (.iadd, 1) := by decide +kernel
theorem dL_law_328 : decode code 328 = .ok (.iaload, 1) := by decide +kernel
theorem dL_law_329 : decode code 329 = .ok (.invokevirtual 27, 3) := by decide +kernel
theorem dL_law_332 : decode code 332 = .ok (.aload_n 2, 1) := by decide +kernel
theorem dL_law_333 : decode code 333 = .ok (.aload_n 0, 1) := by decide +kernel
theorem dL_law_334 : decode code 334 = .ok (.iload_n 3, 1) := by decide +kernel
theorem dL_law_335 : decode code 335 = .ok (.iconst 1, 1) := by decide +kernel
theorem dL_law_336 : decode code 336 = .ok (.iadd, 1) := by decide +kernel
theorem dL_law_337 : decode code 337 = .ok (.iaload, 1) := by decide +kernel
theorem dL_law_338 : decode code 338 = .ok (.aload_n 0, 1) := by decide +kernel
theorem dL_law_339 : decode code 339 = .ok (.iload_n 3, 1) := by decide +kernel
theorem dL_law_340 : decode code 340 = .ok (.iconst 2, 1) := by decide +kernel
theorem dL_law_341 : decode code 341 = .ok (.iadd, 1) := by decide +kernel
theorem dL_law_342 : decode code 342 = .ok (.iaload, 1) := by decide +kernel
theorem dL_law_343 : decode code 343 = .ok (.aload_n 0, 1) := by decide +kernel
theorem dL_law_344 : decode code 344 = .ok (.iload_n 3, 1) := by decide +kernel
theorem dL_law_345 : decode code 345 = .ok (.iconst 3, 1) := by decide +kernel
theorem dL_law_346 : decode code 346 = .ok (.iadd, 1) := by decide +kernel
theorem dL_law_347 : decode code 347 = .ok (.iaload, 1) := by decide +kernel
theorem dL_law_348 : decode code 348 = .ok (.invokevirtual 31, 3) := by decide +kernel
theorem dL_law_351 : decode code 351 = .ok (.if_icmp .eq 1688, 3) := by decide +kernel
theorem dL_law_356 : decode code 356 = .ok (.aload_n 1, 1) := by decide +kernel
theorem dL_law_357 : decode code 357 = .ok (.aload_n 0, 1) := by decide +kernel
theorem dL_law_358 : decode code 358 = .ok (.iload_n 3, 1) := by decide +kernel
theorem dL_law_359 : decode code 359 = .ok (.iconst 1, 1) := by decide +kernel
theorem dL_law_360 : decode code 360 = .ok (.iadd, 1) := by decide +kernel
theorem dL_law_361 : decode code 361 = .ok (.iaload, 1) := by decide +kernel
theorem dL_law_362 : decode code 362 = .ok (.aload_n 0, 1) := by decide +kernel
theorem dL_law_363 : decode code 363 = .ok (.iload_n 3, 1) := by decide +kernel
theorem dL_law_364 : decode code 364 = .ok (.iconst 2, 1) := by decide +kernel
theorem dL_law_365 : decode code 365 = .ok (.iadd, 1) := by decide +kernel
theorem dL_law_366 : decode code 366 = .ok (.iaload, 1) := by decide +kernel
theorem dL_law_367 : decode code 367 = .ok (.aload_n 0, 1) := by decide +kernel
theorem dL_law_368 : decode code 368 = .ok (.iload_n 3, 1) := by decide +kernel
theorem dL_law_369 : decode code 369 = .ok (.iconst 3, 1) := by decide +kernel
theorem dL_law_370 : decode code 370 = .ok (.iadd, 1) := by decide +kernel
theorem dL_law_371 : decode code 371 = .ok (.iaload, 1) := by decide +kernel
theorem dL_law_372 : decode code 372 = .ok (.i2l, 1) := by decide +kernel
theorem dL_law_373 : decode code 373 = .ok (.bipush 32, 2) := by decide +kernel
theorem dL_law_375 : decode code 375 = .ok (.lshl, 1) := by decide +kernel
theorem dL_law_376 : decode code 376 = .ok (.aload_n 0, 1) := by decide +kernel
theorem dL_law_377 : decode code 377 = .ok (.iload_n 3, 1) := by decide +kernel
theorem dL_law_378 : decode code 378 = .ok (.iconst 4, 1) := by decide +kernel
theorem dL_law_379 : decode code 379 = .ok (.iadd, 1) := by decide +kernel
theorem dL_law_380 : decode code 380 = .ok (.iaload, 1) := by decide +kernel
theorem dL_law_381 : decode code 381 = .ok (.i2l, 1) := by decide +kernel
theorem dL_law_382 : decode code 382 = .ok (.ldc2_w 32, 3) := by decide +kernel
theorem dL_law_385 : decode code 385 = .ok (.land, 1) := by decide +kernel
theorem dL_law_386 : decode code 386 = .ok (.lor, 1) := by decide +kernel
theorem dL_law_387 : decode code 387 = .ok (.invokevirtual 34, 3) := by decide +kernel
theorem dL_law_390 : decode code 390 = .ok (.aload_n 2, 1) := by decide +kernel
theorem dL_law_391 : decode code 391 = .ok (.aload_n 0, 1) := by decide +kernel
theorem dL_law_392 : decode code 392 = .ok (.iload_n 3, 1) := by decide +kernel
theorem dL_law_393 : decode code 393 = .ok (.iconst 1, 1) := by decide +kernel
theorem dL_law_394 : decode code 394 = .ok (.iadd, 1) := by decide +kernel
theorem dL_law_395 : decode code 395 = .ok (.iaload, 1) := by decide +kernel
theorem dL_law_396 : decode code 396 = .ok (.aload_n 0, 1) := by decide +kernel
theorem dL_law_397 : decode code 397 = .ok (.iload_n 3, 1) := by decide +kernel
theorem dL_law_398 : decode code 398 = .ok (.iconst 2, 1) := by decide +kernel
theorem dL_law_399 : decode code 399 = .ok (.iadd, 1) := by decide +kernel
theorem dL_law_400 : decode code 400 = .ok (.iaload, 1) := by decide +kernel
theorem dL_law_401 : decode code 401 = .ok (.aload_n 0, 1) := by decide +kernel
theorem dL_law_402 : decode code 402 = .ok (.iload_n 3, 1) := by decide +kernel
theorem dL_law_403 : decode code 403 = .ok (.iconst 3, 1) := by decide +kernel
theorem dL_law_404 : decode code 404 = .ok (.iadd, 1) := by decide +kernel
theorem dL_law_405 : decode code 405 = .ok (.iaload, 1) := by decide +kernel
theorem dL_law_406 : decode code 406 = .ok (.i2l, 1) := by decide +kernel
theorem dL_law_407 : decode code 407 = .ok (.bipush 32, 2) := by decide +kernel
theorem dL_law_409 : decode code 409 = .ok (.lshl, 1) := by decide +kernel
theorem dL_law_410 : decode code 410 = .ok (.aload_n 0, 1) := by decide +kernel
theorem dL_law_411 : decode code 411 = .ok (.iload_n 3, 1) := by decide +kernel
theorem dL_law_412 : decode code 412 = .ok (.iconst 4, 1) := by decide +kernel
theorem dL_law_413 : decode code 413 = .ok (.iadd, 1) := by decide +kernel
theorem dL_law_414 : decode code 414 = .ok (.iaload, 1) := by decide +kernel
theorem dL_law_415 : decode code 415 = .ok (.i2l, 1) := by decide +kernel
theorem dL_law_416 : decode code 416 = .ok (.ldc2_w 32, 3) := by decide +kernel
theorem dL_law_419 : decode code 419 = .ok (.land, 1) := by decide +kernel
theorem dL_law_420 : decode code 420 = .ok (.lor, 1) := by decide +kernel
theorem dL_law_421 : decode code 421 = .ok (.invokevirtual 38, 3) := by decide +kernel
theorem dL_law_424 : decode code 424 = .ok (.if_icmp .eq 1615, 3) := by decide +kernel
theorem dL_law_429 : decode code 429 = .ok (.aload_n 1, 1) := by decide +kernel
theorem dL_law_430 : decode code 430 = .ok (.aload_n 0, 1) := by decide +kernel
theorem dL_law_431 : decode code 431 = .ok (.iload_n 3, 1) := by decide +kernel
theorem dL_law_432 : decode code 432 = .ok (.iconst 1, 1) := by decide +kernel
theorem dL_law_433 : decode code 433 = .ok (.iadd, 1) := by decide +kernel
theorem dL_law_434 : decode code 434 = .ok (.iaload, 1) := by decide +kernel
theorem dL_law_435 : decode code 435 = .ok (.aload_n 0, 1) := by decide +kernel
theorem dL_law_436 : decode code 436 = .ok (.iload_n 3, 1) := by decide +kernel
theorem dL_law_437 : decode code 437 = .ok (.iconst 2, 1) := by decide +kernel
theorem dL_law_438 : decode code 438 = .ok (.iadd, 1) := by decide +kernel
theorem dL_law_439 : decode code 439 = .ok (.iaload, 1) := by decide +kernel
theorem dL_law_440 : decode code 440 = .ok (.invokevirtual 39, 3) := by decide +kernel
theorem dL_law_443 : decode code 443 = .ok (.aload_n 2, 1) := by decide +kernel
theorem dL_law_444 : decode code 444 = .ok (.aload_n 0, 1) := by decide +kernel
theorem dL_law_445 : decode code 445 = .ok (.iload_n 3, 1) := by decide +kernel
theorem dL_law_446 : decode code 446 = .ok (.iconst 1, 1) := by decide +kernel
theorem dL_law_447 : decode code 447 = .ok (.iadd, 1) := by decide +kernel
theorem dL_law_448 : decode code 448 = .ok (.iaload, 1) := by decide +kernel
theorem dL_law_449 : decode code 449 = .ok (.aload_n 0, 1) := by decide +kernel
theorem dL_law_450 : decode code 450 = .ok (.iload_n 3, 1) := by decide +kernel
theorem dL_law_451 : decode code 451 = .ok (.iconst 2, 1) := by decide +kernel
theorem dL_law_452 : decode code 452 = .ok (.iadd, 1) := by decide +kernel
theorem dL_law_453 : decode code 453 = .ok (.iaload, 1) := by decide +kernel
theorem dL_law_454 : decode code 454 = .ok (.invokevirtual 43, 3) := by decide +kernel
theorem dL_law_457 : decode code 457 = .ok (.lcmp, 1) := by decide +kernel
theorem dL_law_458 : decode code 458 = .ok (.ifCond .eq 1581, 3) := by decide +kernel
theorem dL_law_463 : decode code 463 = .ok (.aload_n 1, 1) := by decide +kernel
theorem dL_law_464 : decode code 464 = .ok (.aload_n 0, 1) := by decide +kernel
theorem dL_law_465 : decode code 465 = .ok (.iload_n 3, 1) := by decide +kernel
theorem dL_law_466 : decode code 466 = .ok (.iconst 1, 1) := by decide +kernel
theorem dL_law_467 : decode code 467 = .ok (.iadd, 1) := by decide +kernel
theorem dL_law_468 : decode code 468 = .ok (.iaload, 1) := by decide +kernel
theorem dL_law_469 : decode code 469 = .ok (.aload_n 0, 1) := by decide +kernel
theorem dL_law_470 : decode code 470 = .ok (.iload_n 3, 1) := by decide +kernel
theorem dL_law_471 : decode code 471 = .ok (.iconst 2, 1) := by decide +kernel
theorem dL_law_472 : decode code 472 = .ok (.iadd, 1) := by decide +kernel
theorem dL_law_473 : decode code 473 = .ok (.iaload, 1) := by decide +kernel
theorem dL_law_474 : decode code 474 = .ok (.aload_n 0, 1) := by decide +kernel
theorem dL_law_475 : decode code 475 = .ok (.iload_n 3, 1) := by decide +kernel
theorem dL_law_476 : decode code 476 = .ok (.iconst 3, 1) := by decide +kernel
theorem dL_law_477 : decode code 477 = .ok (.iadd, 1) := by decide +kernel
theorem dL_law_478 : decode code 478 = .ok (.iaload, 1) := by decide +kernel
theorem dL_law_479 : decode code 479 = .ok (.aload_n 0, 1) := by decide +kernel
theorem dL_law_480 : decode code 480 = .ok (.iload_n 3, 1) := by decide +kernel
theorem dL_law_481 : decode code 481 = .ok (.iconst 4, 1) := by decide +kernel
theorem dL_law_482 : decode code 482 = .ok (.iadd, 1) := by decide +kernel
theorem dL_law_483 : decode code 483 = .ok (.iaload, 1) := by decide +kernel
theorem dL_law_484 : decode code 484 = .ok (.aload_n 0, 1) := by decide +kernel
theorem dL_law_485 : decode code 485 = .ok (.iload_n 3, 1) := by decide +kernel
theorem dL_law_486 : decode code 486 = .ok (.iconst 5, 1) := by decide +kernel
theorem dL_law_487 : decode code 487 = .ok (.iadd, 1) := by decide +kernel
theorem dL_law_488 : decode code 488 = .ok (.iaload, 1) := by decide +kernel
theorem dL_law_489 : decode code 489 = .ok (.invokevirtual 44, 3) := by decide +kernel
theorem dL_law_492 : decode code 492 = .ok (.aload_n 2, 1) := by decide +kernel
theorem dL_law_493 : decode code 493 = .ok (.aload_n 0, 1) := by decide +kernel
theorem dL_law_494 : decode code 494 = .ok (.iload_n 3, 1) := by decide +kernel
theorem dL_law_495 : decode code 495 = .ok (.iconst 1, 1) := by decide +kernel
theorem dL_law_496 : decode code 496 = .ok (.iadd, 1) := by decide +kernel
theorem dL_law_497 : decode code 497 = .ok (.iaload, 1) := by decide +kernel
theorem dL_law_498 : decode code 498 = .ok (.aload_n 0, 1) := by decide +kernel
theorem dL_law_499 : decode code 499 = .ok (.iload_n 3, 1) := by decide +kernel
theorem dL_law_500 : decode code 500 = .ok (.iconst 2, 1) := by decide +kernel
theorem dL_law_501 : decode code 501 = .ok (.iadd, 1) := by decide +kernel
theorem dL_law_502 : decode code 502 = .ok (.iaload, 1) := by decide +kernel
theorem dL_law_503 : decode code 503 = .ok (.aload_n 0, 1) := by decide +kernel
theorem dL_law_504 : decode code 504 = .ok (.iload_n 3, 1) := by decide +kernel
theorem dL_law_505 : decode code 505 = .ok (.iconst 3, 1) := by decide +kernel
theorem dL_law_506 : decode code 506 = .ok (.iadd, 1) := by decide +kernel
theorem dL_law_507 : decode code 507 = .ok (.iaload, 1) := by decide +kernel
theorem dL_law_508 : decode code 508 = .ok (.aload_n 0, 1) := by decide +kernel
theorem dL_law_509 : decode code 509 = .ok (.iload_n 3, 1) := by decide +kernel
theorem dL_law_510 : decode code 510 = .ok (.iconst 4, 1) := by decide +kernel
theorem dL_law_511 : decode code 511 = .ok (.iadd, 1) := by decide +kernel
theorem dL_law_512 : decode code 512 = .ok (.iaload, 1) := by decide +kernel
theorem dL_law_513 : decode code 513 = .ok (.aload_n 0, 1) := by decide +kernel
theorem dL_law_514 : decode code 514 = .ok (.iload_n 3, 1) := by decide +kernel
theorem dL_law_515 : decode code 515 = .ok (.iconst 5, 1) := by decide +kernel
theorem dL_law_516 : decode code 516 = .ok (.iadd, 1) := by decide +kernel
theorem dL_law_517 : decode code 517 = .ok (.iaload, 1) := by decide +kernel
theorem dL_law_518 : decode code 518 = .ok (.invokevirtual 48, 3) := by decide +kernel
theorem dL_law_521 : decode code 521 = .ok (.if_icmp .eq 1518, 3) := by decide +kernel
theorem dL_law_526 : decode code 526 = .ok (.aload_n 1, 1) := by decide +kernel
theorem dL_law_527 : decode code 527 = .ok (.aload_n 0, 1) := by decide +kernel
theorem dL_law_528 : decode code 528 = .ok (.iload_n 3, 1) := by decide +kernel
theorem dL_law_529 : decode code 529 = .ok (.iconst 1, 1) := by decide +kernel
theorem dL_law_530 : decode code 530 = .ok (.iadd, 1) := by decide +kernel
theorem dL_law_531 : decode code 531 = .ok (.iaload, 1) := by decide +kernel
theorem dL_law_532 : decode code 532 = .ok (.aload_n 0, 1) := by decide +kernel
theorem dL_law_533 : decode code 533 = .ok (.iload_n 3, 1) := by decide +kernel
theorem dL_law_534 : decode code 534 = .ok (.iconst 2, 1) := by decide +kernel
theorem dL_law_535 : decode code 535 = .ok (.iadd, 1) := by decide +kernel
theorem dL_law_536 : decode code 536 = .ok (.iaload, 1) := by decide +kernel
theorem dL_law_537 : decode code 537 = .ok (.aload_n 0, 1) := by decide +kernel
theorem dL_law_538 : decode code 538 = .ok (.iload_n 3, 1) := by decide +kernel
theorem dL_law_539 : decode code 539 = .ok (.iconst 3, 1) := by decide +kernel
theorem dL_law_540 : decode code 540 = .ok (.iadd, 1) := by decide +kernel
theorem dL_law_541 : decode code 541 = .ok (.iaload, 1) := by decide +kernel
theorem dL_law_542 : decode code 542 = .ok (.aload_n 0, 1) := by decide +kernel
theorem dL_law_543 : decode code 543 = .ok (.iload_n 3, 1) := by decide +kernel
theorem dL_law_544 : decode code 544 = .ok (.iconst 4, 1) := by decide +kernel
theorem dL_law_545 : decode code 545 = .ok (.iadd, 1) := by decide +kernel
theorem dL_law_546 : decode code 546 = .ok (.iaload, 1) := by decide +kernel
theorem dL_law_547 : decode code 547 = .ok (.aload_n 0, 1) := by decide +kernel
theorem dL_law_548 : decode code 548 = .ok (.iload_n 3, 1) := by decide +kernel
theorem dL_law_549 : decode code 549 = .ok (.iconst 5, 1) := by decide +kernel
theorem dL_law_550 : decode code 550 = .ok (.iadd, 1) := by decide +kernel
theorem dL_law_551 : decode code 551 = .ok (.iaload, 1) := by decide +kernel
theorem dL_law_552 : decode code 552 = .ok (.invokevirtual 49, 3) := by decide +kernel
theorem dL_law_555 : decode code 555 = .ok (.aload_n 2, 1) := by decide +kernel
theorem dL_law_556 : decode code 556 = .ok (.aload_n 0, 1) := by decide +kernel
theorem dL_law_557 : decode code 557 = .ok (.iload_n 3, 1) := by decide +kernel
theorem dL_law_558 : decode code 558 = .ok (.iconst 1, 1) := by decide +kernel
theorem dL_law_559 : decode code 559 = .ok (.iadd, 1) := by decide +kernel
theorem dL_law_560 : decode code 560 = .ok (.iaload, 1) := by decide +kernel
theorem dL_law_561 : decode code 561 = .ok (.aload_n 0, 1) := by decide +kernel
theorem dL_law_562 : decode code 562 = .ok (.iload_n 3, 1) := by decide +kernel
theorem dL_law_563 : decode code 563 = .ok (.iconst 2, 1) := by decide +kernel
theorem dL_law_564 : decode code 564 = .ok (.iadd, 1) := by decide +kernel
theorem dL_law_565 : decode code 565 = .ok (.iaload, 1) := by decide +kernel
theorem dL_law_566 : decode code 566 = .ok (.aload_n 0, 1) := by decide +kernel
theorem dL_law_567 : decode code 567 = .ok (.iload_n 3, 1) := by decide +kernel
theorem dL_law_568 : decode code 568 = .ok (.iconst 3, 1) := by decide +kernel
theorem dL_law_569 : decode code 569 = .ok (.iadd, 1) := by decide +kernel
theorem dL_law_570 : decode code 570 = .ok (.iaload, 1) := by decide +kernel
theorem dL_law_571 : decode code 571 = .ok (.aload_n 0, 1) := by decide +kernel
theorem dL_law_572 : decode code 572 = .ok (.iload_n 3, 1) := by decide +kernel
theorem dL_law_573 : decode code 573 = .ok (.iconst 4, 1) := by decide +kernel
theorem dL_law_574 : decode code 574 = .ok (.iadd, 1) := by decide +kernel
theorem dL_law_575 : decode code 575 = .ok (.iaload, 1) := by decide +kernel
theorem dL_law_576 : decode code 576 = .ok (.aload_n 0, 1) := by decide +kernel
theorem dL_law_577 : decode code 577 = .ok (.iload_n 3, 1) := by decide +kernel
theorem dL_law_578 : decode code 578 = .ok (.iconst 5, 1) := by decide +kernel
theorem dL_law_579 : decode code 579 = .ok (.iadd, 1) := by decide +kernel
theorem dL_law_580 : decode code 580 = .ok (.iaload, 1) := by decide +kernel
theorem dL_law_581 : decode code 581 = .ok (.invokevirtual 53, 3) := by decide +kernel
theorem dL_law_584 : decode code 584 = .ok (.if_icmp .eq 1455, 3) := by decide +kernel
theorem dL_law_589 : decode code 589 = .ok (.aload_n 1, 1) := by decide +kernel
theorem dL_law_590 : decode code 590 = .ok (.aload_n 0, 1) := by decide +kernel
theorem dL_law_591 : decode code 591 = .ok (.iload_n 3, 1) := by decide +kernel
theorem dL_law_592 : decode code 592 = .ok (.iconst 1, 1) := by decide +kernel
theorem dL_law_593 : decode code 593 = .ok (.iadd, 1) := by decide +kernel
theorem dL_law_594 : decode code 594 = .ok (.iaload, 1) := by decide +kernel
theorem dL_law_595 : decode code 595 = .ok (.invokevirtual 54, 3) := by decide +kernel
theorem dL_law_598 : decode code 598 = .ok (.aload_n 2, 1) := by decide +kernel
theorem dL_law_599 : decode code 599 = .ok (.aload_n 0, 1) := by decide +kernel
theorem dL_law_600 : decode code 600 = .ok (.iload_n 3, 1) := by decide +kernel
theorem dL_law_601 : decode code 601 = .ok (.iconst 1, 1) := by decide +kernel
theorem dL_law_602 : decode code 602 = .ok (.iadd, 1) := by decide +kernel
theorem dL_law_603 : decode code 603 = .ok (.iaload, 1) := by decide +kernel
theorem dL_law_604 : decode code 604 = .ok (.invokevirtual 58, 3) := by decide +kernel
theorem dL_law_607 : decode code 607 = .ok (.if_icmp .eq 1432, 3) := by decide +kernel
theorem dL_law_612 : decode code 612 = .ok (.aload_n 1, 1) := by decide +kernel
theorem dL_law_613 : decode code 613 = .ok (.aload_n 0, 1) := by decide +kernel
theorem dL_law_614 : decode code 614 = .ok (.iload_n 3, 1) := by decide +kernel
theorem dL_law_615 : decode code 615 = .ok (.iconst 1, 1) := by decide +kernel
theorem dL_law_616 : decode code 616 = .ok (.iadd, 1) := by decide +kernel
theorem dL_law_617 : decode code 617 = .ok (.iaload, 1) := by decide +kernel
theorem dL_law_618 : decode code 618 = .ok (.invokevirtual 59, 3) := by decide +kernel
theorem dL_law_621 : decode code 621 = .ok (.aload_n 2, 1) := by decide +kernel
theorem dL_law_622 : decode code 622 = .ok (.aload_n 0, 1) := by decide +kernel
theorem dL_law_623 : decode code 623 = .ok (.iload_n 3, 1) := by decide +kernel
theorem dL_law_624 : decode code 624 = .ok (.iconst 1, 1) := by decide +kernel
theorem dL_law_625 : decode code 625 = .ok (.iadd, 1) := by decide +kernel
theorem dL_law_626 : decode code 626 = .ok (.iaload, 1) := by decide +kernel
theorem dL_law_627 : decode code 627 = .ok (.invokevirtual 62, 3) := by decide +kernel
theorem dL_law_630 : decode code 630 = .ok (.if_icmp .eq 1409, 3) := by decide +kernel
theorem dL_law_635 : decode code 635 = .ok (.aload_n 1, 1) := by decide +kernel
theorem dL_law_636 : decode code 636 = .ok (.aload_n 0, 1) := by decide +kernel
theorem dL_law_637 : decode code 637 = .ok (.iload_n 3, 1) := by decide +kernel
theorem dL_law_638 : decode code 638 = .ok (.iconst 1, 1) := by decide +kernel
theorem dL_law_639 : decode code 639 = .ok (.iadd, 1) := by decide +kernel
theorem dL_law_640 : decode code 640 = .ok (.iaload, 1) := by decide +kernel
theorem dL_law_641 : decode code 641 = .ok (.invokevirtual 63, 3) := by decide +kernel
theorem dL_law_644 : decode code 644 = .ok (.aload_n 2, 1) := by decide +kernel
theorem dL_law_645 : decode code 645 = .ok (.aload_n 0, 1) := by decide +kernel
theorem dL_law_646 : decode code 646 = .ok (.iload_n 3, 1) := by decide +kernel
theorem dL_law_647 : decode code 647 = .ok (.iconst 1, 1) := by decide +kernel
theorem dL_law_648 : decode code 648 = .ok (.iadd, 1) := by decide +kernel
theorem dL_law_649 : decode code 649 = .ok (.iaload, 1) := by decide +kernel
theorem dL_law_650 : decode code 650 = .ok (.invokevirtual 66, 3) := by decide +kernel
theorem dL_law_653 : decode code 653 = .ok (.if_icmp .eq 1386, 3) := by decide +kernel
theorem dL_law_658 : decode code 658 = .ok (.aload_n 1, 1) := by decide +kernel
theorem dL_law_659 : decode code 659 = .ok (.aload_n 0, 1) := by decide +kernel
theorem dL_law_660 : decode code 660 = .ok (.iload_n 3, 1) := by decide +kernel
theorem dL_law_661 : decode code 661 = .ok (.iconst 1, 1) := by decide +kernel
theorem dL_law_662 : decode code 662 = .ok (.iadd, 1) := by decide +kernel
theorem dL_law_663 : decode code 663 = .ok (.iaload, 1) := by decide +kernel
theorem dL_law_664 : decode code 664 = .ok (.invokevirtual 67, 3) := by decide +kernel
theorem dL_law_667 : decode code 667 = .ok (.aload_n 2, 1) := by decide +kernel
theorem dL_law_668 : decode code 668 = .ok (.aload_n 0, 1) := by decide +kernel
theorem dL_law_669 : decode code 669 = .ok (.iload_n 3, 1) := by decide +kernel
theorem dL_law_670 : decode code 670 = .ok (.iconst 1, 1) := by decide +kernel
theorem dL_law_671 : decode code 671 = .ok (.iadd, 1) := by decide +kernel
theorem dL_law_672 : decode code 672 = .ok (.iaload, 1) := by decide +kernel
theorem dL_law_673 : decode code 673 = .ok (.invokevirtual 70, 3) := by decide +kernel
theorem dL_law_676 : decode code 676 = .ok (.if_icmp .eq 1363, 3) := by decide +kernel
theorem dL_law_681 : decode code 681 = .ok (.aload_n 1, 1) := by decide +kernel
theorem dL_law_682 : decode code 682 = .ok (.aload_n 0, 1) := by decide +kernel
theorem dL_law_683 : decode code 683 = .ok (.iload_n 3, 1) := by decide +kernel
theorem dL_law_684 : decode code 684 = .ok (.iconst 1, 1) := by decide +kernel
theorem dL_law_685 : decode code 685 = .ok (.iadd, 1) := by decide +kernel
theorem dL_law_686 : decode code 686 = .ok (.iaload, 1) := by decide +kernel
theorem dL_law_687 : decode code 687 = .ok (.aload_n 0, 1) := by decide +kernel
theorem dL_law_688 : decode code 688 = .ok (.iload_n 3, 1) := by decide +kernel
theorem dL_law_689 : decode code 689 = .ok (.iconst 2, 1) := by decide +kernel
theorem dL_law_690 : decode code 690 = .ok (.iadd, 1) := by decide +kernel
theorem dL_law_691 : decode code 691 = .ok (.iaload, 1) := by decide +kernel
theorem dL_law_692 : decode code 692 = .ok (.invokevirtual 71, 3) := by decide +kernel
theorem dL_law_695 : decode code 695 = .ok (.aload_n 2, 1) := by decide +kernel
theorem dL_law_696 : decode code 696 = .ok (.aload_n 0, 1) := by decide +kernel
theorem dL_law_697 : decode code 697 = .ok (.iload_n 3, 1) := by decide +kernel
theorem dL_law_698 : decode code 698 = .ok (.iconst 1, 1) := by decide +kernel
theorem dL_law_699 : decode code 699 = .ok (.iadd, 1) := by decide +kernel
theorem dL_law_700 : decode code 700 = .ok (.iaload, 1) := by decide +kernel
theorem dL_law_701 : decode code 701 = .ok (.aload_n 0, 1) := by decide +kernel
theorem dL_law_702 : decode code 702 = .ok (.iload_n 3, 1) := by decide +kernel
theorem dL_law_703 : decode code 703 = .ok (.iconst 2, 1) := by decide +kernel
theorem dL_law_704 : decode code 704 = .ok (.iadd, 1) := by decide +kernel
theorem dL_law_705 : decode code 705 = .ok (.iaload, 1) := by decide +kernel
theorem dL_law_706 : decode code 706 = .ok (.invokevirtual 75, 3) := by decide +kernel
theorem dL_law_709 : decode code 709 = .ok (.if_icmp .eq 1330, 3) := by decide +kernel
theorem dL_law_714 : decode code 714 = .ok (.aload_n 1, 1) := by decide +kernel
theorem dL_law_715 : decode code 715 = .ok (.aload_n 0, 1) := by decide +kernel
theorem dL_law_716 : decode code 716 = .ok (.iload_n 3, 1) := by decide +kernel
theorem dL_law_717 : decode code 717 = .ok (.iconst 1, 1) := by decide +kernel
theorem dL_law_718 : decode code 718 = .ok (.iadd, 1) := by decide +kernel
theorem dL_law_719 : decode code 719 = .ok (.iaload, 1) := by decide +kernel
theorem dL_law_720 : decode code 720 = .ok (.aload_n 0, 1) := by decide +kernel
theorem dL_law_721 : decode code 721 = .ok (.iload_n 3, 1) := by decide +kernel
theorem dL_law_722 : decode code 722 = .ok (.iconst 2, 1) := by decide +kernel
theorem dL_law_723 : decode code 723 = .ok (.iadd, 1) := by decide +kernel
theorem dL_law_724 : decode code 724 = .ok (.iaload, 1) := by decide +kernel
theorem dL_law_725 : decode code 725 = .ok (.invokevirtual 76, 3) := by decide +kernel
theorem dL_law_728 : decode code 728 = .ok (.aload_n 2, 1) := by decide +kernel
theorem dL_law_729 : decode code 729 = .ok (.aload_n 0, 1) := by decide +kernel
theorem dL_law_730 : decode code 730 = .ok (.iload_n 3, 1) := by decide +kernel
theorem dL_law_731 : decode code 731 = .ok (.iconst 1, 1) := by decide +kernel
theorem dL_law_732 : decode code 732 = .ok (.iadd, 1) := by decide +kernel
theorem dL_law_733 : decode code 733 = .ok (.iaload, 1) := by decide +kernel
theorem dL_law_734 : decode code 734 = .ok (.aload_n 0, 1) := by decide +kernel
theorem dL_law_735 : decode code 735 = .ok (.iload_n 3, 1) := by decide +kernel
theorem dL_law_736 : decode code 736 = .ok (.iconst 2, 1) := by decide +kernel
theorem dL_law_737 : decode code 737 = .ok (.iadd, 1) := by decide +kernel
theorem dL_law_738 : decode code 738 = .ok (.iaload, 1) := by decide +kernel
theorem dL_law_739 : decode code 739 = .ok (.invokevirtual 79, 3) := by decide +kernel
theorem dL_law_742 : decode code 742 = .ok (.if_icmp .eq 1297, 3) := by decide +kernel
theorem dL_law_747 : decode code 747 = .ok (.aload_n 1, 1) := by decide +kernel
theorem dL_law_748 : decode code 748 = .ok (.aload_n 0, 1) := by decide +kernel
theorem dL_law_749 : decode code 749 = .ok (.iload_n 3, 1) := by decide +kernel
theorem dL_law_750 : decode code 750 = .ok (.iconst 1, 1) := by decide +kernel
theorem dL_law_751 : decode code 751 = .ok (.iadd, 1) := by decide +kernel
theorem dL_law_752 : decode code 752 = .ok (.iaload, 1) := by decide +kernel
theorem dL_law_753 : decode code 753 = .ok (.aload_n 0, 1) := by decide +kernel
theorem dL_law_754 : decode code 754 = .ok (.iload_n 3, 1) := by decide +kernel
theorem dL_law_755 : decode code 755 = .ok (.iconst 2, 1) := by decide +kernel
theorem dL_law_756 : decode code 756 = .ok (.iadd, 1) := by decide +kernel
theorem dL_law_757 : decode code 757 = .ok (.iaload, 1) := by decide +kernel
theorem dL_law_758 : decode code 758 = .ok (.aload_n 0, 1) := by decide +kernel
theorem dL_law_759 : decode code 759 = .ok (.iload_n 3, 1) := by decide +kernel
theorem dL_law_760 : decode code 760 = .ok (.iconst 3, 1) := by decide +kernel
theorem dL_law_761 : decode code 761 = .ok (.iadd, 1) := by decide +kernel
theorem dL_law_762 : decode code 762 = .ok (.iaload, 1) := by decide +kernel
theorem dL_law_763 : decode code 763 = .ok (.invokevirtual 80, 3) := by decide +kernel
theorem dL_law_766 : decode code 766 = .ok (.aload_n 2, 1) := by decide +kernel
theorem dL_law_767 : decode code 767 = .ok (.aload_n 0, 1) := by decide +kernel
theorem dL_law_768 : decode code 768 = .ok (.iload_n 3, 1) := by decide +kernel
theorem dL_law_769 : decode code 769 = .ok (.iconst 1, 1) := by decide +kernel
theorem dL_law_770 : decode code 770 = .ok (.iadd, 1) := by decide +kernel
theorem dL_law_771 : decode code 771 = .ok (.iaload, 1) := by decide +kernel
theorem dL_law_772 : decode code 772 = .ok (.aload_n 0, 1) := by decide +kernel
theorem dL_law_773 : decode code 773 = .ok (.iload_n 3, 1) := by decide +kernel
theorem dL_law_774 : decode code 774 = .ok (.iconst 2, 1) := by decide +kernel
theorem dL_law_775 : decode code 775 = .ok (.iadd, 1) := by decide +kernel
theorem dL_law_776 : decode code 776 = .ok (.iaload, 1) := by decide +kernel
theorem dL_law_777 : decode code 777 = .ok (.aload_n 0, 1) := by decide +kernel
theorem dL_law_778 : decode code 778 = .ok (.iload_n 3, 1) := by decide +kernel
theorem dL_law_779 : decode code 779 = .ok (.iconst 3, 1) := by decide +kernel
theorem dL_law_780 : decode code 780 = .ok (.iadd, 1) := by decide +kernel
theorem dL_law_781 : decode code 781 = .ok (.iaload, 1) := by decide +kernel
theorem dL_law_782 : decode code 782 = .ok (.invokevirtual 84, 3) := by decide +kernel
theorem dL_law_785 : decode code 785 = .ok (.if_icmp .eq 1254, 3) := by decide +kernel
theorem dL_law_790 : decode code 790 = .ok (.aload_n 1, 1) := by decide +kernel
theorem dL_law_791 : decode code 791 = .ok (.aload_n 0, 1) := by decide +kernel
theorem dL_law_792 : decode code 792 = .ok (.iload_n 3, 1) := by decide +kernel
theorem dL_law_793 : decode code 793 = .ok (.iconst 1, 1) := by decide +kernel
theorem dL_law_794 : decode code 794 = .ok (.iadd, 1) := by decide +kernel
theorem dL_law_795 : decode code 795 = .ok (.iaload, 1) := by decide +kernel
theorem dL_law_796 : decode code 796 = .ok (.aload_n 0, 1) := by decide +kernel
theorem dL_law_797 : decode code 797 = .ok (.iload_n 3, 1) := by decide +kernel
theorem dL_law_798 : decode code 798 = .ok (.iconst 2, 1) := by decide +kernel
theorem dL_law_799 : decode code 799 = .ok (.iadd, 1) := by decide +kernel
theorem dL_law_800 : decode code 800 = .ok (.iaload, 1) := by decide +kernel
theorem dL_law_801 : decode code 801 = .ok (.invokevirtual 85, 3) := by decide +kernel
theorem dL_law_804 : decode code 804 = .ok (.aload_n 2, 1) := by decide +kernel
theorem dL_law_805 : decode code 805 = .ok (.aload_n 0, 1) := by decide +kernel
theorem dL_law_806 : decode code 806 = .ok (.iload_n 3, 1) := by decide +kernel
theorem dL_law_807 : decode code 807 = .ok (.iconst 1, 1) := by decide +kernel
theorem dL_law_808 : decode code 808 = .ok (.iadd, 1) := by decide +kernel
theorem dL_law_809 : decode code 809 = .ok (.iaload, 1) := by decide +kernel
theorem dL_law_810 : decode code 810 = .ok (.aload_n 0, 1) := by decide +kernel
theorem dL_law_811 : decode code 811 = .ok (.iload_n 3, 1) := by decide +kernel
theorem dL_law_812 : decode code 812 = .ok (.iconst 2, 1) := by decide +kernel
theorem dL_law_813 : decode code 813 = .ok (.iadd, 1) := by decide +kernel
theorem dL_law_814 : decode code 814 = .ok (.iaload, 1) := by decide +kernel
theorem dL_law_815 : decode code 815 = .ok (.invokevirtual 88, 3) := by decide +kernel
theorem dL_law_818 : decode code 818 = .ok (.if_icmp .eq 1221, 3) := by decide +kernel
theorem dL_law_823 : decode code 823 = .ok (.aload_n 1, 1) := by decide +kernel
theorem dL_law_824 : decode code 824 = .ok (.aload_n 0, 1) := by decide +kernel
theorem dL_law_825 : decode code 825 = .ok (.iload_n 3, 1) := by decide +kernel
theorem dL_law_826 : decode code 826 = .ok (.iconst 1, 1) := by decide +kernel
theorem dL_law_827 : decode code 827 = .ok (.iadd, 1) := by decide +kernel
theorem dL_law_828 : decode code 828 = .ok (.iaload, 1) := by decide +kernel
theorem dL_law_829 : decode code 829 = .ok (.invokevirtual 89, 3) := by decide +kernel
theorem dL_law_832 : decode code 832 = .ok (.aload_n 2, 1) := by decide +kernel
theorem dL_law_833 : decode code 833 = .ok (.aload_n 0, 1) := by decide +kernel
theorem dL_law_834 : decode code 834 = .ok (.iload_n 3, 1) := by decide +kernel
theorem dL_law_835 : decode code 835 = .ok (.iconst 1, 1) := by decide +kernel
theorem dL_law_836 : decode code 836 = .ok (.iadd, 1) := by decide +kernel
theorem dL_law_837 : decode code 837 = .ok (.iaload, 1) := by decide +kernel
theorem dL_law_838 : decode code 838 = .ok (.invokevirtual 92, 3) := by decide +kernel
theorem dL_law_841 : decode code 841 = .ok (.if_icmp .eq 1198, 3) := by decide +kernel
theorem dL_law_846 : decode code 846 = .ok (.aload_n 1, 1) := by decide +kernel
theorem dL_law_847 : decode code 847 = .ok (.aload_n 0, 1) := by decide +kernel
theorem dL_law_848 : decode code 848 = .ok (.iload_n 3, 1) := by decide +kernel
theorem dL_law_849 : decode code 849 = .ok (.iconst 1, 1) := by decide +kernel
theorem dL_law_850 : decode code 850 = .ok (.iadd, 1) := by decide +kernel
theorem dL_law_851 : decode code 851 = .ok (.iaload, 1) := by decide +kernel
theorem dL_law_852 : decode code 852 = .ok (.invokevirtual 93, 3) := by decide +kernel
theorem dL_law_855 : decode code 855 = .ok (.aload_n 2, 1) := by decide +kernel
theorem dL_law_856 : decode code 856 = .ok (.aload_n 0, 1) := by decide +kernel
theorem dL_law_857 : decode code 857 = .ok (.iload_n 3, 1) := by decide +kernel
theorem dL_law_858 : decode code 858 = .ok (.iconst 1, 1) := by decide +kernel
theorem dL_law_859 : decode code 859 = .ok (.iadd, 1) := by decide +kernel
theorem dL_law_860 : decode code 860 = .ok (.iaload, 1) := by decide +kernel
theorem dL_law_861 : decode code 861 = .ok (.invokevirtual 96, 3) := by decide +kernel
theorem dL_law_864 : decode code 864 = .ok (.if_icmp .eq 1175, 3) := by decide +kernel
theorem dL_law_869 : decode code 869 = .ok (.aload_n 1, 1) := by decide +kernel
theorem dL_law_870 : decode code 870 = .ok (.aload_n 0, 1) := by decide +kernel
theorem dL_law_871 : decode code 871 = .ok (.iload_n 3, 1) := by decide +kernel
theorem dL_law_872 : decode code 872 = .ok (.iconst 1, 1) := by decide +kernel
theorem dL_law_873 : decode code 873 = .ok (.iadd, 1) := by decide +kernel
theorem dL_law_874 : decode code 874 = .ok (.iaload, 1) := by decide +kernel
theorem dL_law_875 : decode code 875 = .ok (.invokevirtual 97, 3) := by decide +kernel
theorem dL_law_878 : decode code 878 = .ok (.aload_n 2, 1) := by decide +kernel
theorem dL_law_879 : decode code 879 = .ok (.aload_n 0, 1) := by decide +kernel
theorem dL_law_880 : decode code 880 = .ok (.iload_n 3, 1) := by decide +kernel
theorem dL_law_881 : decode code 881 = .ok (.iconst 1, 1) := by decide +kernel
theorem dL_law_882 : decode code 882 = .ok (.iadd, 1) := by decide +kernel
theorem dL_law_883 : decode code 883 = .ok (.iaload, 1) := by decide +kernel
theorem dL_law_884 : decode code 884 = .ok (.invokevirtual 100, 3) := by decide +kernel
theorem dL_law_887 : decode code 887 = .ok (.if_icmp .eq 1152, 3) := by decide +kernel
theorem dL_law_892 : decode code 892 = .ok (.aload_n 1, 1) := by decide +kernel
theorem dL_law_893 : decode code 893 = .ok (.aload_n 0, 1) := by decide +kernel
theorem dL_law_894 : decode code 894 = .ok (.iload_n 3, 1) := by decide +kernel
theorem dL_law_895 : decode code 895 = .ok (.iconst 1, 1) := by decide +kernel
theorem dL_law_896 : decode code 896 = .ok (.iadd, 1) := by decide +kernel
theorem dL_law_897 : decode code 897 = .ok (.iaload, 1) := by decide +kernel
theorem dL_law_898 : decode code 898 = .ok (.aload_n 0, 1) := by decide +kernel
theorem dL_law_899 : decode code 899 = .ok (.iload_n 3, 1) := by decide +kernel
theorem dL_law_900 : decode code 900 = .ok (.iconst 2, 1) := by decide +kernel
theorem dL_law_901 : decode code 901 = .ok (.iadd, 1) := by decide +kernel
theorem dL_law_902 : decode code 902 = .ok (.iaload, 1) := by decide +kernel
theorem dL_law_903 : decode code 903 = .ok (.aload_n 0, 1) := by decide +kernel
theorem dL_law_904 : decode code 904 = .ok (.iload_n 3, 1) := by decide +kernel
theorem dL_law_905 : decode code 905 = .ok (.iconst 3, 1) := by decide +kernel
theorem dL_law_906 : decode code 906 = .ok (.iadd, 1) := by decide +kernel
theorem dL_law_907 : decode code 907 = .ok (.iaload, 1) := by decide +kernel
theorem dL_law_908 : decode code 908 = .ok (.invokevirtual 101, 3) := by decide +kernel
theorem dL_law_911 : decode code 911 = .ok (.aload_n 2, 1) := by decide +kernel
theorem dL_law_912 : decode code 912 = .ok (.aload_n 0, 1) := by decide +kernel
theorem dL_law_913 : decode code 913 = .ok (.iload_n 3, 1) := by decide +kernel
theorem dL_law_914 : decode code 914 = .ok (.iconst 1, 1) := by decide +kernel
theorem dL_law_915 : decode code 915 = .ok (.iadd, 1) := by decide +kernel
theorem dL_law_916 : decode code 916 = .ok (.iaload, 1) := by decide +kernel
theorem dL_law_917 : decode code 917 = .ok (.aload_n 0, 1) := by decide +kernel
theorem dL_law_918 : decode code 918 = .ok (.iload_n 3, 1) := by decide +kernel
theorem dL_law_919 : decode code 919 = .ok (.iconst 2, 1) := by decide +kernel
theorem dL_law_920 : decode code 920 = .ok (.iadd, 1) := by decide +kernel
theorem dL_law_921 : decode code 921 = .ok (.iaload, 1) := by decide +kernel
theorem dL_law_922 : decode code 922 = .ok (.aload_n 0, 1) := by decide +kernel
theorem dL_law_923 : decode code 923 = .ok (.iload_n 3, 1) := by decide +kernel
theorem dL_law_924 : decode code 924 = .ok (.iconst 3, 1) := by decide +kernel
theorem dL_law_925 : decode code 925 = .ok (.iadd, 1) := by decide +kernel
theorem dL_law_926 : decode code 926 = .ok (.iaload, 1) := by decide +kernel
theorem dL_law_927 : decode code 927 = .ok (.invokevirtual 104, 3) := by decide +kernel
theorem dL_law_930 : decode code 930 = .ok (.if_icmp .eq 1109, 3) := by decide +kernel
theorem dL_law_935 : decode code 935 = .ok (.aload_n 1, 1) := by decide +kernel
theorem dL_law_936 : decode code 936 = .ok (.aload_n 0, 1) := by decide +kernel
theorem dL_law_937 : decode code 937 = .ok (.iload_n 3, 1) := by decide +kernel
theorem dL_law_938 : decode code 938 = .ok (.iconst 1, 1) := by decide +kernel
theorem dL_law_939 : decode code 939 = .ok (.iadd, 1) := by decide +kernel
theorem dL_law_940 : decode code 940 = .ok (.iaload, 1) := by decide +kernel
theorem dL_law_941 : decode code 941 = .ok (.aload_n 0, 1) := by decide +kernel
theorem dL_law_942 : decode code 942 = .ok (.iload_n 3, 1) := by decide +kernel
theorem dL_law_943 : decode code 943 = .ok (.iconst 2, 1) := by decide +kernel
theorem dL_law_944 : decode code 944 = .ok (.iadd, 1) := by decide +kernel
theorem dL_law_945 : decode code 945 = .ok (.iaload, 1) := by decide +kernel
theorem dL_law_946 : decode code 946 = .ok (.invokevirtual 105, 3) := by decide +kernel
theorem dL_law_949 : decode code 949 = .ok (.aload_n 2, 1) := by decide +kernel
theorem dL_law_950 : decode code 950 = .ok (.aload_n 0, 1) := by decide +kernel
theorem dL_law_951 : decode code 951 = .ok (.iload_n 3, 1) := by decide +kernel
theorem dL_law_952 : decode code 952 = .ok (.iconst 1, 1) := by decide +kernel
theorem dL_law_953 : decode code 953 = .ok (.iadd, 1) := by decide +kernel
theorem dL_law_954 : decode code 954 = .ok (.iaload, 1) := by decide +kernel
theorem dL_law_955 : decode code 955 = .ok (.aload_n 0, 1) := by decide +kernel
theorem dL_law_956 : decode code 956 = .ok (.iload_n 3, 1) := by decide +kernel
theorem dL_law_957 : decode code 957 = .ok (.iconst 2, 1) := by decide +kernel
theorem dL_law_958 : decode code 958 = .ok (.iadd, 1) := by decide +kernel
theorem dL_law_959 : decode code 959 = .ok (.iaload, 1) := by decide +kernel
theorem dL_law_960 : decode code 960 = .ok (.invokevirtual 108, 3) := by decide +kernel
theorem dL_law_963 : decode code 963 = .ok (.if_icmp .eq 1076, 3) := by decide +kernel
theorem dL_law_968 : decode code 968 = .ok (.aload_n 1, 1) := by decide +kernel
theorem dL_law_969 : decode code 969 = .ok (.aload_n 0, 1) := by decide +kernel
theorem dL_law_970 : decode code 970 = .ok (.iload_n 3, 1) := by decide +kernel
theorem dL_law_971 : decode code 971 = .ok (.iconst 1, 1) := by decide +kernel
theorem dL_law_972 : decode code 972 = .ok (.iadd, 1) := by decide +kernel
theorem dL_law_973 : decode code 973 = .ok (.iaload, 1) := by decide +kernel
theorem dL_law_974 : decode code 974 = .ok (.aload_n 0, 1) := by decide +kernel
theorem dL_law_975 : decode code 975 = .ok (.iload_n 3, 1) := by decide +kernel
theorem dL_law_976 : decode code 976 = .ok (.iconst 2, 1) := by decide +kernel
theorem dL_law_977 : decode code 977 = .ok (.iadd, 1) := by decide +kernel
theorem dL_law_978 : decode code 978 = .ok (.iaload, 1) := by decide +kernel
theorem dL_law_979 : decode code 979 = .ok (.invokevirtual 109, 3) := by decide +kernel
theorem dL_law_982 : decode code 982 = .ok (.aload_n 2, 1) := by decide +kernel
theorem dL_law_983 : decode code 983 = .ok (.aload_n 0, 1) := by decide +kernel
theorem dL_law_984 : decode code 984 = .ok (.iload_n 3, 1) := by decide +kernel
theorem dL_law_985 : decode code 985 = .ok (.iconst 1, 1) := by decide +kernel
theorem dL_law_986 : decode code 986 = .ok (.iadd, 1) := by decide +kernel
theorem dL_law_987 : decode code 987 = .ok (.iaload, 1) := by decide +kernel
theorem dL_law_988 : decode code 988 = .ok (.aload_n 0, 1) := by decide +kernel
theorem dL_law_989 : decode code 989 = .ok (.iload_n 3, 1) := by decide +kernel
theorem dL_law_990 : decode code 990 = .ok (.iconst 2, 1) := by decide +kernel
theorem dL_law_991 : decode code 991 = .ok (.iadd, 1) := by decide +kernel
theorem dL_law_992 : decode code 992 = .ok (.iaload, 1) := by decide +kernel
theorem dL_law_993 : decode code 993 = .ok (.invokevirtual 112, 3) := by decide +kernel
theorem dL_law_996 : decode code 996 = .ok (.if_icmp .eq 1043, 3) := by decide +kernel
theorem dL_law_1001 : decode code 1001 = .ok (.aload_n 1, 1) := by decide +kernel
theorem dL_law_1002 : decode code 1002 = .ok (.aload_n 0, 1) := by decide +kernel
theorem dL_law_1003 : decode code 1003 = .ok (.iload_n 3, 1) := by decide +kernel
theorem dL_law_1004 : decode code 1004 = .ok (.iconst 1, 1) := by decide +kernel
theorem dL_law_1005 : decode code 1005 = .ok (.iadd, 1) := by decide +kernel
theorem dL_law_1006 : decode code 1006 = .ok (.iaload, 1) := by decide +kernel
theorem dL_law_1007 : decode code 1007 = .ok (.aload_n 0, 1) := by decide +kernel
theorem dL_law_1008 : decode code 1008 = .ok (.iload_n 3, 1) := by decide +kernel
theorem dL_law_1009 : decode code 1009 = .ok (.iconst 2, 1) := by decide +kernel
theorem dL_law_1010 : decode code 1010 = .ok (.iadd, 1) := by decide +kernel
theorem dL_law_1011 : decode code 1011 = .ok (.iaload, 1) := by decide +kernel
theorem dL_law_1012 : decode code 1012 = .ok (.invokevirtual 113, 3) := by decide +kernel
theorem dL_law_1015 : decode code 1015 = .ok (.aload_n 2, 1) := by decide +kernel
theorem dL_law_1016 : decode code 1016 = .ok (.aload_n 0, 1) := by decide +kernel
theorem dL_law_1017 : decode code 1017 = .ok (.iload_n 3, 1) := by decide +kernel
theorem dL_law_1018 : decode code 1018 = .ok (.iconst 1, 1) := by decide +kernel
theorem dL_law_1019 : decode code 1019 = .ok (.iadd, 1) := by decide +kernel
theorem dL_law_1020 : decode code 1020 = .ok (.iaload, 1) := by decide +kernel
theorem dL_law_1021 : decode code 1021 = .ok (.aload_n 0, 1) := by decide +kernel
theorem dL_law_1022 : decode code 1022 = .ok (.iload_n 3, 1) := by decide +kernel
theorem dL_law_1023 : decode code 1023 = .ok (.iconst 2, 1) := by decide +kernel
theorem dL_law_1024 : decode code 1024 = .ok (.iadd, 1) := by decide +kernel
theorem dL_law_1025 : decode code 1025 = .ok (.iaload, 1) := by decide +kernel
theorem dL_law_1026 : decode code 1026 = .ok (.invokevirtual 116, 3) := by decide +kernel
theorem dL_law_1029 : decode code 1029 = .ok (.if_icmp .eq 1010, 3) := by decide +kernel
theorem dL_law_1034 : decode code 1034 = .ok (.aload_n 1, 1) := by decide +kernel
theorem dL_law_1035 : decode code 1035 = .ok (.aload_n 0, 1) := by decide +kernel
theorem dL_law_1036 : decode code 1036 = .ok (.iload_n 3, 1) := by decide +kernel
theorem dL_law_1037 : decode code 1037 = .ok (.iconst 1, 1) := by decide +kernel
theorem dL_law_1038 : decode code 1038 = .ok (.iadd, 1) := by decide +kernel
theorem dL_law_1039 : decode code 1039 = .ok (.iaload, 1) := by decide +kernel
theorem dL_law_1040 : decode code 1040 = .ok (.aload_n 0, 1) := by decide +kernel
theorem dL_law_1041 : decode code 1041 = .ok (.iload_n 3, 1) := by decide +kernel
theorem dL_law_1042 : decode code 1042 = .ok (.iconst 2, 1) := by decide +kernel
theorem dL_law_1043 : decode code 1043 = .ok (.iadd, 1) := by decide +kernel
theorem dL_law_1044 : decode code 1044 = .ok (.iaload, 1) := by decide +kernel
theorem dL_law_1045 : decode code 1045 = .ok (.invokevirtual 117, 3) := by decide +kernel
theorem dL_law_1048 : decode code 1048 = .ok (.aload_n 2, 1) := by decide +kernel
theorem dL_law_1049 : decode code 1049 = .ok (.aload_n 0, 1) := by decide +kernel
theorem dL_law_1050 : decode code 1050 = .ok (.iload_n 3, 1) := by decide +kernel
theorem dL_law_1051 : decode code 1051 = .ok (.iconst 1, 1) := by decide +kernel
theorem dL_law_1052 : decode code 1052 = .ok (.iadd, 1) := by decide +kernel
theorem dL_law_1053 : decode code 1053 = .ok (.iaload, 1) := by decide +kernel
theorem dL_law_1054 : decode code 1054 = .ok (.aload_n 0, 1) := by decide +kernel
theorem dL_law_1055 : decode code 1055 = .ok (.iload_n 3, 1) := by decide +kernel
theorem dL_law_1056 : decode code 1056 = .ok (.iconst 2, 1) := by decide +kernel
theorem dL_law_1057 : decode code 1057 = .ok (.iadd, 1) := by decide +kernel
theorem dL_law_1058 : decode code 1058 = .ok (.iaload, 1) := by decide +kernel
theorem dL_law_1059 : decode code 1059 = .ok (.invokevirtual 121, 3) := by decide +kernel
theorem dL_law_1062 : decode code 1062 = .ok (.if_icmp .eq 977, 3) := by decide +kernel
theorem dL_law_1067 : decode code 1067 = .ok (.aload_n 1, 1) := by decide +kernel
theorem dL_law_1068 : decode code 1068 = .ok (.aload_n 0, 1) := by decide +kernel
theorem dL_law_1069 : decode code 1069 = .ok (.iload_n 3, 1) := by decide +kernel
theorem dL_law_1070 : decode code 1070 = .ok (.iconst 1, 1) := by decide +kernel
theorem dL_law_1071 : decode code 1071 = .ok (.iadd, 1) := by decide +kernel
theorem dL_law_1072 : decode code 1072 = .ok (.iaload, 1) := by decide +kernel
theorem dL_law_1073 : decode code 1073 = .ok (.aload_n 0, 1) := by decide +kernel
theorem dL_law_1074 : decode code 1074 = .ok (.iload_n 3, 1) := by decide +kernel
theorem dL_law_1075 : decode code 1075 = .ok (.iconst 2, 1) := by decide +kernel
theorem dL_law_1076 : decode code 1076 = .ok (.iadd, 1) := by decide +kernel
theorem dL_law_1077 : decode code 1077 = .ok (.iaload, 1) := by decide +kernel
theorem dL_law_1078 : decode code 1078 = .ok (.ifCond .eq 7, 3) := by decide +kernel
theorem dL_law_1081 : decode code 1081 = .ok (.iconst 1, 1) := by decide +kernel
theorem dL_law_1082 : decode code 1082 = .ok (.goto 4, 3) := by decide +kernel
theorem dL_law_1085 : decode code 1085 = .ok (.iconst 0, 1) := by decide +kernel
theorem dL_law_1086 : decode code 1086 = .ok (.invokevirtual 122, 3) := by decide +kernel
theorem dL_law_1089 : decode code 1089 = .ok (.aload_n 2, 1) := by decide +kernel
theorem dL_law_1090 : decode code 1090 = .ok (.aload_n 0, 1) := by decide +kernel
theorem dL_law_1091 : decode code 1091 = .ok (.iload_n 3, 1) := by decide +kernel
theorem dL_law_1092 : decode code 1092 = .ok (.iconst 1, 1) := by decide +kernel
theorem dL_law_1093 : decode code 1093 = .ok (.iadd, 1) := by decide +kernel
theorem dL_law_1094 : decode code 1094 = .ok (.iaload, 1) := by decide +kernel
theorem dL_law_1095 : decode code 1095 = .ok (.aload_n 0, 1) := by decide +kernel
theorem dL_law_1096 : decode code 1096 = .ok (.iload_n 3, 1) := by decide +kernel
theorem dL_law_1097 : decode code 1097 = .ok (.iconst 2, 1) := by decide +kernel
theorem dL_law_1098 : decode code 1098 = .ok (.iadd, 1) := by decide +kernel
theorem dL_law_1099 : decode code 1099 = .ok (.iaload, 1) := by decide +kernel
theorem dL_law_1100 : decode code 1100 = .ok (.ifCond .eq 7, 3) := by decide +kernel
theorem dL_law_1103 : decode code 1103 = .ok (.iconst 1, 1) := by decide +kernel
theorem dL_law_1104 : decode code 1104 = .ok (.goto 4, 3) := by decide +kernel
theorem dL_law_1107 : decode code 1107 = .ok (.iconst 0, 1) := by decide +kernel
theorem dL_law_1108 : decode code 1108 = .ok (.invokevirtual 126, 3) := by decide +kernel
theorem dL_law_1111 : decode code 1111 = .ok (.if_icmp .eq 928, 3) := by decide +kernel
theorem dL_law_1116 : decode code 1116 = .ok (.aload_n 1, 1) := by decide +kernel
theorem dL_law_1117 : decode code 1117 = .ok (.aload_n 0, 1) := by decide +kernel
theorem dL_law_1118 : decode code 1118 = .ok (.iload_n 3, 1) := by decide +kernel
theorem dL_law_1119 : decode code 1119 = .ok (.iconst 1, 1) := by decide +kernel
theorem dL_law_1120 : decode code 1120 = .ok (.iadd, 1) := by decide +kernel
theorem dL_law_1121 : decode code 1121 = .ok (.iaload, 1) := by decide +kernel
theorem dL_law_1122 : decode code 1122 = .ok (.aload_n 0, 1) := by decide +kernel
theorem dL_law_1123 : decode code 1123 = .ok (.iload_n 3, 1) := by decide +kernel
theorem dL_law_1124 : decode code 1124 = .ok (.iconst 2, 1) := by decide +kernel
theorem dL_law_1125 : decode code 1125 = .ok (.iadd, 1) := by decide +kernel
theorem dL_law_1126 : decode code 1126 = .ok (.iaload, 1) := by decide +kernel
theorem dL_law_1127 : decode code 1127 = .ok (.invokevirtual 127, 3) := by decide +kernel
theorem dL_law_1130 : decode code 1130 = .ok (.aload_n 2, 1) := by decide +kernel
theorem dL_law_1131 : decode code 1131 = .ok (.aload_n 0, 1) := by decide +kernel
theorem dL_law_1132 : decode code 1132 = .ok (.iload_n 3, 1) := by decide +kernel
theorem dL_law_1133 : decode code 1133 = .ok (.iconst 1, 1) := by decide +kernel
theorem dL_law_1134 : decode code 1134 = .ok (.iadd, 1) := by decide +kernel
theorem dL_law_1135 : decode code 1135 = .ok (.iaload, 1) := by decide +kernel
theorem dL_law_1136 : decode code 1136 = .ok (.aload_n 0, 1) := by decide +kernel
theorem dL_law_1137 : decode code 1137 = .ok (.iload_n 3, 1) := by decide +kernel
theorem dL_law_1138 : decode code 1138 = .ok (.iconst 2, 1) := by decide +kernel
theorem dL_law_1139 : decode code 1139 = .ok (.iadd, 1) := by decide +kernel
theorem dL_law_1140 : decode code 1140 = .ok (.iaload, 1) := by decide +kernel
theorem dL_law_1141 : decode code 1141 = .ok (.invokevirtual 130, 3) := by decide +kernel
theorem dL_law_1144 : decode code 1144 = .ok (.if_icmp .eq 895, 3) := by decide +kernel
theorem dL_law_1149 : decode code 1149 = .ok (.aload_n 1, 1) := by decide +kernel
theorem dL_law_1150 : decode code 1150 = .ok (.aload_n 0, 1) := by decide +kernel
theorem dL_law_1151 : decode code 1151 = .ok (.iload_n 3, 1) := by decide +kernel
theorem dL_law_1152 : decode code 1152 = .ok (.iconst 1, 1) := by decide +kernel
theorem dL_law_1153 : decode code 1153 = .ok (.iadd, 1) := by decide +kernel
theorem dL_law_1154 : decode code 1154 = .ok (.iaload, 1) := by decide +kernel
theorem dL_law_1155 : decode code 1155 = .ok (.aload_n 0, 1) := by decide +kernel
theorem dL_law_1156 : decode code 1156 = .ok (.iload_n 3, 1) := by decide +kernel
theorem dL_law_1157 : decode code 1157 = .ok (.iconst 2, 1) := by decide +kernel
theorem dL_law_1158 : decode code 1158 = .ok (.iadd, 1) := by decide +kernel
theorem dL_law_1159 : decode code 1159 = .ok (.iaload, 1) := by decide +kernel
theorem dL_law_1160 : decode code 1160 = .ok (.aload_n 0, 1) := by decide +kernel
theorem dL_law_1161 : decode code 1161 = .ok (.iload_n 3, 1) := by decide +kernel
theorem dL_law_1162 : decode code 1162 = .ok (.iconst 3, 1) := by decide +kernel
theorem dL_law_1163 : decode code 1163 = .ok (.iadd, 1) := by decide +kernel
theorem dL_law_1164 : decode code 1164 = .ok (.iaload, 1) := by decide +kernel
theorem dL_law_1165 : decode code 1165 = .ok (.invokevirtual 131, 3) := by decide +kernel
theorem dL_law_1168 : decode code 1168 = .ok (.aload_n 2, 1) := by decide +kernel
theorem dL_law_1169 : decode code 1169 = .ok (.aload_n 0, 1) := by decide +kernel
theorem dL_law_1170 : decode code 1170 = .ok (.iload_n 3, 1) := by decide +kernel
theorem dL_law_1171 : decode code 1171 = .ok (.iconst 1, 1) := by decide +kernel
theorem dL_law_1172 : decode code 1172 = .ok (.iadd, 1) := by decide +kernel
theorem dL_law_1173 : decode code 1173 = .ok (.iaload, 1) := by decide +kernel
theorem dL_law_1174 : decode code 1174 = .ok (.aload_n 0, 1) := by decide +kernel
theorem dL_law_1175 : decode code 1175 = .ok (.iload_n 3, 1) := by decide +kernel
theorem dL_law_1176 : decode code 1176 = .ok (.iconst 2, 1) := by decide +kernel
theorem dL_law_1177 : decode code 1177 = .ok (.iadd, 1) := by decide +kernel
theorem dL_law_1178 : decode code 1178 = .ok (.iaload, 1) := by decide +kernel
theorem dL_law_1179 : decode code 1179 = .ok (.aload_n 0, 1) := by decide +kernel
theorem dL_law_1180 : decode code 1180 = .ok (.iload_n 3, 1) := by decide +kernel
theorem dL_law_1181 : decode code 1181 = .ok (.iconst 3, 1) := by decide +kernel
theorem dL_law_1182 : decode code 1182 = .ok (.iadd, 1) := by decide +kernel
theorem dL_law_1183 : decode code 1183 = .ok (.iaload, 1) := by decide +kernel
theorem dL_law_1184 : decode code 1184 = .ok (.invokevirtual 134, 3) := by decide +kernel
theorem dL_law_1187 : decode code 1187 = .ok (.if_icmp .eq 852, 3) := by decide +kernel
theorem dL_law_1192 : decode code 1192 = .ok (.aload_n 1, 1) := by decide +kernel
theorem dL_law_1193 : decode code 1193 = .ok (.invokevirtual 135, 3) := by decide +kernel
theorem dL_law_1196 : decode code 1196 = .ok (.aload_n 2, 1) := by decide +kernel
theorem dL_law_1197 : decode code 1197 = .ok (.invokevirtual 138, 3) := by decide +kernel
theorem dL_law_1200 : decode code 1200 = .ok (.if_icmp .eq 839, 3) := by decide +kernel
theorem dL_law_1205 : decode code 1205 = .ok (.aload_n 1, 1) := by decide +kernel
theorem dL_law_1206 : decode code 1206 = .ok (.aload_n 0, 1) := by decide +kernel
theorem dL_law_1207 : decode code 1207 = .ok (.iload_n 3, 1) := by decide +kernel
theorem dL_law_1208 : decode code 1208 = .ok (.iconst 1, 1) := by decide +kernel
theorem dL_law_1209 : decode code 1209 = .ok (.iadd, 1) := by decide +kernel
theorem dL_law_1210 : decode code 1210 = .ok (.iaload, 1) := by decide +kernel
theorem dL_law_1211 : decode code 1211 = .ok (.aload_n 0, 1) := by decide +kernel
theorem dL_law_1212 : decode code 1212 = .ok (.iload_n 3, 1) := by decide +kernel
theorem dL_law_1213 : decode code 1213 = .ok (.iconst 2, 1) := by decide +kernel
theorem dL_law_1214 : decode code 1214 = .ok (.iadd, 1) := by decide +kernel
theorem dL_law_1215 : decode code 1215 = .ok (.iaload, 1) := by decide +kernel
theorem dL_law_1216 : decode code 1216 = .ok (.invokevirtual 139, 3) := by decide +kernel
theorem dL_law_1219 : decode code 1219 = .ok (.aload_n 2, 1) := by decide +kernel
theorem dL_law_1220 : decode code 1220 = .ok (.aload_n 0, 1) := by decide +kernel
theorem dL_law_1221 : decode code 1221 = .ok (.iload_n 3, 1) := by decide +kernel
theorem dL_law_1222 : decode code 1222 = .ok (.iconst 1, 1) := by decide +kernel
theorem dL_law_1223 : decode code 1223 = .ok (.iadd, 1) := by decide +kernel
theorem dL_law_1224 : decode code 1224 = .ok (.iaload, 1) := by decide +kernel
theorem dL_law_1225 : decode code 1225 = .ok (.aload_n 0, 1) := by decide +kernel
theorem dL_law_1226 : decode code 1226 = .ok (.iload_n 3, 1) := by decide +kernel
theorem dL_law_1227 : decode code 1227 = .ok (.iconst 2, 1) := by decide +kernel
theorem dL_law_1228 : decode code 1228 = .ok (.iadd, 1) := by decide +kernel
theorem dL_law_1229 : decode code 1229 = .ok (.iaload, 1) := by decide +kernel
theorem dL_law_1230 : decode code 1230 = .ok (.invokevirtual 142, 3) := by decide +kernel
theorem dL_law_1233 : decode code 1233 = .ok (.if_icmp .eq 806, 3) := by decide +kernel
theorem dL_law_1238 : decode code 1238 = .ok (.aload_n 1, 1) := by decide +kernel
theorem dL_law_1239 : decode code 1239 = .ok (.aload_n 0, 1) := by decide +kernel
theorem dL_law_1240 : decode code 1240 = .ok (.iload_n 3, 1) := by decide +kernel
theorem dL_law_1241 : decode code 1241 = .ok (.iconst 1, 1) := by decide +kernel
theorem dL_law_1242 : decode code 1242 = .ok (.iadd, 1) := by decide +kernel
theorem dL_law_1243 : decode code 1243 = .ok (.iaload, 1) := by decide +kernel
theorem dL_law_1244 : decode code 1244 = .ok (.aload_n 0, 1) := by decide +kernel
theorem dL_law_1245 : decode code 1245 = .ok (.iload_n 3, 1) := by decide +kernel
theorem dL_law_1246 : decode code 1246 = .ok (.iconst 2, 1) := by decide +kernel
theorem dL_law_1247 : decode code 1247 = .ok (.iadd, 1) := by decide +kernel
theorem dL_law_1248 : decode code 1248 = .ok (.iaload, 1) := by decide +kernel
theorem dL_law_1249 : decode code 1249 = .ok (.invokevirtual 143, 3) := by decide +kernel
theorem dL_law_1252 : decode code 1252 = .ok (.aload_n 2, 1) := by decide +kernel
theorem dL_law_1253 : decode code 1253 = .ok (.aload_n 0, 1) := by decide +kernel
theorem dL_law_1254 : decode code 1254 = .ok (.iload_n 3, 1) := by decide +kernel
theorem dL_law_1255 : decode code 1255 = .ok (.iconst 1, 1) := by decide +kernel
theorem dL_law_1256 : decode code 1256 = .ok (.iadd, 1) := by decide +kernel
theorem dL_law_1257 : decode code 1257 = .ok (.iaload, 1) := by decide +kernel
theorem dL_law_1258 : decode code 1258 = .ok (.aload_n 0, 1) := by decide +kernel
theorem dL_law_1259 : decode code 1259 = .ok (.iload_n 3, 1) := by decide +kernel
theorem dL_law_1260 : decode code 1260 = .ok (.iconst 2, 1) := by decide +kernel
theorem dL_law_1261 : decode code 1261 = .ok (.iadd, 1) := by decide +kernel
theorem dL_law_1262 : decode code 1262 = .ok (.iaload, 1) := by decide +kernel
theorem dL_law_1263 : decode code 1263 = .ok (.invokevirtual 146, 3) := by decide +kernel
theorem dL_law_1266 : decode code 1266 = .ok (.if_icmp .eq 773, 3) := by decide +kernel
theorem dL_law_1271 : decode code 1271 = .ok (.aload_n 1, 1) := by decide +kernel
theorem dL_law_1272 : decode code 1272 = .ok (.aload_n 0, 1) := by decide +kernel
theorem dL_law_1273 : decode code 1273 = .ok (.iload_n 3, 1) := by decide +kernel
theorem dL_law_1274 : decode code 1274 = .ok (.iconst 1, 1) := by decide +kernel
theorem dL_law_1275 : decode code 1275 = .ok (.iadd, 1) := by decide +kernel
theorem dL_law_1276 : decode code 1276 = .ok (.iaload, 1) := by decide +kernel
theorem dL_law_1277 : decode code 1277 = .ok (.invokevirtual 147, 3) := by decide +kernel
theorem dL_law_1280 : decode code 1280 = .ok (.aload_n 2, 1) := by decide +kernel
theorem dL_law_1281 : decode code 1281 = .ok (.aload_n 0, 1) := by decide +kernel
theorem dL_law_1282 : decode code 1282 = .ok (.iload_n 3, 1) := by decide +kernel
theorem dL_law_1283 : decode code 1283 = .ok (.iconst 1, 1) := by decide +kernel
theorem dL_law_1284 : decode code 1284 = .ok (.iadd, 1) := by decide +kernel
theorem dL_law_1285 : decode code 1285 = .ok (.iaload, 1) := by decide +kernel
theorem dL_law_1286 : decode code 1286 = .ok (.invokevirtual 150, 3) := by decide +kernel
theorem dL_law_1289 : decode code 1289 = .ok (.if_icmp .eq 750, 3) := by decide +kernel
theorem dL_law_1294 : decode code 1294 = .ok (.aload_n 1, 1) := by decide +kernel
theorem dL_law_1295 : decode code 1295 = .ok (.aload_n 0, 1) := by decide +kernel
theorem dL_law_1296 : decode code 1296 = .ok (.iload_n 3, 1) := by decide +kernel
theorem dL_law_1297 : decode code 1297 = .ok (.iconst 1, 1) := by decide +kernel
theorem dL_law_1298 : decode code 1298 = .ok (.iadd, 1) := by decide +kernel
theorem dL_law_1299 : decode code 1299 = .ok (.iaload, 1) := by decide +kernel
theorem dL_law_1300 : decode code 1300 = .ok (.aload_n 0, 1) := by decide +kernel
theorem dL_law_1301 : decode code 1301 = .ok (.iload_n 3, 1) := by decide +kernel
theorem dL_law_1302 : decode code 1302 = .ok (.iconst 2, 1) := by decide +kernel
theorem dL_law_1303 : decode code 1303 = .ok (.iadd, 1) := by decide +kernel
theorem dL_law_1304 : decode code 1304 = .ok (.iaload, 1) := by decide +kernel
theorem dL_law_1305 : decode code 1305 = .ok (.invokevirtual 151, 3) := by decide +kernel
theorem dL_law_1308 : decode code 1308 = .ok (.aload_n 2, 1) := by decide +kernel
theorem dL_law_1309 : decode code 1309 = .ok (.aload_n 0, 1) := by decide +kernel
theorem dL_law_1310 : decode code 1310 = .ok (.iload_n 3, 1) := by decide +kernel
theorem dL_law_1311 : decode code 1311 = .ok (.iconst 1, 1) := by decide +kernel
theorem dL_law_1312 : decode code 1312 = .ok (.iadd, 1) := by decide +kernel
theorem dL_law_1313 : decode code 1313 = .ok (.iaload, 1) := by decide +kernel
theorem dL_law_1314 : decode code 1314 = .ok (.aload_n 0, 1) := by decide +kernel
theorem dL_law_1315 : decode code 1315 = .ok (.iload_n 3, 1) := by decide +kernel
theorem dL_law_1316 : decode code 1316 = .ok (.iconst 2, 1) := by decide +kernel
theorem dL_law_1317 : decode code 1317 = .ok (.iadd, 1) := by decide +kernel
theorem dL_law_1318 : decode code 1318 = .ok (.iaload, 1) := by decide +kernel
theorem dL_law_1319 : decode code 1319 = .ok (.invokevirtual 154, 3) := by decide +kernel
theorem dL_law_1322 : decode code 1322 = .ok (.if_icmp .eq 717, 3) := by decide +kernel
theorem dL_law_1327 : decode code 1327 = .ok (.aload_n 1, 1) := by decide +kernel
theorem dL_law_1328 : decode code 1328 = .ok (.aload_n 0, 1) := by decide +kernel
theorem dL_law_1329 : decode code 1329 = .ok (.iload_n 3, 1) := by decide +kernel
theorem dL_law_1330 : decode code 1330 = .ok (.iconst 1, 1) := by decide +kernel
theorem dL_law_1331 : decode code 1331 = .ok (.iadd, 1) := by decide +kernel
theorem dL_law_1332 : decode code 1332 = .ok (.iaload, 1) := by decide +kernel
theorem dL_law_1333 : decode code 1333 = .ok (.invokevirtual 155, 3) := by decide +kernel
theorem dL_law_1336 : decode code 1336 = .ok (.aload_n 2, 1) := by decide +kernel
theorem dL_law_1337 : decode code 1337 = .ok (.aload_n 0, 1) := by decide +kernel
theorem dL_law_1338 : decode code 1338 = .ok (.iload_n 3, 1) := by decide +kernel
theorem dL_law_1339 : decode code 1339 = .ok (.iconst 1, 1) := by decide +kernel
theorem dL_law_1340 : decode code 1340 = .ok (.iadd, 1) := by decide +kernel
theorem dL_law_1341 : decode code 1341 = .ok (.iaload, 1) := by decide +kernel
theorem dL_law_1342 : decode code 1342 = .ok (.invokevirtual 158, 3) := by decide +kernel
theorem dL_law_1345 : decode code 1345 = .ok (.if_icmp .eq 694, 3) := by decide +kernel
theorem dL_law_1350 : decode code 1350 = .ok (.aload_n 1, 1) := by decide +kernel
theorem dL_law_1351 : decode code 1351 = .ok (.aload_n 0, 1) := by decide +kernel
theorem dL_law_1352 : decode code 1352 = .ok (.iload_n 3, 1) := by decide +kernel
theorem dL_law_1353 : decode code 1353 = .ok (.iconst 1, 1) := by decide +kernel
theorem dL_law_1354 : decode code 1354 = .ok (.iadd, 1) := by decide +kernel
theorem dL_law_1355 : decode code 1355 = .ok (.iaload, 1) := by decide +kernel
theorem dL_law_1356 : decode code 1356 = .ok (.invokevirtual 159, 3) := by decide +kernel
theorem dL_law_1359 : decode code 1359 = .ok (.aload_n 2, 1) := by decide +kernel
theorem dL_law_1360 : decode code 1360 = .ok (.aload_n 0, 1) := by decide +kernel
theorem dL_law_1361 : decode code 1361 = .ok (.iload_n 3, 1) := by decide +kernel
theorem dL_law_1362 : decode code 1362 = .ok (.iconst 1, 1) := by decide +kernel
theorem dL_law_1363 : decode code 1363 = .ok (.iadd, 1) := by decide +kernel
theorem dL_law_1364 : decode code 1364 = .ok (.iaload, 1) := by decide +kernel
theorem dL_law_1365 : decode code 1365 = .ok (.invokevirtual 162, 3) := by decide +kernel
theorem dL_law_1368 : decode code 1368 = .ok (.if_icmp .eq 671, 3) := by decide +kernel
theorem dL_law_1373 : decode code 1373 = .ok (.aload_n 1, 1) := by decide +kernel
theorem dL_law_1374 : decode code 1374 = .ok (.aload_n 0, 1) := by decide +kernel
theorem dL_law_1375 : decode code 1375 = .ok (.iload_n 3, 1) := by decide +kernel
theorem dL_law_1376 : decode code 1376 = .ok (.iconst 1, 1) := by decide +kernel
theorem dL_law_1377 : decode code 1377 = .ok (.iadd, 1) := by decide +kernel
theorem dL_law_1378 : decode code 1378 = .ok (.iaload, 1) := by decide +kernel
theorem dL_law_1379 : decode code 1379 = .ok (.aload_n 0, 1) := by decide +kernel
theorem dL_law_1380 : decode code 1380 = .ok (.iload_n 3, 1) := by decide +kernel
theorem dL_law_1381 : decode code 1381 = .ok (.iconst 2, 1) := by decide +kernel
theorem dL_law_1382 : decode code 1382 = .ok (.iadd, 1) := by decide +kernel
theorem dL_law_1383 : decode code 1383 = .ok (.iaload, 1) := by decide +kernel
theorem dL_law_1384 : decode code 1384 = .ok (.invokevirtual 163, 3) := by decide +kernel
theorem dL_law_1387 : decode code 1387 = .ok (.aload_n 2, 1) := by decide +kernel
theorem dL_law_1388 : decode code 1388 = .ok (.aload_n 0, 1) := by decide +kernel
theorem dL_law_1389 : decode code 1389 = .ok (.iload_n 3, 1) := by decide +kernel
theorem dL_law_1390 : decode code 1390 = .ok (.iconst 1, 1) := by decide +kernel
theorem dL_law_1391 : decode code 1391 = .ok (.iadd, 1) := by decide +kernel
theorem dL_law_1392 : decode code 1392 = .ok (.iaload, 1) := by decide +kernel
theorem dL_law_1393 : decode code 1393 = .ok (.aload_n 0, 1) := by decide +kernel
theorem dL_law_1394 : decode code 1394 = .ok (.iload_n 3, 1) := by decide +kernel
theorem dL_law_1395 : decode code 1395 = .ok (.iconst 2, 1) := by decide +kernel
theorem dL_law_1396 : decode code 1396 = .ok (.iadd, 1) := by decide +kernel
theorem dL_law_1397 : decode code 1397 = .ok (.iaload, 1) := by decide +kernel
theorem dL_law_1398 : decode code 1398 = .ok (.invokevirtual 166, 3) := by decide +kernel
theorem dL_law_1401 : decode code 1401 = .ok (.if_icmp .eq 638, 3) := by decide +kernel
theorem dL_law_1406 : decode code 1406 = .ok (.aload_n 1, 1) := by decide +kernel
theorem dL_law_1407 : decode code 1407 = .ok (.aload_n 0, 1) := by decide +kernel
theorem dL_law_1408 : decode code 1408 = .ok (.iload_n 3, 1) := by decide +kernel
theorem dL_law_1409 : decode code 1409 = .ok (.iconst 1, 1) := by decide +kernel
theorem dL_law_1410 : decode code 1410 = .ok (.iadd, 1) := by decide +kernel
theorem dL_law_1411 : decode code 1411 = .ok (.iaload, 1) := by decide +kernel
theorem dL_law_1412 : decode code 1412 = .ok (.aload_n 0, 1) := by decide +kernel
theorem dL_law_1413 : decode code 1413 = .ok (.iload_n 3, 1) := by decide +kernel
theorem dL_law_1414 : decode code 1414 = .ok (.iconst 2, 1) := by decide +kernel
theorem dL_law_1415 : decode code 1415 = .ok (.iadd, 1) := by decide +kernel
theorem dL_law_1416 : decode code 1416 = .ok (.iaload, 1) := by decide +kernel
theorem dL_law_1417 : decode code 1417 = .ok (.invokevirtual 167, 3) := by decide +kernel
theorem dL_law_1420 : decode code 1420 = .ok (.aload_n 2, 1) := by decide +kernel
theorem dL_law_1421 : decode code 1421 = .ok (.aload_n 0, 1) := by decide +kernel
theorem dL_law_1422 : decode code 1422 = .ok (.iload_n 3, 1) := by decide +kernel
theorem dL_law_1423 : decode code 1423 = .ok (.iconst 1, 1) := by decide +kernel
theorem dL_law_1424 : decode code 1424 = .ok (.iadd, 1) := by decide +kernel
theorem dL_law_1425 : decode code 1425 = .ok (.iaload, 1) := by decide +kernel
theorem dL_law_1426 : decode code 1426 = .ok (.aload_n 0, 1) := by decide +kernel
theorem dL_law_1427 : decode code 1427 = .ok (.iload_n 3, 1) := by decide +kernel
theorem dL_law_1428 : decode code 1428 = .ok (.iconst 2, 1) := by decide +kernel
theorem dL_law_1429 : decode code 1429 = .ok (.iadd, 1) := by decide +kernel
theorem dL_law_1430 : decode code 1430 = .ok (.iaload, 1) := by decide +kernel
theorem dL_law_1431 : decode code 1431 = .ok (.invokevirtual 170, 3) := by decide +kernel
theorem dL_law_1434 : decode code 1434 = .ok (.if_icmp .eq 605, 3) := by decide +kernel
theorem dL_law_1439 : decode code 1439 = .ok (.aload_n 1, 1) := by decide +kernel
theorem dL_law_1440 : decode code 1440 = .ok (.aload_n 0, 1) := by decide +kernel
theorem dL_law_1441 : decode code 1441 = .ok (.iload_n 3, 1) := by decide +kernel
theorem dL_law_1442 : decode code 1442 = .ok (.iconst 1, 1) := by decide +kernel
theorem dL_law_1443 : decode code 1443 = .ok (.iadd, 1) := by decide +kernel
theorem dL_law_1444 : decode code 1444 = .ok (.iaload, 1) := by decide +kernel
theorem dL_law_1445 : decode code 1445 = .ok (.aload_n 0, 1) := by decide +kernel
theorem dL_law_1446 : decode code 1446 = .ok (.iload_n 3, 1) := by decide +kernel
theorem dL_law_1447 : decode code 1447 = .ok (.iconst 2, 1) := by decide +kernel
theorem dL_law_1448 : decode code 1448 = .ok (.iadd, 1) := by decide +kernel
theorem dL_law_1449 : decode code 1449 = .ok (.iaload, 1) := by decide +kernel
theorem dL_law_1450 : decode code 1450 = .ok (.invokevirtual 171, 3) := by decide +kernel
theorem dL_law_1453 : decode code 1453 = .ok (.aload_n 2, 1) := by decide +kernel
theorem dL_law_1454 : decode code 1454 = .ok (.aload_n 0, 1) := by decide +kernel
theorem dL_law_1455 : decode code 1455 = .ok (.iload_n 3, 1) := by decide +kernel
theorem dL_law_1456 : decode code 1456 = .ok (.iconst 1, 1) := by decide +kernel
theorem dL_law_1457 : decode code 1457 = .ok (.iadd, 1) := by decide +kernel
theorem dL_law_1458 : decode code 1458 = .ok (.iaload, 1) := by decide +kernel
theorem dL_law_1459 : decode code 1459 = .ok (.aload_n 0, 1) := by decide +kernel
theorem dL_law_1460 : decode code 1460 = .ok (.iload_n 3, 1) := by decide +kernel
theorem dL_law_1461 : decode code 1461 = .ok (.iconst 2, 1) := by decide +kernel
theorem dL_law_1462 : decode code 1462 = .ok (.iadd, 1) := by decide +kernel
theorem dL_law_1463 : decode code 1463 = .ok (.iaload, 1) := by decide +kernel
theorem dL_law_1464 : decode code 1464 = .ok (.invokevirtual 174, 3) := by decide +kernel
theorem dL_law_1467 : decode code 1467 = .ok (.if_icmp .eq 572, 3) := by decide +kernel
theorem dL_law_1472 : decode code 1472 = .ok (.aload_n 1, 1) := by decide +kernel
theorem dL_law_1473 : decode code 1473 = .ok (.aload_n 0, 1) := by decide +kernel
theorem dL_law_1474 : decode code 1474 = .ok (.iload_n 3, 1) := by decide +kernel
theorem dL_law_1475 : decode code 1475 = .ok (.iconst 1, 1) := by decide +kernel
theorem dL_law_1476 : decode code 1476 = .ok (.iadd, 1) := by decide +kernel
theorem dL_law_1477 : decode code 1477 = .ok (.iaload, 1) := by decide +kernel
theorem dL_law_1478 : decode code 1478 = .ok (.aload_n 0, 1) := by decide +kernel
theorem dL_law_1479 : decode code 1479 = .ok (.iload_n 3, 1) := by decide +kernel
theorem dL_law_1480 : decode code 1480 = .ok (.iconst 2, 1) := by decide +kernel
theorem dL_law_1481 : decode code 1481 = .ok (.iadd, 1) := by decide +kernel
theorem dL_law_1482 : decode code 1482 = .ok (.iaload, 1) := by decide +kernel
theorem dL_law_1483 : decode code 1483 = .ok (.invokevirtual 175, 3) := by decide +kernel
theorem dL_law_1486 : decode code 1486 = .ok (.aload_n 2, 1) := by decide +kernel
theorem dL_law_1487 : decode code 1487 = .ok (.aload_n 0, 1) := by decide +kernel
theorem dL_law_1488 : decode code 1488 = .ok (.iload_n 3, 1) := by decide +kernel
theorem dL_law_1489 : decode code 1489 = .ok (.iconst 1, 1) := by decide +kernel
theorem dL_law_1490 : decode code 1490 = .ok (.iadd, 1) := by decide +kernel
theorem dL_law_1491 : decode code 1491 = .ok (.iaload, 1) := by decide +kernel
theorem dL_law_1492 : decode code 1492 = .ok (.aload_n 0, 1) := by decide +kernel
theorem dL_law_1493 : decode code 1493 = .ok (.iload_n 3, 1) := by decide +kernel
theorem dL_law_1494 : decode code 1494 = .ok (.iconst 2, 1) := by decide +kernel
theorem dL_law_1495 : decode code 1495 = .ok (.iadd, 1) := by decide +kernel
theorem dL_law_1496 : decode code 1496 = .ok (.iaload, 1) := by decide +kernel
theorem dL_law_1497 : decode code 1497 = .ok (.invokevirtual 178, 3) := by decide +kernel
theorem dL_law_1500 : decode code 1500 = .ok (.if_icmp .eq 539, 3) := by decide +kernel
theorem dL_law_1505 : decode code 1505 = .ok (.aload_n 1, 1) := by decide +kernel
theorem dL_law_1506 : decode code 1506 = .ok (.aload_n 0, 1) := by decide +kernel
theorem dL_law_1507 : decode code 1507 = .ok (.iload_n 3, 1) := by decide +kernel
theorem dL_law_1508 : decode code 1508 = .ok (.iconst 1, 1) := by decide +kernel
theorem dL_law_1509 : decode code 1509 = .ok (.iadd, 1) := by decide +kernel
theorem dL_law_1510 : decode code 1510 = .ok (.iaload, 1) := by decide +kernel
theorem dL_law_1511 : decode code 1511 = .ok (.aload_n 0, 1) := by decide +kernel
theorem dL_law_1512 : decode code 1512 = .ok (.iload_n 3, 1) := by decide +kernel
theorem dL_law_1513 : decode code 1513 = .ok (.iconst 2, 1) := by decide +kernel
theorem dL_law_1514 : decode code 1514 = .ok (.iadd, 1) := by decide +kernel
theorem dL_law_1515 : decode code 1515 = .ok (.iaload, 1) := by decide +kernel
theorem dL_law_1516 : decode code 1516 = .ok (.invokevirtual 179, 3) := by decide +kernel
theorem dL_law_1519 : decode code 1519 = .ok (.aload_n 2, 1) := by decide +kernel
theorem dL_law_1520 : decode code 1520 = .ok (.aload_n 0, 1) := by decide +kernel
theorem dL_law_1521 : decode code 1521 = .ok (.iload_n 3, 1) := by decide +kernel
theorem dL_law_1522 : decode code 1522 = .ok (.iconst 1, 1) := by decide +kernel
theorem dL_law_1523 : decode code 1523 = .ok (.iadd, 1) := by decide +kernel
theorem dL_law_1524 : decode code 1524 = .ok (.iaload, 1) := by decide +kernel
theorem dL_law_1525 : decode code 1525 = .ok (.aload_n 0, 1) := by decide +kernel
theorem dL_law_1526 : decode code 1526 = .ok (.iload_n 3, 1) := by decide +kernel
theorem dL_law_1527 : decode code 1527 = .ok (.iconst 2, 1) := by decide +kernel
theorem dL_law_1528 : decode code 1528 = .ok (.iadd, 1) := by decide +kernel
theorem dL_law_1529 : decode code 1529 = .ok (.iaload, 1) := by decide +kernel
theorem dL_law_1530 : decode code 1530 = .ok (.invokevirtual 182, 3) := by decide +kernel
theorem dL_law_1533 : decode code 1533 = .ok (.if_icmp .eq 506, 3) := by decide +kernel
theorem dL_law_1538 : decode code 1538 = .ok (.aload_n 1, 1) := by decide +kernel
theorem dL_law_1539 : decode code 1539 = .ok (.aload_n 0, 1) := by decide +kernel
theorem dL_law_1540 : decode code 1540 = .ok (.iload_n 3, 1) := by decide +kernel
theorem dL_law_1541 : decode code 1541 = .ok (.iconst 1, 1) := by decide +kernel
theorem dL_law_1542 : decode code 1542 = .ok (.iadd, 1) := by decide +kernel
theorem dL_law_1543 : decode code 1543 = .ok (.iaload, 1) := by decide +kernel
theorem dL_law_1544 : decode code 1544 = .ok (.aload_n 0, 1) := by decide +kernel
theorem dL_law_1545 : decode code 1545 = .ok (.iload_n 3, 1) := by decide +kernel
theorem dL_law_1546 : decode code 1546 = .ok (.iconst 2, 1) := by decide +kernel
theorem dL_law_1547 : decode code 1547 = .ok (.iadd, 1) := by decide +kernel
theorem dL_law_1548 : decode code 1548 = .ok (.iaload, 1) := by decide +kernel
theorem dL_law_1549 : decode code 1549 = .ok (.invokevirtual 183, 3) := by decide +kernel
theorem dL_law_1552 : decode code 1552 = .ok (.aload_n 2, 1) := by decide +kernel
theorem dL_law_1553 : decode code 1553 = .ok (.aload_n 0, 1) := by decide +kernel
theorem dL_law_1554 : decode code 1554 = .ok (.iload_n 3, 1) := by decide +kernel
theorem dL_law_1555 : decode code 1555 = .ok (.iconst 1, 1) := by decide +kernel
theorem dL_law_1556 : decode code 1556 = .ok (.iadd, 1) := by decide +kernel
theorem dL_law_1557 : decode code 1557 = .ok (.iaload, 1) := by decide +kernel
theorem dL_law_1558 : decode code 1558 = .ok (.aload_n 0, 1) := by decide +kernel
theorem dL_law_1559 : decode code 1559 = .ok (.iload_n 3, 1) := by decide +kernel
theorem dL_law_1560 : decode code 1560 = .ok (.iconst 2, 1) := by decide +kernel
theorem dL_law_1561 : decode code 1561 = .ok (.iadd, 1) := by decide +kernel
theorem dL_law_1562 : decode code 1562 = .ok (.iaload, 1) := by decide +kernel
theorem dL_law_1563 : decode code 1563 = .ok (.invokevirtual 186, 3) := by decide +kernel
theorem dL_law_1566 : decode code 1566 = .ok (.if_icmp .eq 473, 3) := by decide +kernel
theorem dL_law_1571 : decode code 1571 = .ok (.aload_n 1, 1) := by decide +kernel
theorem dL_law_1572 : decode code 1572 = .ok (.aload_n 0, 1) := by decide +kernel
theorem dL_law_1573 : decode code 1573 = .ok (.iload_n 3, 1) := by decide +kernel
theorem dL_law_1574 : decode code 1574 = .ok (.iconst 1, 1) := by decide +kernel
theorem dL_law_1575 : decode code 1575 = .ok (.iadd, 1) := by decide +kernel
theorem dL_law_1576 : decode code 1576 = .ok (.iaload, 1) := by decide +kernel
theorem dL_law_1577 : decode code 1577 = .ok (.aload_n 0, 1) := by decide +kernel
theorem dL_law_1578 : decode code 1578 = .ok (.iload_n 3, 1) := by decide +kernel
theorem dL_law_1579 : decode code 1579 = .ok (.iconst 2, 1) := by decide +kernel
theorem dL_law_1580 : decode code 1580 = .ok (.iadd, 1) := by decide +kernel
theorem dL_law_1581 : decode code 1581 = .ok (.iaload, 1) := by decide +kernel
theorem dL_law_1582 : decode code 1582 = .ok (.invokevirtual 187, 3) := by decide +kernel
theorem dL_law_1585 : decode code 1585 = .ok (.aload_n 2, 1) := by decide +kernel
theorem dL_law_1586 : decode code 1586 = .ok (.aload_n 0, 1) := by decide +kernel
theorem dL_law_1587 : decode code 1587 = .ok (.iload_n 3, 1) := by decide +kernel
theorem dL_law_1588 : decode code 1588 = .ok (.iconst 1, 1) := by decide +kernel
theorem dL_law_1589 : decode code 1589 = .ok (.iadd, 1) := by decide +kernel
theorem dL_law_1590 : decode code 1590 = .ok (.iaload, 1) := by decide +kernel
theorem dL_law_1591 : decode code 1591 = .ok (.aload_n 0, 1) := by decide +kernel
theorem dL_law_1592 : decode code 1592 = .ok (.iload_n 3, 1) := by decide +kernel
theorem dL_law_1593 : decode code 1593 = .ok (.iconst 2, 1) := by decide +kernel
theorem dL_law_1594 : decode code 1594 = .ok (.iadd, 1) := by decide +kernel
theorem dL_law_1595 : decode code 1595 = .ok (.iaload, 1) := by decide +kernel
theorem dL_law_1596 : decode code 1596 = .ok (.invokevirtual 190, 3) := by decide +kernel
theorem dL_law_1599 : decode code 1599 = .ok (.if_icmp .eq 440, 3) := by decide +kernel
theorem dL_law_1604 : decode code 1604 = .ok (.aload_n 1, 1) := by decide +kernel
theorem dL_law_1605 : decode code 1605 = .ok (.aload_n 0, 1) := by decide +kernel
theorem dL_law_1606 : decode code 1606 = .ok (.iload_n 3, 1) := by decide +kernel
theorem dL_law_1607 : decode code 1607 = .ok (.iconst 1, 1) := by decide +kernel
theorem dL_law_1608 : decode code 1608 = .ok (.iadd, 1) := by decide +kernel
theorem dL_law_1609 : decode code 1609 = .ok (.iaload, 1) := by decide +kernel
theorem dL_law_1610 : decode code 1610 = .ok (.invokevirtual 191, 3) := by decide +kernel
theorem dL_law_1613 : decode code 1613 = .ok (.aload_n 2, 1) := by decide +kernel
theorem dL_law_1614 : decode code 1614 = .ok (.aload_n 0, 1) := by decide +kernel
theorem dL_law_1615 : decode code 1615 = .ok (.iload_n 3, 1) := by decide +kernel
theorem dL_law_1616 : decode code 1616 = .ok (.iconst 1, 1) := by decide +kernel
theorem dL_law_1617 : decode code 1617 = .ok (.iadd, 1) := by decide +kernel
theorem dL_law_1618 : decode code 1618 = .ok (.iaload, 1) := by decide +kernel
theorem dL_law_1619 : decode code 1619 = .ok (.invokevirtual 194, 3) := by decide +kernel
theorem dL_law_1622 : decode code 1622 = .ok (.if_icmp .eq 417, 3) := by decide +kernel
theorem dL_law_1627 : decode code 1627 = .ok (.aload_n 1, 1) := by decide +kernel
theorem dL_law_1628 : decode code 1628 = .ok (.invokevirtual 195, 3) := by decide +kernel
theorem dL_law_1631 : decode code 1631 = .ok (.aload_n 2, 1) := by decide +kernel
theorem dL_law_1632 : decode code 1632 = .ok (.invokevirtual 198, 3) := by decide +kernel
theorem dL_law_1635 : decode code 1635 = .ok (.if_icmp .eq 404, 3) := by decide +kernel
theorem dL_law_1640 : decode code 1640 = .ok (.aload_n 1, 1) := by decide +kernel
theorem dL_law_1641 : decode code 1641 = .ok (.aload_n 0, 1) := by decide +kernel
theorem dL_law_1642 : decode code 1642 = .ok (.iload_n 3, 1) := by decide +kernel
theorem dL_law_1643 : decode code 1643 = .ok (.iconst 1, 1) := by decide +kernel
theorem dL_law_1644 : decode code 1644 = .ok (.iadd, 1) := by decide +kernel
theorem dL_law_1645 : decode code 1645 = .ok (.iaload, 1) := by decide +kernel
theorem dL_law_1646 : decode code 1646 = .ok (.aload_n 0, 1) := by decide +kernel
theorem dL_law_1647 : decode code 1647 = .ok (.iload_n 3, 1) := by decide +kernel
theorem dL_law_1648 : decode code 1648 = .ok (.iconst 2, 1) := by decide +kernel
theorem dL_law_1649 : decode code 1649 = .ok (.iadd, 1) := by decide +kernel
theorem dL_law_1650 : decode code 1650 = .ok (.iaload, 1) := by decide +kernel
theorem dL_law_1651 : decode code 1651 = .ok (.aload_n 0, 1) := by decide +kernel
theorem dL_law_1652 : decode code 1652 = .ok (.iload_n 3, 1) := by decide +kernel
theorem dL_law_1653 : decode code 1653 = .ok (.iconst 3, 1) := by decide +kernel
theorem dL_law_1654 : decode code 1654 = .ok (.iadd, 1) := by decide +kernel
theorem dL_law_1655 : decode code 1655 = .ok (.iaload, 1) := by decide +kernel
theorem dL_law_1656 : decode code 1656 = .ok (.invokevirtual 199, 3) := by decide +kernel
theorem dL_law_1659 : decode code 1659 = .ok (.aload_n 2, 1) := by decide +kernel
theorem dL_law_1660 : decode code 1660 = .ok (.aload_n 0, 1) := by decide +kernel
theorem dL_law_1661 : decode code 1661 = .ok (.iload_n 3, 1) := by decide +kernel
theorem dL_law_1662 : decode code 1662 = .ok (.iconst 1, 1) := by decide +kernel
theorem dL_law_1663 : decode code 1663 = .ok (.iadd, 1) := by decide +kernel
theorem dL_law_1664 : decode code 1664 = .ok (.iaload, 1) := by decide +kernel
theorem dL_law_1665 : decode code 1665 = .ok (.aload_n 0, 1) := by decide +kernel
theorem dL_law_1666 : decode code 1666 = .ok (.iload_n 3, 1) := by decide +kernel
theorem dL_law_1667 : decode code 1667 = .ok (.iconst 2, 1) := by decide +kernel
theorem dL_law_1668 : decode code 1668 = .ok (.iadd, 1) := by decide +kernel
theorem dL_law_1669 : decode code 1669 = .ok (.iaload, 1) := by decide +kernel
theorem dL_law_1670 : decode code 1670 = .ok (.aload_n 0, 1) := by decide +kernel
theorem dL_law_1671 : decode code 1671 = .ok (.iload_n 3, 1) := by decide +kernel
theorem dL_law_1672 : decode code 1672 = .ok (.iconst 3, 1) := by decide +kernel
theorem dL_law_1673 : decode code 1673 = .ok (.iadd, 1) := by decide +kernel
theorem dL_law_1674 : decode code 1674 = .ok (.iaload, 1) := by decide +kernel
theorem dL_law_1675 : decode code 1675 = .ok (.invokevirtual 202, 3) := by decide +kernel
theorem dL_law_1678 : decode code 1678 = .ok (.if_icmp .eq 361, 3) := by decide +kernel
theorem dL_law_1683 : decode code 1683 = .ok (.aload_n 1, 1) := by decide +kernel
theorem dL_law_1684 : decode code 1684 = .ok (.aload_n 0, 1) := by decide +kernel
theorem dL_law_1685 : decode code 1685 = .ok (.iload_n 3, 1) := by decide +kernel
theorem dL_law_1686 : decode code 1686 = .ok (.iconst 1, 1) := by decide +kernel
theorem dL_law_1687 : decode code 1687 = .ok (.iadd, 1) := by decide +kernel
theorem dL_law_1688 : decode code 1688 = .ok (.iaload, 1) := by decide +kernel
theorem dL_law_1689 : decode code 1689 = .ok (.aload_n 0, 1) := by decide +kernel
theorem dL_law_1690 : decode code 1690 = .ok (.iload_n 3, 1) := by decide +kernel
theorem dL_law_1691 : decode code 1691 = .ok (.iconst 2, 1) := by decide +kernel
theorem dL_law_1692 : decode code 1692 = .ok (.iadd, 1) := by decide +kernel
theorem dL_law_1693 : decode code 1693 = .ok (.iaload, 1) := by decide +kernel
theorem dL_law_1694 : decode code 1694 = .ok (.aload_n 0, 1) := by decide +kernel
theorem dL_law_1695 : decode code 1695 = .ok (.iload_n 3, 1) := by decide +kernel
theorem dL_law_1696 : decode code 1696 = .ok (.iconst 3, 1) := by decide +kernel
theorem dL_law_1697 : decode code 1697 = .ok (.iadd, 1) := by decide +kernel
theorem dL_law_1698 : decode code 1698 = .ok (.iaload, 1) := by decide +kernel
theorem dL_law_1699 : decode code 1699 = .ok (.aload_n 0, 1) := by decide +kernel
theorem dL_law_1700 : decode code 1700 = .ok (.iload_n 3, 1) := by decide +kernel
theorem dL_law_1701 : decode code 1701 = .ok (.iconst 4, 1) := by decide +kernel
theorem dL_law_1702 : decode code 1702 = .ok (.iadd, 1) := by decide +kernel
theorem dL_law_1703 : decode code 1703 = .ok (.iaload, 1) := by decide +kernel
theorem dL_law_1704 : decode code 1704 = .ok (.invokevirtual 203, 3) := by decide +kernel
theorem dL_law_1707 : decode code 1707 = .ok (.aload_n 2, 1) := by decide +kernel
theorem dL_law_1708 : decode code 1708 = .ok (.aload_n 0, 1) := by decide +kernel
theorem dL_law_1709 : decode code 1709 = .ok (.iload_n 3, 1) := by decide +kernel
theorem dL_law_1710 : decode code 1710 = .ok (.iconst 1, 1) := by decide +kernel
theorem dL_law_1711 : decode code 1711 = .ok (.iadd, 1) := by decide +kernel
theorem dL_law_1712 : decode code 1712 = .ok (.iaload, 1) := by decide +kernel
theorem dL_law_1713 : decode code 1713 = .ok (.aload_n 0, 1) := by decide +kernel
theorem dL_law_1714 : decode code 1714 = .ok (.iload_n 3, 1) := by decide +kernel
theorem dL_law_1715 : decode code 1715 = .ok (.iconst 2, 1) := by decide +kernel
theorem dL_law_1716 : decode code 1716 = .ok (.iadd, 1) := by decide +kernel
theorem dL_law_1717 : decode code 1717 = .ok (.iaload, 1) := by decide +kernel
theorem dL_law_1718 : decode code 1718 = .ok (.aload_n 0, 1) := by decide +kernel
theorem dL_law_1719 : decode code 1719 = .ok (.iload_n 3, 1) := by decide +kernel
theorem dL_law_1720 : decode code 1720 = .ok (.iconst 3, 1) := by decide +kernel
theorem dL_law_1721 : decode code 1721 = .ok (.iadd, 1) := by decide +kernel
theorem dL_law_1722 : decode code 1722 = .ok (.iaload, 1) := by decide +kernel
theorem dL_law_1723 : decode code 1723 = .ok (.aload_n 0, 1) := by decide +kernel
theorem dL_law_1724 : decode code 1724 = .ok (.iload_n 3, 1) := by decide +kernel
theorem dL_law_1725 : decode code 1725 = .ok (.iconst 4, 1) := by decide +kernel
theorem dL_law_1726 : decode code 1726 = .ok (.iadd, 1) := by decide +kernel
theorem dL_law_1727 : decode code 1727 = .ok (.iaload, 1) := by decide +kernel
theorem dL_law_1728 : decode code 1728 = .ok (.invokevirtual 207, 3) := by decide +kernel
theorem dL_law_1731 : decode code 1731 = .ok (.if_icmp .eq 308, 3) := by decide +kernel
theorem dL_law_1736 : decode code 1736 = .ok (.aload_n 1, 1) := by decide +kernel
theorem dL_law_1737 : decode code 1737 = .ok (.aload_n 0, 1) := by decide +kernel
theorem dL_law_1738 : decode code 1738 = .ok (.iload_n 3, 1) := by decide +kernel
theorem dL_law_1739 : decode code 1739 = .ok (.iconst 1, 1) := by decide +kernel
theorem dL_law_1740 : decode code 1740 = .ok (.iadd, 1) := by decide +kernel
theorem dL_law_1741 : decode code 1741 = .ok (.iaload, 1) := by decide +kernel
theorem dL_law_1742 : decode code 1742 = .ok (.aload_n 0, 1) := by decide +kernel
theorem dL_law_1743 : decode code 1743 = .ok (.iload_n 3, 1) := by decide +kernel
theorem dL_law_1744 : decode code 1744 = .ok (.iconst 2, 1) := by decide +kernel
theorem dL_law_1745 : decode code 1745 = .ok (.iadd, 1) := by decide +kernel
theorem dL_law_1746 : decode code 1746 = .ok (.iaload, 1) := by decide +kernel
theorem dL_law_1747 : decode code 1747 = .ok (.invokevirtual 208, 3) := by decide +kernel
theorem dL_law_1750 : decode code 1750 = .ok (.aload_n 2, 1) := by decide +kernel
theorem dL_law_1751 : decode code 1751 = .ok (.aload_n 0, 1) := by decide +kernel
theorem dL_law_1752 : decode code 1752 = .ok (.iload_n 3, 1) := by decide +kernel
theorem dL_law_1753 : decode code 1753 = .ok (.iconst 1, 1) := by decide +kernel
theorem dL_law_1754 : decode code 1754 = .ok (.iadd, 1) := by decide +kernel
theorem dL_law_1755 : decode code 1755 = .ok (.iaload, 1) := by decide +kernel
theorem dL_law_1756 : decode code 1756 = .ok (.aload_n 0, 1) := by decide +kernel
theorem dL_law_1757 : decode code 1757 = .ok (.iload_n 3, 1) := by decide +kernel
theorem dL_law_1758 : decode code 1758 = .ok (.iconst 2, 1) := by decide +kernel
theorem dL_law_1759 : decode code 1759 = .ok (.iadd, 1) := by decide +kernel
theorem dL_law_1760 : decode code 1760 = .ok (.iaload, 1) := by decide +kernel
theorem dL_law_1761 : decode code 1761 = .ok (.invokevirtual 211, 3) := by decide +kernel
theorem dL_law_1764 : decode code 1764 = .ok (.if_icmp .eq 275, 3) := by decide +kernel
theorem dL_law_1769 : decode code 1769 = .ok (.aload_n 1, 1) := by decide +kernel
theorem dL_law_1770 : decode code 1770 = .ok (.aload_n 0, 1) := by decide +kernel
theorem dL_law_1771 : decode code 1771 = .ok (.iload_n 3, 1) := by decide +kernel
theorem dL_law_1772 : decode code 1772 = .ok (.iconst 1, 1) := by decide +kernel
theorem dL_law_1773 : decode code 1773 = .ok (.iadd, 1) := by decide +kernel
theorem dL_law_1774 : decode code 1774 = .ok (.iaload, 1) := by decide +kernel
theorem dL_law_1775 : decode code 1775 = .ok (.aload_n 0, 1) := by decide +kernel
theorem dL_law_1776 : decode code 1776 = .ok (.iload_n 3, 1) := by decide +kernel
theorem dL_law_1777 : decode code 1777 = .ok (.iconst 2, 1) := by decide +kernel
theorem dL_law_1778 : decode code 1778 = .ok (.iadd, 1) := by decide +kernel
theorem dL_law_1779 : decode code 1779 = .ok (.iaload, 1) := by decide +kernel
theorem dL_law_1780 : decode code 1780 = .ok (.invokevirtual 212, 3) := by decide +kernel
theorem dL_law_1783 : decode code 1783 = .ok (.aload_n 2, 1) := by decide +kernel
theorem dL_law_1784 : decode code 1784 = .ok (.aload_n 0, 1) := by decide +kernel
theorem dL_law_1785 : decode code 1785 = .ok (.iload_n 3, 1) := by decide +kernel
theorem dL_law_1786 : decode code 1786 = .ok (.iconst 1, 1) := by decide +kernel
theorem dL_law_1787 : decode code 1787 = .ok (.iadd, 1) := by decide +kernel
theorem dL_law_1788 : decode code 1788 = .ok (.iaload, 1) := by decide +kernel
theorem dL_law_1789 : decode code 1789 = .ok (.aload_n 0, 1) := by decide +kernel
theorem dL_law_1790 : decode code 1790 = .ok (.iload_n 3, 1) := by decide +kernel
theorem dL_law_1791 : decode code 1791 = .ok (.iconst 2, 1) := by decide +kernel
theorem dL_law_1792 : decode code 1792 = .ok (.iadd, 1) := by decide +kernel
theorem dL_law_1793 : decode code 1793 = .ok (.iaload, 1) := by decide +kernel
theorem dL_law_1794 : decode code 1794 = .ok (.invokevirtual 215, 3) := by decide +kernel
theorem dL_law_1797 : decode code 1797 = .ok (.if_icmp .eq 242, 3) := by decide +kernel
theorem dL_law_1802 : decode code 1802 = .ok (.aload_n 1, 1) := by decide +kernel
theorem dL_law_1803 : decode code 1803 = .ok (.aload_n 0, 1) := by decide +kernel
theorem dL_law_1804 : decode code 1804 = .ok (.iload_n 3, 1) := by decide +kernel
theorem dL_law_1805 : decode code 1805 = .ok (.iconst 1, 1) := by decide +kernel
theorem dL_law_1806 : decode code 1806 = .ok (.iadd, 1) := by decide +kernel
theorem dL_law_1807 : decode code 1807 = .ok (.iaload, 1) := by decide +kernel
theorem dL_law_1808 : decode code 1808 = .ok (.aload_n 0, 1) := by decide +kernel
theorem dL_law_1809 : decode code 1809 = .ok (.iload_n 3, 1) := by decide +kernel
theorem dL_law_1810 : decode code 1810 = .ok (.iconst 2, 1) := by decide +kernel
theorem dL_law_1811 : decode code 1811 = .ok (.iadd, 1) := by decide +kernel
theorem dL_law_1812 : decode code 1812 = .ok (.iaload, 1) := by decide +kernel
theorem dL_law_1813 : decode code 1813 = .ok (.aload_n 0, 1) := by decide +kernel
theorem dL_law_1814 : decode code 1814 = .ok (.iload_n 3, 1) := by decide +kernel
theorem dL_law_1815 : decode code 1815 = .ok (.iconst 3, 1) := by decide +kernel
theorem dL_law_1816 : decode code 1816 = .ok (.iadd, 1) := by decide +kernel
theorem dL_law_1817 : decode code 1817 = .ok (.iaload, 1) := by decide +kernel
theorem dL_law_1818 : decode code 1818 = .ok (.invokevirtual 216, 3) := by decide +kernel
theorem dL_law_1821 : decode code 1821 = .ok (.aload_n 2, 1) := by decide +kernel
theorem dL_law_1822 : decode code 1822 = .ok (.aload_n 0, 1) := by decide +kernel
theorem dL_law_1823 : decode code 1823 = .ok (.iload_n 3, 1) := by decide +kernel
theorem dL_law_1824 : decode code 1824 = .ok (.iconst 1, 1) := by decide +kernel
theorem dL_law_1825 : decode code 1825 = .ok (.iadd, 1) := by decide +kernel
theorem dL_law_1826 : decode code 1826 = .ok (.iaload, 1) := by decide +kernel
theorem dL_law_1827 : decode code 1827 = .ok (.aload_n 0, 1) := by decide +kernel
theorem dL_law_1828 : decode code 1828 = .ok (.iload_n 3, 1) := by decide +kernel
theorem dL_law_1829 : decode code 1829 = .ok (.iconst 2, 1) := by decide +kernel
theorem dL_law_1830 : decode code 1830 = .ok (.iadd, 1) := by decide +kernel
theorem dL_law_1831 : decode code 1831 = .ok (.iaload, 1) := by decide +kernel
theorem dL_law_1832 : decode code 1832 = .ok (.aload_n 0, 1) := by decide +kernel
theorem dL_law_1833 : decode code 1833 = .ok (.iload_n 3, 1) := by decide +kernel
theorem dL_law_1834 : decode code 1834 = .ok (.iconst 3, 1) := by decide +kernel
theorem dL_law_1835 : decode code 1835 = .ok (.iadd, 1) := by decide +kernel
theorem dL_law_1836 : decode code 1836 = .ok (.iaload, 1) := by decide +kernel
theorem dL_law_1837 : decode code 1837 = .ok (.invokevirtual 219, 3) := by decide +kernel
theorem dL_law_1840 : decode code 1840 = .ok (.if_icmp .eq 199, 3) := by decide +kernel
theorem dL_law_1845 : decode code 1845 = .ok (.aload_n 1, 1) := by decide +kernel
theorem dL_law_1846 : decode code 1846 = .ok (.aload_n 0, 1) := by decide +kernel
theorem dL_law_1847 : decode code 1847 = .ok (.iload_n 3, 1) := by decide +kernel
theorem dL_law_1848 : decode code 1848 = .ok (.iconst 1, 1) := by decide +kernel
theorem dL_law_1849 : decode code 1849 = .ok (.iadd, 1) := by decide +kernel
theorem dL_law_1850 : decode code 1850 = .ok (.iaload, 1) := by decide +kernel
theorem dL_law_1851 : decode code 1851 = .ok (.aload_n 0, 1) := by decide +kernel
theorem dL_law_1852 : decode code 1852 = .ok (.iload_n 3, 1) := by decide +kernel
theorem dL_law_1853 : decode code 1853 = .ok (.iconst 2, 1) := by decide +kernel
theorem dL_law_1854 : decode code 1854 = .ok (.iadd, 1) := by decide +kernel
theorem dL_law_1855 : decode code 1855 = .ok (.iaload, 1) := by decide +kernel
theorem dL_law_1856 : decode code 1856 = .ok (.aload_n 0, 1) := by decide +kernel
theorem dL_law_1857 : decode code 1857 = .ok (.iload_n 3, 1) := by decide +kernel
theorem dL_law_1858 : decode code 1858 = .ok (.iconst 3, 1) := by decide +kernel
theorem dL_law_1859 : decode code 1859 = .ok (.iadd, 1) := by decide +kernel
theorem dL_law_1860 : decode code 1860 = .ok (.iaload, 1) := by decide +kernel
theorem dL_law_1861 : decode code 1861 = .ok (.invokevirtual 220, 3) := by decide +kernel
theorem dL_law_1864 : decode code 1864 = .ok (.aload_n 2, 1) := by decide +kernel
theorem dL_law_1865 : decode code 1865 = .ok (.aload_n 0, 1) := by decide +kernel
theorem dL_law_1866 : decode code 1866 = .ok (.iload_n 3, 1) := by decide +kernel
theorem dL_law_1867 : decode code 1867 = .ok (.iconst 1, 1) := by decide +kernel
theorem dL_law_1868 : decode code 1868 = .ok (.iadd, 1) := by decide +kernel
theorem dL_law_1869 : decode code 1869 = .ok (.iaload, 1) := by decide +kernel
theorem dL_law_1870 : decode code 1870 = .ok (.aload_n 0, 1) := by decide +kernel
theorem dL_law_1871 : decode code 1871 = .ok (.iload_n 3, 1) := by decide +kernel
theorem dL_law_1872 : decode code 1872 = .ok (.iconst 2, 1) := by decide +kernel
theorem dL_law_1873 : decode code 1873 = .ok (.iadd, 1) := by decide +kernel
theorem dL_law_1874 : decode code 1874 = .ok (.iaload, 1) := by decide +kernel
theorem dL_law_1875 : decode code 1875 = .ok (.aload_n 0, 1) := by decide +kernel
theorem dL_law_1876 : decode code 1876 = .ok (.iload_n 3, 1) := by decide +kernel
theorem dL_law_1877 : decode code 1877 = .ok (.iconst 3, 1) := by decide +kernel
theorem dL_law_1878 : decode code 1878 = .ok (.iadd, 1) := by decide +kernel
theorem dL_law_1879 : decode code 1879 = .ok (.iaload, 1) := by decide +kernel
theorem dL_law_1880 : decode code 1880 = .ok (.invokevirtual 223, 3) := by decide +kernel
theorem dL_law_1883 : decode code 1883 = .ok (.if_icmp .eq 156, 3) := by decide +kernel
theorem dL_law_1888 : decode code 1888 = .ok (.aload_n 1, 1) := by decide +kernel
theorem dL_law_1889 : decode code 1889 = .ok (.aload_n 0, 1) := by decide +kernel
theorem dL_law_1890 : decode code 1890 = .ok (.iload_n 3, 1) := by decide +kernel
theorem dL_law_1891 : decode code 1891 = .ok (.iconst 1, 1) := by decide +kernel
theorem dL_law_1892 : decode code 1892 = .ok (.iadd, 1) := by decide +kernel
theorem dL_law_1893 : decode code 1893 = .ok (.iaload, 1) := by decide +kernel
theorem dL_law_1894 : decode code 1894 = .ok (.aload_n 0, 1) := by decide +kernel
theorem dL_law_1895 : decode code 1895 = .ok (.iload_n 3, 1) := by decide +kernel
theorem dL_law_1896 : decode code 1896 = .ok (.iconst 2, 1) := by decide +kernel
theorem dL_law_1897 : decode code 1897 = .ok (.iadd, 1) := by decide +kernel
theorem dL_law_1898 : decode code 1898 = .ok (.iaload, 1) := by decide +kernel
theorem dL_law_1899 : decode code 1899 = .ok (.invokevirtual 224, 3) := by decide +kernel
theorem dL_law_1902 : decode code 1902 = .ok (.aload_n 2, 1) := by decide +kernel
theorem dL_law_1903 : decode code 1903 = .ok (.aload_n 0, 1) := by decide +kernel
theorem dL_law_1904 : decode code 1904 = .ok (.iload_n 3, 1) := by decide +kernel
theorem dL_law_1905 : decode code 1905 = .ok (.iconst 1, 1) := by decide +kernel
theorem dL_law_1906 : decode code 1906 = .ok (.iadd, 1) := by decide +kernel
theorem dL_law_1907 : decode code 1907 = .ok (.iaload, 1) := by decide +kernel
theorem dL_law_1908 : decode code 1908 = .ok (.aload_n 0, 1) := by decide +kernel
theorem dL_law_1909 : decode code 1909 = .ok (.iload_n 3, 1) := by decide +kernel
theorem dL_law_1910 : decode code 1910 = .ok (.iconst 2, 1) := by decide +kernel
theorem dL_law_1911 : decode code 1911 = .ok (.iadd, 1) := by decide +kernel
theorem dL_law_1912 : decode code 1912 = .ok (.iaload, 1) := by decide +kernel
theorem dL_law_1913 : decode code 1913 = .ok (.invokevirtual 227, 3) := by decide +kernel
theorem dL_law_1916 : decode code 1916 = .ok (.if_icmp .eq 123, 3) := by decide +kernel
theorem dL_law_1921 : decode code 1921 = .ok (.aload_n 1, 1) := by decide +kernel
theorem dL_law_1922 : decode code 1922 = .ok (.invokevirtual 228, 3) := by decide +kernel
theorem dL_law_1925 : decode code 1925 = .ok (.aload_n 2, 1) := by decide +kernel
theorem dL_law_1926 : decode code 1926 = .ok (.invokevirtual 231, 3) := by decide +kernel
theorem dL_law_1929 : decode code 1929 = .ok (.if_icmp .eq 110, 3) := by decide +kernel
theorem dL_law_1934 : decode code 1934 = .ok (.aload_n 1, 1) := by decide +kernel
theorem dL_law_1935 : decode code 1935 = .ok (.aload_n 0, 1) := by decide +kernel
theorem dL_law_1936 : decode code 1936 = .ok (.iload_n 3, 1) := by decide +kernel
theorem dL_law_1937 : decode code 1937 = .ok (.iconst 1, 1) := by decide +kernel
theorem dL_law_1938 : decode code 1938 = .ok (.iadd, 1) := by decide +kernel
theorem dL_law_1939 : decode code 1939 = .ok (.iaload, 1) := by decide +kernel
theorem dL_law_1940 : decode code 1940 = .ok (.invokevirtual 232, 3) := by decide +kernel
theorem dL_law_1943 : decode code 1943 = .ok (.aload_n 2, 1) := by decide +kernel
theorem dL_law_1944 : decode code 1944 = .ok (.aload_n 0, 1) := by decide +kernel
theorem dL_law_1945 : decode code 1945 = .ok (.iload_n 3, 1) := by decide +kernel
theorem dL_law_1946 : decode code 1946 = .ok (.iconst 1, 1) := by decide +kernel
theorem dL_law_1947 : decode code 1947 = .ok (.iadd, 1) := by decide +kernel
theorem dL_law_1948 : decode code 1948 = .ok (.iaload, 1) := by decide +kernel
theorem dL_law_1949 : decode code 1949 = .ok (.invokevirtual 235, 3) := by decide +kernel
theorem dL_law_1952 : decode code 1952 = .ok (.if_icmp .eq 87, 3) := by decide +kernel
theorem dL_law_1957 : decode code 1957 = .ok (.aload_n 1, 1) := by decide +kernel
theorem dL_law_1958 : decode code 1958 = .ok (.aload_n 0, 1) := by decide +kernel
theorem dL_law_1959 : decode code 1959 = .ok (.iload_n 3, 1) := by decide +kernel
theorem dL_law_1960 : decode code 1960 = .ok (.iconst 1, 1) := by decide +kernel
theorem dL_law_1961 : decode code 1961 = .ok (.iadd, 1) := by decide +kernel
theorem dL_law_1962 : decode code 1962 = .ok (.iaload, 1) := by decide +kernel
theorem dL_law_1963 : decode code 1963 = .ok (.invokevirtual 236, 3) := by decide +kernel
theorem dL_law_1966 : decode code 1966 = .ok (.aload_n 2, 1) := by decide +kernel
theorem dL_law_1967 : decode code 1967 = .ok (.aload_n 0, 1) := by decide +kernel
theorem dL_law_1968 : decode code 1968 = .ok (.iload_n 3, 1) := by decide +kernel
theorem dL_law_1969 : decode code 1969 = .ok (.iconst 1, 1) := by decide +kernel
theorem dL_law_1970 : decode code 1970 = .ok (.iadd, 1) := by decide +kernel
theorem dL_law_1971 : decode code 1971 = .ok (.iaload, 1) := by decide +kernel
theorem dL_law_1972 : decode code 1972 = .ok (.invokevirtual 239, 3) := by decide +kernel
theorem dL_law_1975 : decode code 1975 = .ok (.if_icmp .eq 64, 3) := by decide +kernel
theorem dL_law_1980 : decode code 1980 = .ok (.aload_n 1, 1) := by decide +kernel
theorem dL_law_1981 : decode code 1981 = .ok (.aload_n 0, 1) := by decide +kernel
theorem dL_law_1982 : decode code 1982 = .ok (.iload_n 3, 1) := by decide +kernel
theorem dL_law_1983 : decode code 1983 = .ok (.iconst 1, 1) := by decide +kernel
theorem dL_law_1984 : decode code 1984 = .ok (.iadd, 1) := by decide +kernel
theorem dL_law_1985 : decode code 1985 = .ok (.iaload, 1) := by decide +kernel
theorem dL_law_1986 : decode code 1986 = .ok (.aload_n 0, 1) := by decide +kernel
theorem dL_law_1987 : decode code 1987 = .ok (.iload_n 3, 1) := by decide +kernel
theorem dL_law_1988 : decode code 1988 = .ok (.iconst 2, 1) := by decide +kernel
theorem dL_law_1989 : decode code 1989 = .ok (.iadd, 1) := by decide +kernel
theorem dL_law_1990 : decode code 1990 = .ok (.iaload, 1) := by decide +kernel
theorem dL_law_1991 : decode code 1991 = .ok (.invokevirtual 240, 3) := by decide +kernel
theorem dL_law_1994 : decode code 1994 = .ok (.aload_n 2, 1) := by decide +kernel
theorem dL_law_1995 : decode code 1995 = .ok (.aload_n 0, 1) := by decide +kernel
theorem dL_law_1996 : decode code 1996 = .ok (.iload_n 3, 1) := by decide +kernel
theorem dL_law_1997 : decode code 1997 = .ok (.iconst 1, 1) := by decide +kernel
theorem dL_law_1998 : decode code 1998 = .ok (.iadd, 1) := by decide +kernel
theorem dL_law_1999 : decode code 1999 = .ok (.iaload, 1) := by decide +kernel
theorem dL_law_2000 : decode code 2000 = .ok (.aload_n 0, 1) := by decide +kernel
theorem dL_law_2001 : decode code 2001 = .ok (.iload_n 3, 1) := by decide +kernel
theorem dL_law_2002 : decode code 2002 = .ok (.iconst 2, 1) := by decide +kernel
theorem dL_law_2003 : decode code 2003 = .ok (.iadd, 1) := by decide +kernel
theorem dL_law_2004 : decode code 2004 = .ok (.iaload, 1) := by decide +kernel
theorem dL_law_2005 : decode code 2005 = .ok (.invokevirtual 243, 3) := by decide +kernel
theorem dL_law_2008 : decode code 2008 = .ok (.if_icmp .eq 31, 3) := by decide +kernel
theorem dL_law_2013 : decode code 2013 = .ok (.aload_n 1, 1) := by decide +kernel
theorem dL_law_2014 : decode code 2014 = .ok (.invokevirtual 244, 3) := by decide +kernel
theorem dL_law_2017 : decode code 2017 = .ok (.aload_n 2, 1) := by decide +kernel
theorem dL_law_2018 : decode code 2018 = .ok (.invokevirtual 247, 3) := by decide +kernel
theorem dL_law_2021 : decode code 2021 = .ok (.if_icmp .eq 18, 3) := by decide +kernel
theorem dL_law_2026 : decode code 2026 = .ok (.aload_n 1, 1) := by decide +kernel
theorem dL_law_2027 : decode code 2027 = .ok (.invokevirtual 248, 3) := by decide +kernel
theorem dL_law_2030 : decode code 2030 = .ok (.aload_n 2, 1) := by decide +kernel
theorem dL_law_2031 : decode code 2031 = .ok (.invokevirtual 251, 3) := by decide +kernel
theorem dL_law_2034 : decode code 2034 = .ok (.if_icmp .eq 5, 3) := by decide +kernel
theorem dL_law_2039 : decode code 2039 = .ok (.iinc 3 6, 3) := by decide +kernel
theorem dL_law_2042 : decode code 2042 = .ok (.goto (-2024), 3) := by decide +kernel
theorem dL_law_2045 : decode code 2045 = .ok (.iconst 1, 1) := by decide +kernel
theorem dL_law_2046 : decode code 2046 = .ok (.ireturn, 1) := by decide +kernel
section LC
variable {l : Launch} {L : Nat} {xs : Nat → Int32} {Rel : Sg → Sg → Prop}
theorem law_0 (hst : STL Rel) (hL : L ≤ 3072) {i : Int} (hi : 0 ≤ i ∧ i + 6 ≤ (L : Int)) {σ τ : Sg} (hR : Rel σ τ) (hn : ∀ σ1 τ1, Rel σ1 τ1 → GL l L xs 2039 [some (.inr (.inr 0)), some (.inr (.inr 1)), some (.inr (.inr 2)), some (.inl i)] [] σ1 τ1) : GL l L xs 272 [some (.inr (.inr 0)), some (.inr (.inr 1)), some (.inr (.inr 2)), some (.inl i)] [] σ τ := by
  obtain ⟨r, σ1, τ1, hx, hm, hR1⟩ := hst 0 (fun j => (xs (Int.toNat (i + (j : Int)))).toInt) σ τ (by decide) (fun j => i32_c _) hR
  have hx : H_status σ = some (r, σ1) := hx
  have hm : M_status τ = some (r, τ1) := hm
  refine l_aload_n dL_law_272 rfl rfl ?_
  refine l_callx (st := []) rfl mw_X11_status lk_RL_13 (ok_H_status  _) hx (Nat.le_of_ble_eq_true rfl) rfl (fun _ _ => rfl) rfl (Nat.le_of_ble_eq_true rfl) dL_law_273 ?_
  refine l_aload_n dL_law_276 rfl rfl ?_
  refine l_callm (st := [.inl r]) rfl mw_X12_status lk_RL_17 (ok_M_status  _) hm (Nat.le_of_ble_eq_true rfl) rfl (fun _ _ => rfl) rfl (Nat.le_of_ble_eq_true rfl) dL_law_277 ?_
  refine l_icmpeq_t (tgt := 2039) dL_law_280 (by decide) rfl ?_
  exact hn _ _ hR1
theorem law_1 (hst : STL Rel) (hL : L ≤ 3072) {i : Int} (hi : 0 ≤ i ∧ i + 6 ≤ (L : Int)) {σ τ : Sg} (hR : Rel σ τ) (hn : ∀ σ1 τ1, Rel σ1 τ1 → GL l L xs 2039 [some (.inr (.inr 0)), some (.inr (.inr 1)), some (.inr (.inr 2)), some (.inl i)] [] σ1 τ1) : GL l L xs 285 [some (.inr (.inr 0)), some (.inr (.inr 1)), some (.inr (.inr 2)), some (.inl i)] [] σ τ := by
  obtain ⟨r, σ1, τ1, hx, hm, hR1⟩ := hst 1 (fun j => (xs (Int.toNat (i + (j : Int)))).toInt) σ τ (by decide) (fun j => i32_c _) hR
  have hx : H_top σ = some (r, σ1) := hx
  have hm : M_top τ = some (r, τ1) := hm
  refine l_aload_n dL_law_285 rfl rfl ?_
  refine l_callx (st := []) rfl mw_X11_top lk_RL_18 (ok_H_top  _) hx (Nat.le_of_ble_eq_true rfl) rfl (fun _ _ => rfl) rfl (Nat.le_of_ble_eq_true rfl) dL_law_286 ?_
  refine l_aload_n dL_law_289 rfl rfl ?_
  refine l_callm (st := [.inr (.inl r)]) rfl mw_X12_top lk_RL_22 (ok_M_top  _) hm (Nat.le_of_ble_eq_true rfl) rfl (fun _ _ => rfl) rfl (Nat.le_of_ble_eq_true rfl) dL_law_290 ?_
  refine l_lcmpeq_t (tgt := 2039) dL_law_293 dL_law_294 (by decide) rfl ?_
  exact hn _ _ hR1
theorem law_2 (hst : STL Rel) (hL : L ≤ 3072) {i : Int} (hi : 0 ≤ i ∧ i + 6 ≤ (L : Int)) {σ τ : Sg} (hR : Rel σ τ) (hn : ∀ σ1 τ1, Rel σ1 τ1 → GL l L xs 2039 [some (.inr (.inr 0)), some (.inr (.inr 1)), some (.inr (.inr 2)), some (.inl i)] [] σ1 τ1) : GL l L xs 299 [some (.inr (.inr 0)), some (.inr (.inr 1)), some (.inr (.inr 2)), some (.inl i)] [] σ τ := by
  obtain ⟨r, σ1, τ1, hx, hm, hR1⟩ := hst 2 (fun j => (xs (Int.toNat (i + (j : Int)))).toInt) σ τ (by decide) (fun j => i32_c _) hR
  have hx : H_bottom σ = some (r, σ1) := hx
  have hm : M_bottom τ = some (r, τ1) := hm
  refine l_aload_n dL_law_299 rfl rfl ?_
  refine l_callx (st := []) rfl mw_X11_bottom lk_RL_23 (ok_H_bottom  _) hx (Nat.le_of_ble_eq_true rfl) rfl (fun _ _ => rfl) rfl (Nat.le_of_ble_eq_true rfl) dL_law_300 ?_
  refine l_aload_n dL_law_303 rfl rfl ?_
  refine l_callm (st := [.inr (.inl r)]) rfl mw_X12_bottom lk_RL_26 (ok_M_bottom  _) hm (Nat.le_of_ble_eq_true rfl) rfl (fun _ _ => rfl) rfl (Nat.le_of_ble_eq_true rfl) dL_law_304 ?_
  refine l_lcmpeq_t (tgt := 2039) dL_law_307 dL_law_308 (by decide) rfl ?_
  exact hn _ _ hR1
theorem law_3 (hst : STL Rel) (hL : L ≤ 3072) {i : Int} (hi : 0 ≤ i ∧ i + 6 ≤ (L : Int)) {σ τ : Sg} (hR : Rel σ τ) (hn : ∀ σ1 τ1, Rel σ1 τ1 → GL l L xs 2039 [some (.inr (.inr 0)), some (.inr (.inr 1)), some (.inr (.inr 2)), some (.inl i)] [] σ1 τ1) : GL l L xs 313 [some (.inr (.inr 0)), some (.inr (.inr 1)), some (.inr (.inr 2)), some (.inl i)] [] σ τ := by
  obtain ⟨r, σ1, τ1, hx, hm, hR1⟩ := hst 3 (fun j => (xs (Int.toNat (i + (j : Int)))).toInt) σ τ (by decide) (fun j => i32_c _) hR
  have hx : H_tray ((xs (Int.toNat (i + 1))).toInt) ((xs (Int.toNat (i + 2))).toInt) ((xs (Int.toNat (i + 3))).toInt) σ = some (r, σ1) := hx
  have hm : M_tray ((xs (Int.toNat (i + 1))).toInt) ((xs (Int.toNat (i + 2))).toInt) ((xs (Int.toNat (i + 3))).toInt) τ = some (r, τ1) := hm
  refine l_aload_n dL_law_313 rfl rfl ?_
  refine l_aload_n dL_law_314 rfl rfl ?_
  refine l_iload_n dL_law_315 rfl rfl ?_
  refine l_iconst dL_law_316 (by decide) ?_
  refine l_iadd (z := i + 1) dL_law_317 (by unfold w32; omega) ?_
  refine l_sld (by omega) dL_law_318 ?_
  refine l_aload_n dL_law_319 rfl rfl ?_
  refine l_iload_n dL_law_320 rfl rfl ?_
  refine l_iconst dL_law_321 (by decide) ?_
  refine l_iadd (z := i + 2) dL_law_322 (by unfold w32; omega) ?_
  refine l_sld (by omega) dL_law_323 ?_
  refine l_aload_n dL_law_324 rfl rfl ?_
  refine l_iload_n dL_law_325 rfl rfl ?_
  refine l_iconst dL_law_326 (by decide) ?_
  refine l_iadd (z := i + 3) dL_law_327 (by unfold w32; omega) ?_
  refine l_sld (by omega) dL_law_328 ?_
  refine l_callx (st := []) rfl mw_X11_tray lk_RL_27 (ok_H_tray _ _ _ _) hx (Nat.le_of_ble_eq_true rfl) rfl (fun _ _ => rfl) rfl (Nat.le_of_ble_eq_true rfl) dL_law_329 ?_
  refine l_aload_n dL_law_332 rfl rfl ?_
  refine l_aload_n dL_law_333 rfl rfl ?_
  refine l_iload_n dL_law_334 rfl rfl ?_
  refine l_iconst dL_law_335 (by decide) ?_
  refine l_iadd (z := i + 1) dL_law_336 (by unfold w32; omega) ?_
  refine l_sld (by omega) dL_law_337 ?_
  refine l_aload_n dL_law_338 rfl rfl ?_
  refine l_iload_n dL_law_339 rfl rfl ?_
  refine l_iconst dL_law_340 (by decide) ?_
  refine l_iadd (z := i + 2) dL_law_341 (by unfold w32; omega) ?_
  refine l_sld (by omega) dL_law_342 ?_
  refine l_aload_n dL_law_343 rfl rfl ?_
  refine l_iload_n dL_law_344 rfl rfl ?_
  refine l_iconst dL_law_345 (by decide) ?_
  refine l_iadd (z := i + 3) dL_law_346 (by unfold w32; omega) ?_
  refine l_sld (by omega) dL_law_347 ?_
  refine l_callm (st := [.inl r]) rfl mw_X12_tray lk_RL_31 (ok_M_tray _ _ _ _) hm (Nat.le_of_ble_eq_true rfl) rfl (fun _ _ => rfl) rfl (Nat.le_of_ble_eq_true rfl) dL_law_348 ?_
  refine l_icmpeq_t (tgt := 2039) dL_law_351 (by decide) rfl ?_
  exact hn _ _ hR1
theorem law_4 (hst : STL Rel) (hL : L ≤ 3072) {i : Int} (hi : 0 ≤ i ∧ i + 6 ≤ (L : Int)) {σ τ : Sg} (hR : Rel σ τ) (hn : ∀ σ1 τ1, Rel σ1 τ1 → GL l L xs 2039 [some (.inr (.inr 0)), some (.inr (.inr 1)), some (.inr (.inr 2)), some (.inl i)] [] σ1 τ1) : GL l L xs 356 [some (.inr (.inr 0)), some (.inr (.inr 1)), some (.inr (.inr 2)), some (.inl i)] [] σ τ := by
  obtain ⟨r, σ1, τ1, hx, hm, hR1⟩ := hst 4 (fun j => (xs (Int.toNat (i + (j : Int)))).toInt) σ τ (by decide) (fun j => i32_c _) hR
  have hx : H_write ((xs (Int.toNat (i + 1))).toInt) ((xs (Int.toNat (i + 2))).toInt) (or64 (sl64 ((xs (Int.toNat (i + 3))).toInt) 32) (an64 ((xs (Int.toNat (i + 4))).toInt) 4294967295)) σ = some (r, σ1) := hx
  have hm : M_write ((xs (Int.toNat (i + 1))).toInt) ((xs (Int.toNat (i + 2))).toInt) (or64 (sl64 ((xs (Int.toNat (i + 3))).toInt) 32) (an64 ((xs (Int.toNat (i + 4))).toInt) 4294967295)) τ = some (r, τ1) := hm
  refine l_aload_n dL_law_356 rfl rfl ?_
  refine l_aload_n dL_law_357 rfl rfl ?_
  refine l_iload_n dL_law_358 rfl rfl ?_
  refine l_iconst dL_law_359 (by decide) ?_
  refine l_iadd (z := i + 1) dL_law_360 (by unfold w32; omega) ?_
  refine l_sld (by omega) dL_law_361 ?_
  refine l_aload_n dL_law_362 rfl rfl ?_
  refine l_iload_n dL_law_363 rfl rfl ?_
  refine l_iconst dL_law_364 (by decide) ?_
  refine l_iadd (z := i + 2) dL_law_365 (by unfold w32; omega) ?_
  refine l_sld (by omega) dL_law_366 ?_
  refine l_aload_n dL_law_367 rfl rfl ?_
  refine l_iload_n dL_law_368 rfl rfl ?_
  refine l_iconst dL_law_369 (by decide) ?_
  refine l_iadd (z := i + 3) dL_law_370 (by unfold w32; omega) ?_
  refine l_sld (by omega) dL_law_371 ?_
  refine l_i2l dL_law_372 ?_
  refine l_bipush dL_law_373 (by decide) ?_
  refine l_lshl dL_law_375 ?_
  refine l_aload_n dL_law_376 rfl rfl ?_
  refine l_iload_n dL_law_377 rfl rfl ?_
  refine l_iconst dL_law_378 (by decide) ?_
  refine l_iadd (z := i + 4) dL_law_379 (by unfold w32; omega) ?_
  refine l_sld (by omega) dL_law_380 ?_
  refine l_i2l dL_law_381 ?_
  refine l_ldc2 (n := 4294967295) (tm 2420 (by decide +kernel) rfl) (by decide) dL_law_382 ?_
  refine l_land dL_law_385 ?_
  refine l_lor dL_law_386 ?_
  refine l_callx (st := []) rfl mw_X11_write lk_RL_34 (ok_H_write _ _ _ _) hx (Nat.le_of_ble_eq_true rfl) rfl (fun _ _ => rfl) rfl (Nat.le_of_ble_eq_true rfl) dL_law_387 ?_
  refine l_aload_n dL_law_390 rfl rfl ?_
  refine l_aload_n dL_law_391 rfl rfl ?_
  refine l_iload_n dL_law_392 rfl rfl ?_
  refine l_iconst dL_law_393 (by decide) ?_
  refine l_iadd (z := i + 1) dL_law_394 (by unfold w32; omega) ?_
  refine l_sld (by omega) dL_law_395 ?_
  refine l_aload_n dL_law_396 rfl rfl ?_
  refine l_iload_n dL_law_397 rfl rfl ?_
  refine l_iconst dL_law_398 (by decide) ?_
  refine l_iadd (z := i + 2) dL_law_399 (by unfold w32; omega) ?_
  refine l_sld (by omega) dL_law_400 ?_
  refine l_aload_n dL_law_401 rfl rfl ?_
  refine l_iload_n dL_law_402 rfl rfl ?_
  refine l_iconst dL_law_403 (by decide) ?_
  refine l_iadd (z := i + 3) dL_law_404 (by unfold w32; omega) ?_
  refine l_sld (by omega) dL_law_405 ?_
  refine l_i2l dL_law_406 ?_
  refine l_bipush dL_law_407 (by decide) ?_
  refine l_lshl dL_law_409 ?_
  refine l_aload_n dL_law_410 rfl rfl ?_
  refine l_iload_n dL_law_411 rfl rfl ?_
  refine l_iconst dL_law_412 (by decide) ?_
  refine l_iadd (z := i + 4) dL_law_413 (by unfold w32; omega) ?_
  refine l_sld (by omega) dL_law_414 ?_
  refine l_i2l dL_law_415 ?_
  refine l_ldc2 (n := 4294967295) (tm 2420 (by decide +kernel) rfl) (by decide) dL_law_416 ?_
  refine l_land dL_law_419 ?_
  refine l_lor dL_law_420 ?_
  refine l_callm (st := [.inl r]) rfl mw_X12_write lk_RL_38 (ok_M_write _ _ _ _) hm (Nat.le_of_ble_eq_true rfl) rfl (fun _ _ => rfl) rfl (Nat.le_of_ble_eq_true rfl) dL_law_421 ?_
  refine l_icmpeq_t (tgt := 2039) dL_law_424 (by decide) rfl ?_
  exact hn _ _ hR1
theorem law_5 (hst : STL Rel) (hL : L ≤ 3072) {i : Int} (hi : 0 ≤ i ∧ i + 6 ≤ (L : Int)) {σ τ : Sg} (hR : Rel σ τ) (hn : ∀ σ1 τ1, Rel σ1 τ1 → GL l L xs 2039 [some (.inr (.inr 0)), some (.inr (.inr 1)), some (.inr (.inr 2)), some (.inl i)] [] σ1 τ1) : GL l L xs 429 [some (.inr (.inr 0)), some (.inr (.inr 1)), some (.inr (.inr 2)), some (.inl i)] [] σ τ := by
  obtain ⟨r, σ1, τ1, hx, hm, hR1⟩ := hst 5 (fun j => (xs (Int.toNat (i + (j : Int)))).toInt) σ τ (by decide) (fun j => i32_c _) hR
  have hx : H_read ((xs (Int.toNat (i + 1))).toInt) ((xs (Int.toNat (i + 2))).toInt) σ = some (r, σ1) := hx
  have hm : M_read ((xs (Int.toNat (i + 1))).toInt) ((xs (Int.toNat (i + 2))).toInt) τ = some (r, τ1) := hm
  refine l_aload_n dL_law_429 rfl rfl ?_
  refine l_aload_n dL_law_430 rfl rfl ?_
  refine l_iload_n dL_law_431 rfl rfl ?_
  refine l_iconst dL_law_432 (by decide) ?_
  refine l_iadd (z := i + 1) dL_law_433 (by unfold w32; omega) ?_
  refine l_sld (by omega) dL_law_434 ?_
  refine l_aload_n dL_law_435 rfl rfl ?_
  refine l_iload_n dL_law_436 rfl rfl ?_
  refine l_iconst dL_law_437 (by decide) ?_
  refine l_iadd (z := i + 2) dL_law_438 (by unfold w32; omega) ?_
  refine l_sld (by omega) dL_law_439 ?_
  refine l_callx (st := []) rfl mw_X11_read lk_RL_39 (ok_H_read _ _ _) hx (Nat.le_of_ble_eq_true rfl) rfl (fun _ _ => rfl) rfl (Nat.le_of_ble_eq_true rfl) dL_law_440 ?_
  refine l_aload_n dL_law_443 rfl rfl ?_
  refine l_aload_n dL_law_444 rfl rfl ?_
  refine l_iload_n dL_law_445 rfl rfl ?_
  refine l_iconst dL_law_446 (by decide) ?_
  refine l_iadd (z := i + 1) dL_law_447 (by unfold w32; omega) ?_
  refine l_sld (by omega) dL_law_448 ?_
  refine l_aload_n dL_law_449 rfl rfl ?_
  refine l_iload_n dL_law_450 rfl rfl ?_
  refine l_iconst dL_law_451 (by decide) ?_
  refine l_iadd (z := i + 2) dL_law_452 (by unfold w32; omega) ?_
  refine l_sld (by omega) dL_law_453 ?_
  refine l_callm (st := [.inr (.inl r)]) rfl mw_X12_read lk_RL_43 (ok_M_read _ _ _) hm (Nat.le_of_ble_eq_true rfl) rfl (fun _ _ => rfl) rfl (Nat.le_of_ble_eq_true rfl) dL_law_454 ?_
  refine l_lcmpeq_t (tgt := 2039) dL_law_457 dL_law_458 (by decide) rfl ?_
  exact hn _ _ hR1
theorem law_6 (hst : STL Rel) (hL : L ≤ 3072) {i : Int} (hi : 0 ≤ i ∧ i + 6 ≤ (L : Int)) {σ τ : Sg} (hR : Rel σ τ) (hn : ∀ σ1 τ1, Rel σ1 τ1 → GL l L xs 2039 [some (.inr (.inr 0)), some (.inr (.inr 1)), some (.inr (.inr 2)), some (.inl i)] [] σ1 τ1) : GL l L xs 463 [some (.inr (.inr 0)), some (.inr (.inr 1)), some (.inr (.inr 2)), some (.inl i)] [] σ τ := by
  obtain ⟨r, σ1, τ1, hx, hm, hR1⟩ := hst 6 (fun j => (xs (Int.toNat (i + (j : Int)))).toInt) σ τ (by decide) (fun j => i32_c _) hR
  have hx : H_pour ((xs (Int.toNat (i + 1))).toInt) ((xs (Int.toNat (i + 2))).toInt) ((xs (Int.toNat (i + 3))).toInt) ((xs (Int.toNat (i + 4))).toInt) ((xs (Int.toNat (i + 5))).toInt) σ = some (r, σ1) := hx
  have hm : M_pour ((xs (Int.toNat (i + 1))).toInt) ((xs (Int.toNat (i + 2))).toInt) ((xs (Int.toNat (i + 3))).toInt) ((xs (Int.toNat (i + 4))).toInt) ((xs (Int.toNat (i + 5))).toInt) τ = some (r, τ1) := hm
  refine l_aload_n dL_law_463 rfl rfl ?_
  refine l_aload_n dL_law_464 rfl rfl ?_
  refine l_iload_n dL_law_465 rfl rfl ?_
  refine l_iconst dL_law_466 (by decide) ?_
  refine l_iadd (z := i + 1) dL_law_467 (by unfold w32; omega) ?_
  refine l_sld (by omega) dL_law_468 ?_
  refine l_aload_n dL_law_469 rfl rfl ?_
  refine l_iload_n dL_law_470 rfl rfl ?_
  refine l_iconst dL_law_471 (by decide) ?_
  refine l_iadd (z := i + 2) dL_law_472 (by unfold w32; omega) ?_
  refine l_sld (by omega) dL_law_473 ?_
  refine l_aload_n dL_law_474 rfl rfl ?_
  refine l_iload_n dL_law_475 rfl rfl ?_
  refine l_iconst dL_law_476 (by decide) ?_
  refine l_iadd (z := i + 3) dL_law_477 (by unfold w32; omega) ?_
  refine l_sld (by omega) dL_law_478 ?_
  refine l_aload_n dL_law_479 rfl rfl ?_
  refine l_iload_n dL_law_480 rfl rfl ?_
  refine l_iconst dL_law_481 (by decide) ?_
  refine l_iadd (z := i + 4) dL_law_482 (by unfold w32; omega) ?_
  refine l_sld (by omega) dL_law_483 ?_
  refine l_aload_n dL_law_484 rfl rfl ?_
  refine l_iload_n dL_law_485 rfl rfl ?_
  refine l_iconst dL_law_486 (by decide) ?_
  refine l_iadd (z := i + 5) dL_law_487 (by unfold w32; omega) ?_
  refine l_sld (by omega) dL_law_488 ?_
  refine l_callx (st := []) rfl mw_X11_pour lk_RL_44 (ok_H_pour _ _ _ _ _ _) hx (Nat.le_of_ble_eq_true rfl) rfl (fun _ _ => rfl) rfl (Nat.le_of_ble_eq_true rfl) dL_law_489 ?_
  refine l_aload_n dL_law_492 rfl rfl ?_
  refine l_aload_n dL_law_493 rfl rfl ?_
  refine l_iload_n dL_law_494 rfl rfl ?_
  refine l_iconst dL_law_495 (by decide) ?_
  refine l_iadd (z := i + 1) dL_law_496 (by unfold w32; omega) ?_
  refine l_sld (by omega) dL_law_497 ?_
  refine l_aload_n dL_law_498 rfl rfl ?_
  refine l_iload_n dL_law_499 rfl rfl ?_
  refine l_iconst dL_law_500 (by decide) ?_
  refine l_iadd (z := i + 2) dL_law_501 (by unfold w32; omega) ?_
  refine l_sld (by omega) dL_law_502 ?_
  refine l_aload_n dL_law_503 rfl rfl ?_
  refine l_iload_n dL_law_504 rfl rfl ?_
  refine l_iconst dL_law_505 (by decide) ?_
  refine l_iadd (z := i + 3) dL_law_506 (by unfold w32; omega) ?_
  refine l_sld (by omega) dL_law_507 ?_
  refine l_aload_n dL_law_508 rfl rfl ?_
  refine l_iload_n dL_law_509 rfl rfl ?_
  refine l_iconst dL_law_510 (by decide) ?_
  refine l_iadd (z := i + 4) dL_law_511 (by unfold w32; omega) ?_
  refine l_sld (by omega) dL_law_512 ?_
  refine l_aload_n dL_law_513 rfl rfl ?_
  refine l_iload_n dL_law_514 rfl rfl ?_
  refine l_iconst dL_law_515 (by decide) ?_
  refine l_iadd (z := i + 5) dL_law_516 (by unfold w32; omega) ?_
  refine l_sld (by omega) dL_law_517 ?_
  refine l_callm (st := [.inl r]) rfl mw_X12_pour lk_RL_48 (ok_M_pour _ _ _ _ _ _) hm (Nat.le_of_ble_eq_true rfl) rfl (fun _ _ => rfl) rfl (Nat.le_of_ble_eq_true rfl) dL_law_518 ?_
  refine l_icmpeq_t (tgt := 2039) dL_law_521 (by decide) rfl ?_
  exact hn _ _ hR1
theorem law_7 (hst : STL Rel) (hL : L ≤ 3072) {i : Int} (hi : 0 ≤ i ∧ i + 6 ≤ (L : Int)) {σ τ : Sg} (hR : Rel σ τ) (hn : ∀ σ1 τ1, Rel σ1 τ1 → GL l L xs 2039 [some (.inr (.inr 0)), some (.inr (.inr 1)), some (.inr (.inr 2)), some (.inl i)] [] σ1 τ1) : GL l L xs 526 [some (.inr (.inr 0)), some (.inr (.inr 1)), some (.inr (.inr 2)), some (.inl i)] [] σ τ := by
  obtain ⟨r, σ1, τ1, hx, hm, hR1⟩ := hst 7 (fun j => (xs (Int.toNat (i + (j : Int)))).toInt) σ τ (by decide) (fun j => i32_c _) hR
  have hx : H_feed ((xs (Int.toNat (i + 1))).toInt) ((xs (Int.toNat (i + 2))).toInt) ((xs (Int.toNat (i + 3))).toInt) ((xs (Int.toNat (i + 4))).toInt) ((xs (Int.toNat (i + 5))).toInt) σ = some (r, σ1) := hx
  have hm : M_feed ((xs (Int.toNat (i + 1))).toInt) ((xs (Int.toNat (i + 2))).toInt) ((xs (Int.toNat (i + 3))).toInt) ((xs (Int.toNat (i + 4))).toInt) ((xs (Int.toNat (i + 5))).toInt) τ = some (r, τ1) := hm
  refine l_aload_n dL_law_526 rfl rfl ?_
  refine l_aload_n dL_law_527 rfl rfl ?_
  refine l_iload_n dL_law_528 rfl rfl ?_
  refine l_iconst dL_law_529 (by decide) ?_
  refine l_iadd (z := i + 1) dL_law_530 (by unfold w32; omega) ?_
  refine l_sld (by omega) dL_law_531 ?_
  refine l_aload_n dL_law_532 rfl rfl ?_
  refine l_iload_n dL_law_533 rfl rfl ?_
  refine l_iconst dL_law_534 (by decide) ?_
  refine l_iadd (z := i + 2) dL_law_535 (by unfold w32; omega) ?_
  refine l_sld (by omega) dL_law_536 ?_
  refine l_aload_n dL_law_537 rfl rfl ?_
  refine l_iload_n dL_law_538 rfl rfl ?_
  refine l_iconst dL_law_539 (by decide) ?_
  refine l_iadd (z := i + 3) dL_law_540 (by unfold w32; omega) ?_
  refine l_sld (by omega) dL_law_541 ?_
  refine l_aload_n dL_law_542 rfl rfl ?_
  refine l_iload_n dL_law_543 rfl rfl ?_
  refine l_iconst dL_law_544 (by decide) ?_
  refine l_iadd (z := i + 4) dL_law_545 (by unfold w32; omega) ?_
  refine l_sld (by omega) dL_law_546 ?_
  refine l_aload_n dL_law_547 rfl rfl ?_
  refine l_iload_n dL_law_548 rfl rfl ?_
  refine l_iconst dL_law_549 (by decide) ?_
  refine l_iadd (z := i + 5) dL_law_550 (by unfold w32; omega) ?_
  refine l_sld (by omega) dL_law_551 ?_
  refine l_callx (st := []) rfl mw_X11_feed lk_RL_49 (ok_H_feed _ _ _ _ _ _) hx (Nat.le_of_ble_eq_true rfl) rfl (fun _ _ => rfl) rfl (Nat.le_of_ble_eq_true rfl) dL_law_552 ?_
  refine l_aload_n dL_law_555 rfl rfl ?_
  refine l_aload_n dL_law_556 rfl rfl ?_
  refine l_iload_n dL_law_557 rfl rfl ?_
  refine l_iconst dL_law_558 (by decide) ?_
  refine l_iadd (z := i + 1) dL_law_559 (by unfold w32; omega) ?_
  refine l_sld (by omega) dL_law_560 ?_
  refine l_aload_n dL_law_561 rfl rfl ?_
  refine l_iload_n dL_law_562 rfl rfl ?_
  refine l_iconst dL_law_563 (by decide) ?_
  refine l_iadd (z := i + 2) dL_law_564 (by unfold w32; omega) ?_
  refine l_sld (by omega) dL_law_565 ?_
  refine l_aload_n dL_law_566 rfl rfl ?_
  refine l_iload_n dL_law_567 rfl rfl ?_
  refine l_iconst dL_law_568 (by decide) ?_
  refine l_iadd (z := i + 3) dL_law_569 (by unfold w32; omega) ?_
  refine l_sld (by omega) dL_law_570 ?_
  refine l_aload_n dL_law_571 rfl rfl ?_
  refine l_iload_n dL_law_572 rfl rfl ?_
  refine l_iconst dL_law_573 (by decide) ?_
  refine l_iadd (z := i + 4) dL_law_574 (by unfold w32; omega) ?_
  refine l_sld (by omega) dL_law_575 ?_
  refine l_aload_n dL_law_576 rfl rfl ?_
  refine l_iload_n dL_law_577 rfl rfl ?_
  refine l_iconst dL_law_578 (by decide) ?_
  refine l_iadd (z := i + 5) dL_law_579 (by unfold w32; omega) ?_
  refine l_sld (by omega) dL_law_580 ?_
  refine l_callm (st := [.inl r]) rfl mw_X12_feed lk_RL_53 (ok_M_feed _ _ _ _ _ _) hm (Nat.le_of_ble_eq_true rfl) rfl (fun _ _ => rfl) rfl (Nat.le_of_ble_eq_true rfl) dL_law_581 ?_
  refine l_icmpeq_t (tgt := 2039) dL_law_584 (by decide) rfl ?_
  exact hn _ _ hR1
theorem law_8 (hst : STL Rel) (hL : L ≤ 3072) {i : Int} (hi : 0 ≤ i ∧ i + 6 ≤ (L : Int)) {σ τ : Sg} (hR : Rel σ τ) (hn : ∀ σ1 τ1, Rel σ1 τ1 → GL l L xs 2039 [some (.inr (.inr 0)), some (.inr (.inr 1)), some (.inr (.inr 2)), some (.inl i)] [] σ1 τ1) : GL l L xs 589 [some (.inr (.inr 0)), some (.inr (.inr 1)), some (.inr (.inr 2)), some (.inl i)] [] σ τ := by
  obtain ⟨r, σ1, τ1, hx, hm, hR1⟩ := hst 8 (fun j => (xs (Int.toNat (i + (j : Int)))).toInt) σ τ (by decide) (fun j => i32_c _) hR
  have hx : H_province ((xs (Int.toNat (i + 1))).toInt) σ = some (r, σ1) := hx
  have hm : M_province ((xs (Int.toNat (i + 1))).toInt) τ = some (r, τ1) := hm
  refine l_aload_n dL_law_589 rfl rfl ?_
  refine l_aload_n dL_law_590 rfl rfl ?_
  refine l_iload_n dL_law_591 rfl rfl ?_
  refine l_iconst dL_law_592 (by decide) ?_
  refine l_iadd (z := i + 1) dL_law_593 (by unfold w32; omega) ?_
  refine l_sld (by omega) dL_law_594 ?_
  refine l_callx (st := []) rfl mw_X11_province lk_RL_54 (ok_H_province _ _) hx (Nat.le_of_ble_eq_true rfl) rfl (fun _ _ => rfl) rfl (Nat.le_of_ble_eq_true rfl) dL_law_595 ?_
  refine l_aload_n dL_law_598 rfl rfl ?_
  refine l_aload_n dL_law_599 rfl rfl ?_
  refine l_iload_n dL_law_600 rfl rfl ?_
  refine l_iconst dL_law_601 (by decide) ?_
  refine l_iadd (z := i + 1) dL_law_602 (by unfold w32; omega) ?_
  refine l_sld (by omega) dL_law_603 ?_
  refine l_callm (st := [.inl r]) rfl mw_X12_province lk_RL_58 (ok_M_province _ _) hm (Nat.le_of_ble_eq_true rfl) rfl (fun _ _ => rfl) rfl (Nat.le_of_ble_eq_true rfl) dL_law_604 ?_
  refine l_icmpeq_t (tgt := 2039) dL_law_607 (by decide) rfl ?_
  exact hn _ _ hR1
theorem law_9 (hst : STL Rel) (hL : L ≤ 3072) {i : Int} (hi : 0 ≤ i ∧ i + 6 ≤ (L : Int)) {σ τ : Sg} (hR : Rel σ τ) (hn : ∀ σ1 τ1, Rel σ1 τ1 → GL l L xs 2039 [some (.inr (.inr 0)), some (.inr (.inr 1)), some (.inr (.inr 2)), some (.inl i)] [] σ1 τ1) : GL l L xs 612 [some (.inr (.inr 0)), some (.inr (.inr 1)), some (.inr (.inr 2)), some (.inl i)] [] σ τ := by
  obtain ⟨r, σ1, τ1, hx, hm, hR1⟩ := hst 9 (fun j => (xs (Int.toNat (i + (j : Int)))).toInt) σ τ (by decide) (fun j => i32_c _) hR
  have hx : H_years ((xs (Int.toNat (i + 1))).toInt) σ = some (r, σ1) := hx
  have hm : M_years ((xs (Int.toNat (i + 1))).toInt) τ = some (r, τ1) := hm
  refine l_aload_n dL_law_612 rfl rfl ?_
  refine l_aload_n dL_law_613 rfl rfl ?_
  refine l_iload_n dL_law_614 rfl rfl ?_
  refine l_iconst dL_law_615 (by decide) ?_
  refine l_iadd (z := i + 1) dL_law_616 (by unfold w32; omega) ?_
  refine l_sld (by omega) dL_law_617 ?_
  refine l_callx (st := []) rfl mw_X11_years lk_RL_59 (ok_H_years _ _) hx (Nat.le_of_ble_eq_true rfl) rfl (fun _ _ => rfl) rfl (Nat.le_of_ble_eq_true rfl) dL_law_618 ?_
  refine l_aload_n dL_law_621 rfl rfl ?_
  refine l_aload_n dL_law_622 rfl rfl ?_
  refine l_iload_n dL_law_623 rfl rfl ?_
  refine l_iconst dL_law_624 (by decide) ?_
  refine l_iadd (z := i + 1) dL_law_625 (by unfold w32; omega) ?_
  refine l_sld (by omega) dL_law_626 ?_
  refine l_callm (st := [.inl r]) rfl mw_X12_years lk_RL_62 (ok_M_years _ _) hm (Nat.le_of_ble_eq_true rfl) rfl (fun _ _ => rfl) rfl (Nat.le_of_ble_eq_true rfl) dL_law_627 ?_
  refine l_icmpeq_t (tgt := 2039) dL_law_630 (by decide) rfl ?_
  exact hn _ _ hR1
theorem law_10 (hst : STL Rel) (hL : L ≤ 3072) {i : Int} (hi : 0 ≤ i ∧ i + 6 ≤ (L : Int)) {σ τ : Sg} (hR : Rel σ τ) (hn : ∀ σ1 τ1, Rel σ1 τ1 → GL l L xs 2039 [some (.inr (.inr 0)), some (.inr (.inr 1)), some (.inr (.inr 2)), some (.inl i)] [] σ1 τ1) : GL l L xs 635 [some (.inr (.inr 0)), some (.inr (.inr 1)), some (.inr (.inr 2)), some (.inl i)] [] σ τ := by
  obtain ⟨r, σ1, τ1, hx, hm, hR1⟩ := hst 10 (fun j => (xs (Int.toNat (i + (j : Int)))).toInt) σ τ (by decide) (fun j => i32_c _) hR
  have hx : H_fault ((xs (Int.toNat (i + 1))).toInt) σ = some (r, σ1) := hx
  have hm : M_fault ((xs (Int.toNat (i + 1))).toInt) τ = some (r, τ1) := hm
  refine l_aload_n dL_law_635 rfl rfl ?_
  refine l_aload_n dL_law_636 rfl rfl ?_
  refine l_iload_n dL_law_637 rfl rfl ?_
  refine l_iconst dL_law_638 (by decide) ?_
  refine l_iadd (z := i + 1) dL_law_639 (by unfold w32; omega) ?_
  refine l_sld (by omega) dL_law_640 ?_
  refine l_callx (st := []) rfl mw_X11_fault lk_RL_63 (ok_H_fault _ _) hx (Nat.le_of_ble_eq_true rfl) rfl (fun _ _ => rfl) rfl (Nat.le_of_ble_eq_true rfl) dL_law_641 ?_
  refine l_aload_n dL_law_644 rfl rfl ?_
  refine l_aload_n dL_law_645 rfl rfl ?_
  refine l_iload_n dL_law_646 rfl rfl ?_
  refine l_iconst dL_law_647 (by decide) ?_
  refine l_iadd (z := i + 1) dL_law_648 (by unfold w32; omega) ?_
  refine l_sld (by omega) dL_law_649 ?_
  refine l_callm (st := [.inl r]) rfl mw_X12_fault lk_RL_66 (ok_M_fault _ _) hm (Nat.le_of_ble_eq_true rfl) rfl (fun _ _ => rfl) rfl (Nat.le_of_ble_eq_true rfl) dL_law_650 ?_
  refine l_icmpeq_t (tgt := 2039) dL_law_653 (by decide) rfl ?_
  exact hn _ _ hR1
theorem law_11 (hst : STL Rel) (hL : L ≤ 3072) {i : Int} (hi : 0 ≤ i ∧ i + 6 ≤ (L : Int)) {σ τ : Sg} (hR : Rel σ τ) (hn : ∀ σ1 τ1, Rel σ1 τ1 → GL l L xs 2039 [some (.inr (.inr 0)), some (.inr (.inr 1)), some (.inr (.inr 2)), some (.inl i)] [] σ1 τ1) : GL l L xs 658 [some (.inr (.inr 0)), some (.inr (.inr 1)), some (.inr (.inr 2)), some (.inl i)] [] σ τ := by
  obtain ⟨r, σ1, τ1, hx, hm, hR1⟩ := hst 11 (fun j => (xs (Int.toNat (i + (j : Int)))).toInt) σ τ (by decide) (fun j => i32_c _) hR
  have hx : H_many ((xs (Int.toNat (i + 1))).toInt) σ = some (r, σ1) := hx
  have hm : M_many ((xs (Int.toNat (i + 1))).toInt) τ = some (r, τ1) := hm
  refine l_aload_n dL_law_658 rfl rfl ?_
  refine l_aload_n dL_law_659 rfl rfl ?_
  refine l_iload_n dL_law_660 rfl rfl ?_
  refine l_iconst dL_law_661 (by decide) ?_
  refine l_iadd (z := i + 1) dL_law_662 (by unfold w32; omega) ?_
  refine l_sld (by omega) dL_law_663 ?_
  refine l_callx (st := []) rfl mw_X11_many lk_RL_67 (ok_H_many _ _) hx (Nat.le_of_ble_eq_true rfl) rfl (fun _ _ => rfl) rfl (Nat.le_of_ble_eq_true rfl) dL_law_664 ?_
  refine l_aload_n dL_law_667 rfl rfl ?_
  refine l_aload_n dL_law_668 rfl rfl ?_
  refine l_iload_n dL_law_669 rfl rfl ?_
  refine l_iconst dL_law_670 (by decide) ?_
  refine l_iadd (z := i + 1) dL_law_671 (by unfold w32; omega) ?_
  refine l_sld (by omega) dL_law_672 ?_
  refine l_callm (st := [.inl r]) rfl mw_X12_many lk_RL_70 (ok_M_many _ _) hm (Nat.le_of_ble_eq_true rfl) rfl (fun _ _ => rfl) rfl (Nat.le_of_ble_eq_true rfl) dL_law_673 ?_
  refine l_icmpeq_t (tgt := 2039) dL_law_676 (by decide) rfl ?_
  exact hn _ _ hR1
theorem law_12 (hst : STL Rel) (hL : L ≤ 3072) {i : Int} (hi : 0 ≤ i ∧ i + 6 ≤ (L : Int)) {σ τ : Sg} (hR : Rel σ τ) (hn : ∀ σ1 τ1, Rel σ1 τ1 → GL l L xs 2039 [some (.inr (.inr 0)), some (.inr (.inr 1)), some (.inr (.inr 2)), some (.inl i)] [] σ1 τ1) : GL l L xs 681 [some (.inr (.inr 0)), some (.inr (.inr 1)), some (.inr (.inr 2)), some (.inl i)] [] σ τ := by
  obtain ⟨r, σ1, τ1, hx, hm, hR1⟩ := hst 12 (fun j => (xs (Int.toNat (i + (j : Int)))).toInt) σ τ (by decide) (fun j => i32_c _) hR
  have hx : H_word ((xs (Int.toNat (i + 1))).toInt) ((xs (Int.toNat (i + 2))).toInt) σ = some (r, σ1) := hx
  have hm : M_word ((xs (Int.toNat (i + 1))).toInt) ((xs (Int.toNat (i + 2))).toInt) τ = some (r, τ1) := hm
  refine l_aload_n dL_law_681 rfl rfl ?_
  refine l_aload_n dL_law_682 rfl rfl ?_
  refine l_iload_n dL_law_683 rfl rfl ?_
  refine l_iconst dL_law_684 (by decide) ?_
  refine l_iadd (z := i + 1) dL_law_685 (by unfold w32; omega) ?_
  refine l_sld (by omega) dL_law_686 ?_
  refine l_aload_n dL_law_687 rfl rfl ?_
  refine l_iload_n dL_law_688 rfl rfl ?_
  refine l_iconst dL_law_689 (by decide) ?_
  refine l_iadd (z := i + 2) dL_law_690 (by unfold w32; omega) ?_
  refine l_sld (by omega) dL_law_691 ?_
  refine l_callx (st := []) rfl mw_X11_word lk_RL_71 (ok_H_word _ _ _) hx (Nat.le_of_ble_eq_true rfl) rfl (fun _ _ => rfl) rfl (Nat.le_of_ble_eq_true rfl) dL_law_692 ?_
  refine l_aload_n dL_law_695 rfl rfl ?_
  refine l_aload_n dL_law_696 rfl rfl ?_
  refine l_iload_n dL_law_697 rfl rfl ?_
  refine l_iconst dL_law_698 (by decide) ?_
  refine l_iadd (z := i + 1) dL_law_699 (by unfold w32; omega) ?_
  refine l_sld (by omega) dL_law_700 ?_
  refine l_aload_n dL_law_701 rfl rfl ?_
  refine l_iload_n dL_law_702 rfl rfl ?_
  refine l_iconst dL_law_703 (by decide) ?_
  refine l_iadd (z := i + 2) dL_law_704 (by unfold w32; omega) ?_
  refine l_sld (by omega) dL_law_705 ?_
  refine l_callm (st := [.inl r]) rfl mw_X12_word lk_RL_75 (ok_M_word _ _ _) hm (Nat.le_of_ble_eq_true rfl) rfl (fun _ _ => rfl) rfl (Nat.le_of_ble_eq_true rfl) dL_law_706 ?_
  refine l_icmpeq_t (tgt := 2039) dL_law_709 (by decide) rfl ?_
  exact hn _ _ hR1
theorem law_13 (hst : STL Rel) (hL : L ≤ 3072) {i : Int} (hi : 0 ≤ i ∧ i + 6 ≤ (L : Int)) {σ τ : Sg} (hR : Rel σ τ) (hn : ∀ σ1 τ1, Rel σ1 τ1 → GL l L xs 2039 [some (.inr (.inr 0)), some (.inr (.inr 1)), some (.inr (.inr 2)), some (.inl i)] [] σ1 τ1) : GL l L xs 714 [some (.inr (.inr 0)), some (.inr (.inr 1)), some (.inr (.inr 2)), some (.inl i)] [] σ τ := by
  obtain ⟨r, σ1, τ1, hx, hm, hR1⟩ := hst 13 (fun j => (xs (Int.toNat (i + (j : Int)))).toInt) σ τ (by decide) (fun j => i32_c _) hR
  have hx : H_person ((xs (Int.toNat (i + 1))).toInt) ((xs (Int.toNat (i + 2))).toInt) σ = some (r, σ1) := hx
  have hm : M_person ((xs (Int.toNat (i + 1))).toInt) ((xs (Int.toNat (i + 2))).toInt) τ = some (r, τ1) := hm
  refine l_aload_n dL_law_714 rfl rfl ?_
  refine l_aload_n dL_law_715 rfl rfl ?_
  refine l_iload_n dL_law_716 rfl rfl ?_
  refine l_iconst dL_law_717 (by decide) ?_
  refine l_iadd (z := i + 1) dL_law_718 (by unfold w32; omega) ?_
  refine l_sld (by omega) dL_law_719 ?_
  refine l_aload_n dL_law_720 rfl rfl ?_
  refine l_iload_n dL_law_721 rfl rfl ?_
  refine l_iconst dL_law_722 (by decide) ?_
  refine l_iadd (z := i + 2) dL_law_723 (by unfold w32; omega) ?_
  refine l_sld (by omega) dL_law_724 ?_
  refine l_callx (st := []) rfl mw_X11_person lk_RL_76 (ok_H_person _ _ _) hx (Nat.le_of_ble_eq_true rfl) rfl (fun _ _ => rfl) rfl (Nat.le_of_ble_eq_true rfl) dL_law_725 ?_
  refine l_aload_n dL_law_728 rfl rfl ?_
  refine l_aload_n dL_law_729 rfl rfl ?_
  refine l_iload_n dL_law_730 rfl rfl ?_
  refine l_iconst dL_law_731 (by decide) ?_
  refine l_iadd (z := i + 1) dL_law_732 (by unfold w32; omega) ?_
  refine l_sld (by omega) dL_law_733 ?_
  refine l_aload_n dL_law_734 rfl rfl ?_
  refine l_iload_n dL_law_735 rfl rfl ?_
  refine l_iconst dL_law_736 (by decide) ?_
  refine l_iadd (z := i + 2) dL_law_737 (by unfold w32; omega) ?_
  refine l_sld (by omega) dL_law_738 ?_
  refine l_callm (st := [.inl r]) rfl mw_X12_person lk_RL_79 (ok_M_person _ _ _) hm (Nat.le_of_ble_eq_true rfl) rfl (fun _ _ => rfl) rfl (Nat.le_of_ble_eq_true rfl) dL_law_739 ?_
  refine l_icmpeq_t (tgt := 2039) dL_law_742 (by decide) rfl ?_
  exact hn _ _ hR1
theorem law_14 (hst : STL Rel) (hL : L ≤ 3072) {i : Int} (hi : 0 ≤ i ∧ i + 6 ≤ (L : Int)) {σ τ : Sg} (hR : Rel σ τ) (hn : ∀ σ1 τ1, Rel σ1 τ1 → GL l L xs 2039 [some (.inr (.inr 0)), some (.inr (.inr 1)), some (.inr (.inr 2)), some (.inl i)] [] σ1 τ1) : GL l L xs 747 [some (.inr (.inr 0)), some (.inr (.inr 1)), some (.inr (.inr 2)), some (.inl i)] [] σ τ := by
  obtain ⟨r, σ1, τ1, hx, hm, hR1⟩ := hst 14 (fun j => (xs (Int.toNat (i + (j : Int)))).toInt) σ τ (by decide) (fun j => i32_c _) hR
  have hx : H_strand ((xs (Int.toNat (i + 1))).toInt) ((xs (Int.toNat (i + 2))).toInt) ((xs (Int.toNat (i + 3))).toInt) σ = some (r, σ1) := hx
  have hm : M_strand ((xs (Int.toNat (i + 1))).toInt) ((xs (Int.toNat (i + 2))).toInt) ((xs (Int.toNat (i + 3))).toInt) τ = some (r, τ1) := hm
  refine l_aload_n dL_law_747 rfl rfl ?_
  refine l_aload_n dL_law_748 rfl rfl ?_
  refine l_iload_n dL_law_749 rfl rfl ?_
  refine l_iconst dL_law_750 (by decide) ?_
  refine l_iadd (z := i + 1) dL_law_751 (by unfold w32; omega) ?_
  refine l_sld (by omega) dL_law_752 ?_
  refine l_aload_n dL_law_753 rfl rfl ?_
  refine l_iload_n dL_law_754 rfl rfl ?_
  refine l_iconst dL_law_755 (by decide) ?_
  refine l_iadd (z := i + 2) dL_law_756 (by unfold w32; omega) ?_
  refine l_sld (by omega) dL_law_757 ?_
  refine l_aload_n dL_law_758 rfl rfl ?_
  refine l_iload_n dL_law_759 rfl rfl ?_
  refine l_iconst dL_law_760 (by decide) ?_
  refine l_iadd (z := i + 3) dL_law_761 (by unfold w32; omega) ?_
  refine l_sld (by omega) dL_law_762 ?_
  refine l_callx (st := []) rfl mw_X11_strand lk_RL_80 (ok_H_strand _ _ _ _) hx (Nat.le_of_ble_eq_true rfl) rfl (fun _ _ => rfl) rfl (Nat.le_of_ble_eq_true rfl) dL_law_763 ?_
  refine l_aload_n dL_law_766 rfl rfl ?_
  refine l_aload_n dL_law_767 rfl rfl ?_
  refine l_iload_n dL_law_768 rfl rfl ?_
  refine l_iconst dL_law_769 (by decide) ?_
  refine l_iadd (z := i + 1) dL_law_770 (by unfold w32; omega) ?_
  refine l_sld (by omega) dL_law_771 ?_
  refine l_aload_n dL_law_772 rfl rfl ?_
  refine l_iload_n dL_law_773 rfl rfl ?_
  refine l_iconst dL_law_774 (by decide) ?_
  refine l_iadd (z := i + 2) dL_law_775 (by unfold w32; omega) ?_
  refine l_sld (by omega) dL_law_776 ?_
  refine l_aload_n dL_law_777 rfl rfl ?_
  refine l_iload_n dL_law_778 rfl rfl ?_
  refine l_iconst dL_law_779 (by decide) ?_
  refine l_iadd (z := i + 3) dL_law_780 (by unfold w32; omega) ?_
  refine l_sld (by omega) dL_law_781 ?_
  refine l_callm (st := [.inl r]) rfl mw_X12_strand lk_RL_84 (ok_M_strand _ _ _ _) hm (Nat.le_of_ble_eq_true rfl) rfl (fun _ _ => rfl) rfl (Nat.le_of_ble_eq_true rfl) dL_law_782 ?_
  refine l_icmpeq_t (tgt := 2039) dL_law_785 (by decide) rfl ?_
  exact hn _ _ hR1
theorem law_15 (hst : STL Rel) (hL : L ≤ 3072) {i : Int} (hi : 0 ≤ i ∧ i + 6 ≤ (L : Int)) {σ τ : Sg} (hR : Rel σ τ) (hn : ∀ σ1 τ1, Rel σ1 τ1 → GL l L xs 2039 [some (.inr (.inr 0)), some (.inr (.inr 1)), some (.inr (.inr 2)), some (.inl i)] [] σ1 τ1) : GL l L xs 790 [some (.inr (.inr 0)), some (.inr (.inr 1)), some (.inr (.inr 2)), some (.inl i)] [] σ τ := by
  obtain ⟨r, σ1, τ1, hx, hm, hR1⟩ := hst 15 (fun j => (xs (Int.toNat (i + (j : Int)))).toInt) σ τ (by decide) (fun j => i32_c _) hR
  have hx : H_dinner ((xs (Int.toNat (i + 1))).toInt) ((xs (Int.toNat (i + 2))).toInt) σ = some (r, σ1) := hx
  have hm : M_dinner ((xs (Int.toNat (i + 1))).toInt) ((xs (Int.toNat (i + 2))).toInt) τ = some (r, τ1) := hm
  refine l_aload_n dL_law_790 rfl rfl ?_
  refine l_aload_n dL_law_791 rfl rfl ?_
  refine l_iload_n dL_law_792 rfl rfl ?_
  refine l_iconst dL_law_793 (by decide) ?_
  refine l_iadd (z := i + 1) dL_law_794 (by unfold w32; omega) ?_
  refine l_sld (by omega) dL_law_795 ?_
  refine l_aload_n dL_law_796 rfl rfl ?_
  refine l_iload_n dL_law_797 rfl rfl ?_
  refine l_iconst dL_law_798 (by decide) ?_
  refine l_iadd (z := i + 2) dL_law_799 (by unfold w32; omega) ?_
  refine l_sld (by omega) dL_law_800 ?_
  refine l_callx (st := []) rfl mw_X11_dinner lk_RL_85 (ok_H_dinner _ _ _) hx (Nat.le_of_ble_eq_true rfl) rfl (fun _ _ => rfl) rfl (Nat.le_of_ble_eq_true rfl) dL_law_801 ?_
  refine l_aload_n dL_law_804 rfl rfl ?_
  refine l_aload_n dL_law_805 rfl rfl ?_
  refine l_iload_n dL_law_806 rfl rfl ?_
  refine l_iconst dL_law_807 (by decide) ?_
  refine l_iadd (z := i + 1) dL_law_808 (by unfold w32; omega) ?_
  refine l_sld (by omega) dL_law_809 ?_
  refine l_aload_n dL_law_810 rfl rfl ?_
  refine l_iload_n dL_law_811 rfl rfl ?_
  refine l_iconst dL_law_812 (by decide) ?_
  refine l_iadd (z := i + 2) dL_law_813 (by unfold w32; omega) ?_
  refine l_sld (by omega) dL_law_814 ?_
  refine l_callm (st := [.inl r]) rfl mw_X12_dinner lk_RL_88 (ok_M_dinner _ _ _) hm (Nat.le_of_ble_eq_true rfl) rfl (fun _ _ => rfl) rfl (Nat.le_of_ble_eq_true rfl) dL_law_815 ?_
  refine l_icmpeq_t (tgt := 2039) dL_law_818 (by decide) rfl ?_
  exact hn _ _ hR1
theorem law_16 (hst : STL Rel) (hL : L ≤ 3072) {i : Int} (hi : 0 ≤ i ∧ i + 6 ≤ (L : Int)) {σ τ : Sg} (hR : Rel σ τ) (hn : ∀ σ1 τ1, Rel σ1 τ1 → GL l L xs 2039 [some (.inr (.inr 0)), some (.inr (.inr 1)), some (.inr (.inr 2)), some (.inl i)] [] σ1 τ1) : GL l L xs 823 [some (.inr (.inr 0)), some (.inr (.inr 1)), some (.inr (.inr 2)), some (.inl i)] [] σ τ := by
  obtain ⟨r, σ1, τ1, hx, hm, hR1⟩ := hst 16 (fun j => (xs (Int.toNat (i + (j : Int)))).toInt) σ τ (by decide) (fun j => i32_c _) hR
  have hx : H_longest ((xs (Int.toNat (i + 1))).toInt) σ = some (r, σ1) := hx
  have hm : M_longest ((xs (Int.toNat (i + 1))).toInt) τ = some (r, τ1) := hm
  refine l_aload_n dL_law_823 rfl rfl ?_
  refine l_aload_n dL_law_824 rfl rfl ?_
  refine l_iload_n dL_law_825 rfl rfl ?_
  refine l_iconst dL_law_826 (by decide) ?_
  refine l_iadd (z := i + 1) dL_law_827 (by unfold w32; omega) ?_
  refine l_sld (by omega) dL_law_828 ?_
  refine l_callx (st := []) rfl mw_X11_longest lk_RL_89 (ok_H_longest _ _) hx (Nat.le_of_ble_eq_true rfl) rfl (fun _ _ => rfl) rfl (Nat.le_of_ble_eq_true rfl) dL_law_829 ?_
  refine l_aload_n dL_law_832 rfl rfl ?_
  refine l_aload_n dL_law_833 rfl rfl ?_
  refine l_iload_n dL_law_834 rfl rfl ?_
  refine l_iconst dL_law_835 (by decide) ?_
  refine l_iadd (z := i + 1) dL_law_836 (by unfold w32; omega) ?_
  refine l_sld (by omega) dL_law_837 ?_
  refine l_callm (st := [.inl r]) rfl mw_X12_longest lk_RL_92 (ok_M_longest _ _) hm (Nat.le_of_ble_eq_true rfl) rfl (fun _ _ => rfl) rfl (Nat.le_of_ble_eq_true rfl) dL_law_838 ?_
  refine l_icmpeq_t (tgt := 2039) dL_law_841 (by decide) rfl ?_
  exact hn _ _ hR1
theorem law_17 (hst : STL Rel) (hL : L ≤ 3072) {i : Int} (hi : 0 ≤ i ∧ i + 6 ≤ (L : Int)) {σ τ : Sg} (hR : Rel σ τ) (hn : ∀ σ1 τ1, Rel σ1 τ1 → GL l L xs 2039 [some (.inr (.inr 0)), some (.inr (.inr 1)), some (.inr (.inr 2)), some (.inl i)] [] σ1 τ1) : GL l L xs 846 [some (.inr (.inr 0)), some (.inr (.inr 1)), some (.inr (.inr 2)), some (.inl i)] [] σ τ := by
  obtain ⟨r, σ1, τ1, hx, hm, hR1⟩ := hst 17 (fun j => (xs (Int.toNat (i + (j : Int)))).toInt) σ τ (by decide) (fun j => i32_c _) hR
  have hx : H_copyHair ((xs (Int.toNat (i + 1))).toInt) σ = some (r, σ1) := hx
  have hm : M_copyHair ((xs (Int.toNat (i + 1))).toInt) τ = some (r, τ1) := hm
  refine l_aload_n dL_law_846 rfl rfl ?_
  refine l_aload_n dL_law_847 rfl rfl ?_
  refine l_iload_n dL_law_848 rfl rfl ?_
  refine l_iconst dL_law_849 (by decide) ?_
  refine l_iadd (z := i + 1) dL_law_850 (by unfold w32; omega) ?_
  refine l_sld (by omega) dL_law_851 ?_
  refine l_callx (st := []) rfl mw_X11_copyHair lk_RL_93 (ok_H_copyHair _ _) hx (Nat.le_of_ble_eq_true rfl) rfl (fun _ _ => rfl) rfl (Nat.le_of_ble_eq_true rfl) dL_law_852 ?_
  refine l_aload_n dL_law_855 rfl rfl ?_
  refine l_aload_n dL_law_856 rfl rfl ?_
  refine l_iload_n dL_law_857 rfl rfl ?_
  refine l_iconst dL_law_858 (by decide) ?_
  refine l_iadd (z := i + 1) dL_law_859 (by unfold w32; omega) ?_
  refine l_sld (by omega) dL_law_860 ?_
  refine l_callm (st := [.inl r]) rfl mw_X12_copyHair lk_RL_96 (ok_M_copyHair _ _) hm (Nat.le_of_ble_eq_true rfl) rfl (fun _ _ => rfl) rfl (Nat.le_of_ble_eq_true rfl) dL_law_861 ?_
  refine l_icmpeq_t (tgt := 2039) dL_law_864 (by decide) rfl ?_
  exact hn _ _ hR1
theorem law_18 (hst : STL Rel) (hL : L ≤ 3072) {i : Int} (hi : 0 ≤ i ∧ i + 6 ≤ (L : Int)) {σ τ : Sg} (hR : Rel σ τ) (hn : ∀ σ1 τ1, Rel σ1 τ1 → GL l L xs 2039 [some (.inr (.inr 0)), some (.inr (.inr 1)), some (.inr (.inr 2)), some (.inl i)] [] σ1 τ1) : GL l L xs 869 [some (.inr (.inr 0)), some (.inr (.inr 1)), some (.inr (.inr 2)), some (.inl i)] [] σ τ := by
  obtain ⟨r, σ1, τ1, hx, hm, hR1⟩ := hst 18 (fun j => (xs (Int.toNat (i + (j : Int)))).toInt) σ τ (by decide) (fun j => i32_c _) hR
  have hx : H_day ((xs (Int.toNat (i + 1))).toInt) σ = some (r, σ1) := hx
  have hm : M_day ((xs (Int.toNat (i + 1))).toInt) τ = some (r, τ1) := hm
  refine l_aload_n dL_law_869 rfl rfl ?_
  refine l_aload_n dL_law_870 rfl rfl ?_
  refine l_iload_n dL_law_871 rfl rfl ?_
  refine l_iconst dL_law_872 (by decide) ?_
  refine l_iadd (z := i + 1) dL_law_873 (by unfold w32; omega) ?_
  refine l_sld (by omega) dL_law_874 ?_
  refine l_callx (st := []) rfl mw_X11_day lk_RL_97 (ok_H_day _ _) hx (Nat.le_of_ble_eq_true rfl) rfl (fun _ _ => rfl) rfl (Nat.le_of_ble_eq_true rfl) dL_law_875 ?_
  refine l_aload_n dL_law_878 rfl rfl ?_
  refine l_aload_n dL_law_879 rfl rfl ?_
  refine l_iload_n dL_law_880 rfl rfl ?_
  refine l_iconst dL_law_881 (by decide) ?_
  refine l_iadd (z := i + 1) dL_law_882 (by unfold w32; omega) ?_
  refine l_sld (by omega) dL_law_883 ?_
  refine l_callm (st := [.inl r]) rfl mw_X12_day lk_RL_100 (ok_M_day _ _) hm (Nat.le_of_ble_eq_true rfl) rfl (fun _ _ => rfl) rfl (Nat.le_of_ble_eq_true rfl) dL_law_884 ?_
  refine l_icmpeq_t (tgt := 2039) dL_law_887 (by decide) rfl ?_
  exact hn _ _ hR1
theorem law_19 (hst : STL Rel) (hL : L ≤ 3072) {i : Int} (hi : 0 ≤ i ∧ i + 6 ≤ (L : Int)) {σ τ : Sg} (hR : Rel σ τ) (hn : ∀ σ1 τ1, Rel σ1 τ1 → GL l L xs 2039 [some (.inr (.inr 0)), some (.inr (.inr 1)), some (.inr (.inr 2)), some (.inl i)] [] σ1 τ1) : GL l L xs 892 [some (.inr (.inr 0)), some (.inr (.inr 1)), some (.inr (.inr 2)), some (.inl i)] [] σ τ := by
  obtain ⟨r, σ1, τ1, hx, hm, hR1⟩ := hst 19 (fun j => (xs (Int.toNat (i + (j : Int)))).toInt) σ τ (by decide) (fun j => i32_c _) hR
  have hx : H_say ((xs (Int.toNat (i + 1))).toInt) ((xs (Int.toNat (i + 2))).toInt) ((xs (Int.toNat (i + 3))).toInt) σ = some (r, σ1) := hx
  have hm : M_say ((xs (Int.toNat (i + 1))).toInt) ((xs (Int.toNat (i + 2))).toInt) ((xs (Int.toNat (i + 3))).toInt) τ = some (r, τ1) := hm
  refine l_aload_n dL_law_892 rfl rfl ?_
  refine l_aload_n dL_law_893 rfl rfl ?_
  refine l_iload_n dL_law_894 rfl rfl ?_
  refine l_iconst dL_law_895 (by decide) ?_
  refine l_iadd (z := i + 1) dL_law_896 (by unfold w32; omega) ?_
  refine l_sld (by omega) dL_law_897 ?_
  refine l_aload_n dL_law_898 rfl rfl ?_
  refine l_iload_n dL_law_899 rfl rfl ?_
  refine l_iconst dL_law_900 (by decide) ?_
  refine l_iadd (z := i + 2) dL_law_901 (by unfold w32; omega) ?_
  refine l_sld (by omega) dL_law_902 ?_
  refine l_aload_n dL_law_903 rfl rfl ?_
  refine l_iload_n dL_law_904 rfl rfl ?_
  refine l_iconst dL_law_905 (by decide) ?_
  refine l_iadd (z := i + 3) dL_law_906 (by unfold w32; omega) ?_
  refine l_sld (by omega) dL_law_907 ?_
  refine l_callx (st := []) rfl mw_X11_say lk_RL_101 (ok_H_say _ _ _ _) hx (Nat.le_of_ble_eq_true rfl) rfl (fun _ _ => rfl) rfl (Nat.le_of_ble_eq_true rfl) dL_law_908 ?_
  refine l_aload_n dL_law_911 rfl rfl ?_
  refine l_aload_n dL_law_912 rfl rfl ?_
  refine l_iload_n dL_law_913 rfl rfl ?_
  refine l_iconst dL_law_914 (by decide) ?_
  refine l_iadd (z := i + 1) dL_law_915 (by unfold w32; omega) ?_
  refine l_sld (by omega) dL_law_916 ?_
  refine l_aload_n dL_law_917 rfl rfl ?_
  refine l_iload_n dL_law_918 rfl rfl ?_
  refine l_iconst dL_law_919 (by decide) ?_
  refine l_iadd (z := i + 2) dL_law_920 (by unfold w32; omega) ?_
  refine l_sld (by omega) dL_law_921 ?_
  refine l_aload_n dL_law_922 rfl rfl ?_
  refine l_iload_n dL_law_923 rfl rfl ?_
  refine l_iconst dL_law_924 (by decide) ?_
  refine l_iadd (z := i + 3) dL_law_925 (by unfold w32; omega) ?_
  refine l_sld (by omega) dL_law_926 ?_
  refine l_callm (st := [.inl r]) rfl mw_X12_say lk_RL_104 (ok_M_say _ _ _ _) hm (Nat.le_of_ble_eq_true rfl) rfl (fun _ _ => rfl) rfl (Nat.le_of_ble_eq_true rfl) dL_law_927 ?_
  refine l_icmpeq_t (tgt := 2039) dL_law_930 (by decide) rfl ?_
  exact hn _ _ hR1
theorem law_20 (hst : STL Rel) (hL : L ≤ 3072) {i : Int} (hi : 0 ≤ i ∧ i + 6 ≤ (L : Int)) {σ τ : Sg} (hR : Rel σ τ) (hn : ∀ σ1 τ1, Rel σ1 τ1 → GL l L xs 2039 [some (.inr (.inr 0)), some (.inr (.inr 1)), some (.inr (.inr 2)), some (.inl i)] [] σ1 τ1) : GL l L xs 935 [some (.inr (.inr 0)), some (.inr (.inr 1)), some (.inr (.inr 2)), some (.inl i)] [] σ τ := by
  obtain ⟨r, σ1, τ1, hx, hm, hR1⟩ := hst 20 (fun j => (xs (Int.toNat (i + (j : Int)))).toInt) σ τ (by decide) (fun j => i32_c _) hR
  have hx : H_keep ((xs (Int.toNat (i + 1))).toInt) ((xs (Int.toNat (i + 2))).toInt) σ = some (r, σ1) := hx
  have hm : M_keep ((xs (Int.toNat (i + 1))).toInt) ((xs (Int.toNat (i + 2))).toInt) τ = some (r, τ1) := hm
  refine l_aload_n dL_law_935 rfl rfl ?_
  refine l_aload_n dL_law_936 rfl rfl ?_
  refine l_iload_n dL_law_937 rfl rfl ?_
  refine l_iconst dL_law_938 (by decide) ?_
  refine l_iadd (z := i + 1) dL_law_939 (by unfold w32; omega) ?_
  refine l_sld (by omega) dL_law_940 ?_
  refine l_aload_n dL_law_941 rfl rfl ?_
  refine l_iload_n dL_law_942 rfl rfl ?_
  refine l_iconst dL_law_943 (by decide) ?_
  refine l_iadd (z := i + 2) dL_law_944 (by unfold w32; omega) ?_
  refine l_sld (by omega) dL_law_945 ?_
  refine l_callx (st := []) rfl mw_X11_keep lk_RL_105 (ok_H_keep _ _ _) hx (Nat.le_of_ble_eq_true rfl) rfl (fun _ _ => rfl) rfl (Nat.le_of_ble_eq_true rfl) dL_law_946 ?_
  refine l_aload_n dL_law_949 rfl rfl ?_
  refine l_aload_n dL_law_950 rfl rfl ?_
  refine l_iload_n dL_law_951 rfl rfl ?_
  refine l_iconst dL_law_952 (by decide) ?_
  refine l_iadd (z := i + 1) dL_law_953 (by unfold w32; omega) ?_
  refine l_sld (by omega) dL_law_954 ?_
  refine l_aload_n dL_law_955 rfl rfl ?_
  refine l_iload_n dL_law_956 rfl rfl ?_
  refine l_iconst dL_law_957 (by decide) ?_
  refine l_iadd (z := i + 2) dL_law_958 (by unfold w32; omega) ?_
  refine l_sld (by omega) dL_law_959 ?_
  refine l_callm (st := [.inl r]) rfl mw_X12_keep lk_RL_108 (ok_M_keep _ _ _) hm (Nat.le_of_ble_eq_true rfl) rfl (fun _ _ => rfl) rfl (Nat.le_of_ble_eq_true rfl) dL_law_960 ?_
  refine l_icmpeq_t (tgt := 2039) dL_law_963 (by decide) rfl ?_
  exact hn _ _ hR1
theorem law_21 (hst : STL Rel) (hL : L ≤ 3072) {i : Int} (hi : 0 ≤ i ∧ i + 6 ≤ (L : Int)) {σ τ : Sg} (hR : Rel σ τ) (hn : ∀ σ1 τ1, Rel σ1 τ1 → GL l L xs 2039 [some (.inr (.inr 0)), some (.inr (.inr 1)), some (.inr (.inr 2)), some (.inl i)] [] σ1 τ1) : GL l L xs 968 [some (.inr (.inr 0)), some (.inr (.inr 1)), some (.inr (.inr 2)), some (.inl i)] [] σ τ := by
  obtain ⟨r, σ1, τ1, hx, hm, hR1⟩ := hst 21 (fun j => (xs (Int.toNat (i + (j : Int)))).toInt) σ τ (by decide) (fun j => i32_c _) hR
  have hx : H_learn ((xs (Int.toNat (i + 1))).toInt) ((xs (Int.toNat (i + 2))).toInt) σ = some (r, σ1) := hx
  have hm : M_learn ((xs (Int.toNat (i + 1))).toInt) ((xs (Int.toNat (i + 2))).toInt) τ = some (r, τ1) := hm
  refine l_aload_n dL_law_968 rfl rfl ?_
  refine l_aload_n dL_law_969 rfl rfl ?_
  refine l_iload_n dL_law_970 rfl rfl ?_
  refine l_iconst dL_law_971 (by decide) ?_
  refine l_iadd (z := i + 1) dL_law_972 (by unfold w32; omega) ?_
  refine l_sld (by omega) dL_law_973 ?_
  refine l_aload_n dL_law_974 rfl rfl ?_
  refine l_iload_n dL_law_975 rfl rfl ?_
  refine l_iconst dL_law_976 (by decide) ?_
  refine l_iadd (z := i + 2) dL_law_977 (by unfold w32; omega) ?_
  refine l_sld (by omega) dL_law_978 ?_
  refine l_callx (st := []) rfl mw_X11_learn lk_RL_109 (ok_H_learn _ _ _) hx (Nat.le_of_ble_eq_true rfl) rfl (fun _ _ => rfl) rfl (Nat.le_of_ble_eq_true rfl) dL_law_979 ?_
  refine l_aload_n dL_law_982 rfl rfl ?_
  refine l_aload_n dL_law_983 rfl rfl ?_
  refine l_iload_n dL_law_984 rfl rfl ?_
  refine l_iconst dL_law_985 (by decide) ?_
  refine l_iadd (z := i + 1) dL_law_986 (by unfold w32; omega) ?_
  refine l_sld (by omega) dL_law_987 ?_
  refine l_aload_n dL_law_988 rfl rfl ?_
  refine l_iload_n dL_law_989 rfl rfl ?_
  refine l_iconst dL_law_990 (by decide) ?_
  refine l_iadd (z := i + 2) dL_law_991 (by unfold w32; omega) ?_
  refine l_sld (by omega) dL_law_992 ?_
  refine l_callm (st := [.inl r]) rfl mw_X12_learn lk_RL_112 (ok_M_learn _ _ _) hm (Nat.le_of_ble_eq_true rfl) rfl (fun _ _ => rfl) rfl (Nat.le_of_ble_eq_true rfl) dL_law_993 ?_
  refine l_icmpeq_t (tgt := 2039) dL_law_996 (by decide) rfl ?_
  exact hn _ _ hR1
theorem law_22 (hst : STL Rel) (hL : L ≤ 3072) {i : Int} (hi : 0 ≤ i ∧ i + 6 ≤ (L : Int)) {σ τ : Sg} (hR : Rel σ τ) (hn : ∀ σ1 τ1, Rel σ1 τ1 → GL l L xs 2039 [some (.inr (.inr 0)), some (.inr (.inr 1)), some (.inr (.inr 2)), some (.inl i)] [] σ1 τ1) : GL l L xs 1001 [some (.inr (.inr 0)), some (.inr (.inr 1)), some (.inr (.inr 2)), some (.inl i)] [] σ τ := by
  obtain ⟨r, σ1, τ1, hx, hm, hR1⟩ := hst 22 (fun j => (xs (Int.toNat (i + (j : Int)))).toInt) σ τ (by decide) (fun j => i32_c _) hR
  have hx : H_cut ((xs (Int.toNat (i + 1))).toInt) ((xs (Int.toNat (i + 2))).toInt) σ = some (r, σ1) := hx
  have hm : M_cut_ ((xs (Int.toNat (i + 1))).toInt) ((xs (Int.toNat (i + 2))).toInt) τ = some (r, τ1) := hm
  refine l_aload_n dL_law_1001 rfl rfl ?_
  refine l_aload_n dL_law_1002 rfl rfl ?_
  refine l_iload_n dL_law_1003 rfl rfl ?_
  refine l_iconst dL_law_1004 (by decide) ?_
  refine l_iadd (z := i + 1) dL_law_1005 (by unfold w32; omega) ?_
  refine l_sld (by omega) dL_law_1006 ?_
  refine l_aload_n dL_law_1007 rfl rfl ?_
  refine l_iload_n dL_law_1008 rfl rfl ?_
  refine l_iconst dL_law_1009 (by decide) ?_
  refine l_iadd (z := i + 2) dL_law_1010 (by unfold w32; omega) ?_
  refine l_sld (by omega) dL_law_1011 ?_
  refine l_callx (st := []) rfl mw_X11_cut lk_RL_113 (ok_H_cut _ _ _) hx (Nat.le_of_ble_eq_true rfl) rfl (fun _ _ => rfl) rfl (Nat.le_of_ble_eq_true rfl) dL_law_1012 ?_
  refine l_aload_n dL_law_1015 rfl rfl ?_
  refine l_aload_n dL_law_1016 rfl rfl ?_
  refine l_iload_n dL_law_1017 rfl rfl ?_
  refine l_iconst dL_law_1018 (by decide) ?_
  refine l_iadd (z := i + 1) dL_law_1019 (by unfold w32; omega) ?_
  refine l_sld (by omega) dL_law_1020 ?_
  refine l_aload_n dL_law_1021 rfl rfl ?_
  refine l_iload_n dL_law_1022 rfl rfl ?_
  refine l_iconst dL_law_1023 (by decide) ?_
  refine l_iadd (z := i + 2) dL_law_1024 (by unfold w32; omega) ?_
  refine l_sld (by omega) dL_law_1025 ?_
  refine l_callm (st := [.inl r]) rfl mw_X12_cut_ lk_RL_116 (ok_M_cut_ _ _ _) hm (Nat.le_of_ble_eq_true rfl) rfl (fun _ _ => rfl) rfl (Nat.le_of_ble_eq_true rfl) dL_law_1026 ?_
  refine l_icmpeq_t (tgt := 2039) dL_law_1029 (by decide) rfl ?_
  exact hn _ _ hR1
theorem law_23 (hst : STL Rel) (hL : L ≤ 3072) {i : Int} (hi : 0 ≤ i ∧ i + 6 ≤ (L : Int)) {σ τ : Sg} (hR : Rel σ τ) (hn : ∀ σ1 τ1, Rel σ1 τ1 → GL l L xs 2039 [some (.inr (.inr 0)), some (.inr (.inr 1)), some (.inr (.inr 2)), some (.inl i)] [] σ1 τ1) : GL l L xs 1034 [some (.inr (.inr 0)), some (.inr (.inr 1)), some (.inr (.inr 2)), some (.inl i)] [] σ τ := by
  obtain ⟨r, σ1, τ1, hx, hm, hR1⟩ := hst 23 (fun j => (xs (Int.toNat (i + (j : Int)))).toInt) σ τ (by decide) (fun j => i32_c _) hR
  have hx : H_train ((xs (Int.toNat (i + 1))).toInt) ((xs (Int.toNat (i + 2))).toInt) σ = some (r, σ1) := hx
  have hm : M_train ((xs (Int.toNat (i + 1))).toInt) ((xs (Int.toNat (i + 2))).toInt) τ = some (r, τ1) := hm
  refine l_aload_n dL_law_1034 rfl rfl ?_
  refine l_aload_n dL_law_1035 rfl rfl ?_
  refine l_iload_n dL_law_1036 rfl rfl ?_
  refine l_iconst dL_law_1037 (by decide) ?_
  refine l_iadd (z := i + 1) dL_law_1038 (by unfold w32; omega) ?_
  refine l_sld (by omega) dL_law_1039 ?_
  refine l_aload_n dL_law_1040 rfl rfl ?_
  refine l_iload_n dL_law_1041 rfl rfl ?_
  refine l_iconst dL_law_1042 (by decide) ?_
  refine l_iadd (z := i + 2) dL_law_1043 (by unfold w32; omega) ?_
  refine l_sld (by omega) dL_law_1044 ?_
  refine l_callx (st := []) rfl mw_X11_train lk_RL_117 (ok_H_train _ _ _) hx (Nat.le_of_ble_eq_true rfl) rfl (fun _ _ => rfl) rfl (Nat.le_of_ble_eq_true rfl) dL_law_1045 ?_
  refine l_aload_n dL_law_1048 rfl rfl ?_
  refine l_aload_n dL_law_1049 rfl rfl ?_
  refine l_iload_n dL_law_1050 rfl rfl ?_
  refine l_iconst dL_law_1051 (by decide) ?_
  refine l_iadd (z := i + 1) dL_law_1052 (by unfold w32; omega) ?_
  refine l_sld (by omega) dL_law_1053 ?_
  refine l_aload_n dL_law_1054 rfl rfl ?_
  refine l_iload_n dL_law_1055 rfl rfl ?_
  refine l_iconst dL_law_1056 (by decide) ?_
  refine l_iadd (z := i + 2) dL_law_1057 (by unfold w32; omega) ?_
  refine l_sld (by omega) dL_law_1058 ?_
  refine l_callm (st := [.inl r]) rfl mw_X12_train lk_RL_121 (ok_M_train _ _ _) hm (Nat.le_of_ble_eq_true rfl) rfl (fun _ _ => rfl) rfl (Nat.le_of_ble_eq_true rfl) dL_law_1059 ?_
  refine l_icmpeq_t (tgt := 2039) dL_law_1062 (by decide) rfl ?_
  exact hn _ _ hR1
theorem law_24 (hst : STL Rel) (hL : L ≤ 3072) {i : Int} (hi : 0 ≤ i ∧ i + 6 ≤ (L : Int)) {σ τ : Sg} (hR : Rel σ τ) (hn : ∀ σ1 τ1, Rel σ1 τ1 → GL l L xs 2039 [some (.inr (.inr 0)), some (.inr (.inr 1)), some (.inr (.inr 2)), some (.inl i)] [] σ1 τ1) : GL l L xs 1067 [some (.inr (.inr 0)), some (.inr (.inr 1)), some (.inr (.inr 2)), some (.inl i)] [] σ τ := by
  obtain ⟨r, σ1, τ1, hx, hm, hR1⟩ := hst 24 (fun j => (xs (Int.toNat (i + (j : Int)))).toInt) σ τ (by decide) (fun j => i32_c _) hR
  have hx : H_trade ((xs (Int.toNat (i + 1))).toInt) (if ((xs (Int.toNat (i + 2))).toInt) = 0 then 0 else 1) σ = some (r, σ1) := hx
  have hm : M_trade ((xs (Int.toNat (i + 1))).toInt) (if ((xs (Int.toNat (i + 2))).toInt) = 0 then 0 else 1) τ = some (r, τ1) := hm
  by_cases hz : (xs (Int.toNat (i + 2))).toInt = 0
  · rw [if_pos hz] at hx hm
    refine l_aload_n dL_law_1067 rfl rfl ?_
    refine l_aload_n dL_law_1068 rfl rfl ?_
    refine l_iload_n dL_law_1069 rfl rfl ?_
    refine l_iconst dL_law_1070 (by decide) ?_
    refine l_iadd (z := i + 1) dL_law_1071 (by unfold w32; omega) ?_
    refine l_sld (by omega) dL_law_1072 ?_
    refine l_aload_n dL_law_1073 rfl rfl ?_
    refine l_iload_n dL_law_1074 rfl rfl ?_
    refine l_iconst dL_law_1075 (by decide) ?_
    refine l_iadd (z := i + 2) dL_law_1076 (by unfold w32; omega) ?_
    refine l_sld (by omega) dL_law_1077 ?_
    refine l_ifeq_t (tgt := 1085) dL_law_1078 (by decide) hz ?_
    refine l_iconst dL_law_1085 (by decide) ?_
    refine l_callx (st := []) rfl mw_X11_trade lk_RL_122 (ok_H_trade _ _ _) hx (Nat.le_of_ble_eq_true rfl) rfl (fun _ _ => rfl) rfl (Nat.le_of_ble_eq_true rfl) dL_law_1086 ?_
    refine l_aload_n dL_law_1089 rfl rfl ?_
    refine l_aload_n dL_law_1090 rfl rfl ?_
    refine l_iload_n dL_law_1091 rfl rfl ?_
    refine l_iconst dL_law_1092 (by decide) ?_
    refine l_iadd (z := i + 1) dL_law_1093 (by unfold w32; omega) ?_
    refine l_sld (by omega) dL_law_1094 ?_
    refine l_aload_n dL_law_1095 rfl rfl ?_
    refine l_iload_n dL_law_1096 rfl rfl ?_
    refine l_iconst dL_law_1097 (by decide) ?_
    refine l_iadd (z := i + 2) dL_law_1098 (by unfold w32; omega) ?_
    refine l_sld (by omega) dL_law_1099 ?_
    refine l_ifeq_t (tgt := 1107) dL_law_1100 (by decide) hz ?_
    refine l_iconst dL_law_1107 (by decide) ?_
    refine l_callm (st := [.inl r]) rfl mw_X12_trade lk_RL_126 (ok_M_trade _ _ _) hm (Nat.le_of_ble_eq_true rfl) rfl (fun _ _ => rfl) rfl (Nat.le_of_ble_eq_true rfl) dL_law_1108 ?_
    refine l_icmpeq_t (tgt := 2039) dL_law_1111 (by decide) rfl ?_
    exact hn _ _ hR1
  · rw [if_neg hz] at hx hm
    refine l_aload_n dL_law_1067 rfl rfl ?_
    refine l_aload_n dL_law_1068 rfl rfl ?_
    refine l_iload_n dL_law_1069 rfl rfl ?_
    refine l_iconst dL_law_1070 (by decide) ?_
    refine l_iadd (z := i + 1) dL_law_1071 (by unfold w32; omega) ?_
    refine l_sld (by omega) dL_law_1072 ?_
    refine l_aload_n dL_law_1073 rfl rfl ?_
    refine l_iload_n dL_law_1074 rfl rfl ?_
    refine l_iconst dL_law_1075 (by decide) ?_
    refine l_iadd (z := i + 2) dL_law_1076 (by unfold w32; omega) ?_
    refine l_sld (by omega) dL_law_1077 ?_
    refine l_ifeq_f (tgt := 1085) dL_law_1078 (by decide) hz ?_
    refine l_iconst dL_law_1081 (by decide) ?_
    refine l_goto (tgt := 1086) dL_law_1082 (by decide) ?_
    refine l_callx (st := []) rfl mw_X11_trade lk_RL_122 (ok_H_trade _ _ _) hx (Nat.le_of_ble_eq_true rfl) rfl (fun _ _ => rfl) rfl (Nat.le_of_ble_eq_true rfl) dL_law_1086 ?_
    refine l_aload_n dL_law_1089 rfl rfl ?_
    refine l_aload_n dL_law_1090 rfl rfl ?_
    refine l_iload_n dL_law_1091 rfl rfl ?_
    refine l_iconst dL_law_1092 (by decide) ?_
    refine l_iadd (z := i + 1) dL_law_1093 (by unfold w32; omega) ?_
    refine l_sld (by omega) dL_law_1094 ?_
    refine l_aload_n dL_law_1095 rfl rfl ?_
    refine l_iload_n dL_law_1096 rfl rfl ?_
    refine l_iconst dL_law_1097 (by decide) ?_
    refine l_iadd (z := i + 2) dL_law_1098 (by unfold w32; omega) ?_
    refine l_sld (by omega) dL_law_1099 ?_
    refine l_ifeq_f (tgt := 1107) dL_law_1100 (by decide) hz ?_
    refine l_iconst dL_law_1103 (by decide) ?_
    refine l_goto (tgt := 1108) dL_law_1104 (by decide) ?_
    refine l_callm (st := [.inl r]) rfl mw_X12_trade lk_RL_126 (ok_M_trade _ _ _) hm (Nat.le_of_ble_eq_true rfl) rfl (fun _ _ => rfl) rfl (Nat.le_of_ble_eq_true rfl) dL_law_1108 ?_
    refine l_icmpeq_t (tgt := 2039) dL_law_1111 (by decide) rfl ?_
    exact hn _ _ hR1
theorem law_25 (hst : STL Rel) (hL : L ≤ 3072) {i : Int} (hi : 0 ≤ i ∧ i + 6 ≤ (L : Int)) {σ τ : Sg} (hR : Rel σ τ) (hn : ∀ σ1 τ1, Rel σ1 τ1 → GL l L xs 2039 [some (.inr (.inr 0)), some (.inr (.inr 1)), some (.inr (.inr 2)), some (.inl i)] [] σ1 τ1) : GL l L xs 1116 [some (.inr (.inr 0)), some (.inr (.inr 1)), some (.inr (.inr 2)), some (.inl i)] [] σ τ := by
  obtain ⟨r, σ1, τ1, hx, hm, hR1⟩ := hst 25 (fun j => (xs (Int.toNat (i + (j : Int)))).toInt) σ τ (by decide) (fun j => i32_c _) hR
  have hx : H_rule ((xs (Int.toNat (i + 1))).toInt) ((xs (Int.toNat (i + 2))).toInt) σ = some (r, σ1) := hx
  have hm : M_rule ((xs (Int.toNat (i + 1))).toInt) ((xs (Int.toNat (i + 2))).toInt) τ = some (r, τ1) := hm
  refine l_aload_n dL_law_1116 rfl rfl ?_
  refine l_aload_n dL_law_1117 rfl rfl ?_
  refine l_iload_n dL_law_1118 rfl rfl ?_
  refine l_iconst dL_law_1119 (by decide) ?_
  refine l_iadd (z := i + 1) dL_law_1120 (by unfold w32; omega) ?_
  refine l_sld (by omega) dL_law_1121 ?_
  refine l_aload_n dL_law_1122 rfl rfl ?_
  refine l_iload_n dL_law_1123 rfl rfl ?_
  refine l_iconst dL_law_1124 (by decide) ?_
  refine l_iadd (z := i + 2) dL_law_1125 (by unfold w32; omega) ?_
  refine l_sld (by omega) dL_law_1126 ?_
  refine l_callx (st := []) rfl mw_X11_rule lk_RL_127 (ok_H_rule _ _ _) hx (Nat.le_of_ble_eq_true rfl) rfl (fun _ _ => rfl) rfl (Nat.le_of_ble_eq_true rfl) dL_law_1127 ?_
  refine l_aload_n dL_law_1130 rfl rfl ?_
  refine l_aload_n dL_law_1131 rfl rfl ?_
  refine l_iload_n dL_law_1132 rfl rfl ?_
  refine l_iconst dL_law_1133 (by decide) ?_
  refine l_iadd (z := i + 1) dL_law_1134 (by unfold w32; omega) ?_
  refine l_sld (by omega) dL_law_1135 ?_
  refine l_aload_n dL_law_1136 rfl rfl ?_
  refine l_iload_n dL_law_1137 rfl rfl ?_
  refine l_iconst dL_law_1138 (by decide) ?_
  refine l_iadd (z := i + 2) dL_law_1139 (by unfold w32; omega) ?_
  refine l_sld (by omega) dL_law_1140 ?_
  refine l_callm (st := [.inl r]) rfl mw_X12_rule lk_RL_130 (ok_M_rule _ _ _) hm (Nat.le_of_ble_eq_true rfl) rfl (fun _ _ => rfl) rfl (Nat.le_of_ble_eq_true rfl) dL_law_1141 ?_
  refine l_icmpeq_t (tgt := 2039) dL_law_1144 (by decide) rfl ?_
  exact hn _ _ hR1
theorem law_26 (hst : STL Rel) (hL : L ≤ 3072) {i : Int} (hi : 0 ≤ i ∧ i + 6 ≤ (L : Int)) {σ τ : Sg} (hR : Rel σ τ) (hn : ∀ σ1 τ1, Rel σ1 τ1 → GL l L xs 2039 [some (.inr (.inr 0)), some (.inr (.inr 1)), some (.inr (.inr 2)), some (.inl i)] [] σ1 τ1) : GL l L xs 1149 [some (.inr (.inr 0)), some (.inr (.inr 1)), some (.inr (.inr 2)), some (.inl i)] [] σ τ := by
  obtain ⟨r, σ1, τ1, hx, hm, hR1⟩ := hst 26 (fun j => (xs (Int.toNat (i + (j : Int)))).toInt) σ τ (by decide) (fun j => i32_c _) hR
  have hx : H_invite ((xs (Int.toNat (i + 1))).toInt) ((xs (Int.toNat (i + 2))).toInt) ((xs (Int.toNat (i + 3))).toInt) σ = some (r, σ1) := hx
  have hm : M_invite ((xs (Int.toNat (i + 1))).toInt) ((xs (Int.toNat (i + 2))).toInt) ((xs (Int.toNat (i + 3))).toInt) τ = some (r, τ1) := hm
  refine l_aload_n dL_law_1149 rfl rfl ?_
  refine l_aload_n dL_law_1150 rfl rfl ?_
  refine l_iload_n dL_law_1151 rfl rfl ?_
  refine l_iconst dL_law_1152 (by decide) ?_
  refine l_iadd (z := i + 1) dL_law_1153 (by unfold w32; omega) ?_
  refine l_sld (by omega) dL_law_1154 ?_
  refine l_aload_n dL_law_1155 rfl rfl ?_
  refine l_iload_n dL_law_1156 rfl rfl ?_
  refine l_iconst dL_law_1157 (by decide) ?_
  refine l_iadd (z := i + 2) dL_law_1158 (by unfold w32; omega) ?_
  refine l_sld (by omega) dL_law_1159 ?_
  refine l_aload_n dL_law_1160 rfl rfl ?_
  refine l_iload_n dL_law_1161 rfl rfl ?_
  refine l_iconst dL_law_1162 (by decide) ?_
  refine l_iadd (z := i + 3) dL_law_1163 (by unfold w32; omega) ?_
  refine l_sld (by omega) dL_law_1164 ?_
  refine l_callx (st := []) rfl mw_X11_invite lk_RL_131 (ok_H_invite _ _ _ _) hx (Nat.le_of_ble_eq_true rfl) rfl (fun _ _ => rfl) rfl (Nat.le_of_ble_eq_true rfl) dL_law_1165 ?_
  refine l_aload_n dL_law_1168 rfl rfl ?_
  refine l_aload_n dL_law_1169 rfl rfl ?_
  refine l_iload_n dL_law_1170 rfl rfl ?_
  refine l_iconst dL_law_1171 (by decide) ?_
  refine l_iadd (z := i + 1) dL_law_1172 (by unfold w32; omega) ?_
  refine l_sld (by omega) dL_law_1173 ?_
  refine l_aload_n dL_law_1174 rfl rfl ?_
  refine l_iload_n dL_law_1175 rfl rfl ?_
  refine l_iconst dL_law_1176 (by decide) ?_
  refine l_iadd (z := i + 2) dL_law_1177 (by unfold w32; omega) ?_
  refine l_sld (by omega) dL_law_1178 ?_
  refine l_aload_n dL_law_1179 rfl rfl ?_
  refine l_iload_n dL_law_1180 rfl rfl ?_
  refine l_iconst dL_law_1181 (by decide) ?_
  refine l_iadd (z := i + 3) dL_law_1182 (by unfold w32; omega) ?_
  refine l_sld (by omega) dL_law_1183 ?_
  refine l_callm (st := [.inl r]) rfl mw_X12_invite lk_RL_134 (ok_M_invite _ _ _ _) hm (Nat.le_of_ble_eq_true rfl) rfl (fun _ _ => rfl) rfl (Nat.le_of_ble_eq_true rfl) dL_law_1184 ?_
  refine l_icmpeq_t (tgt := 2039) dL_law_1187 (by decide) rfl ?_
  exact hn _ _ hR1
theorem law_27 (hst : STL Rel) (hL : L ≤ 3072) {i : Int} (hi : 0 ≤ i ∧ i + 6 ≤ (L : Int)) {σ τ : Sg} (hR : Rel σ τ) (hn : ∀ σ1 τ1, Rel σ1 τ1 → GL l L xs 2039 [some (.inr (.inr 0)), some (.inr (.inr 1)), some (.inr (.inr 2)), some (.inl i)] [] σ1 τ1) : GL l L xs 1192 [some (.inr (.inr 0)), some (.inr (.inr 1)), some (.inr (.inr 2)), some (.inl i)] [] σ τ := by
  obtain ⟨r, σ1, τ1, hx, hm, hR1⟩ := hst 27 (fun j => (xs (Int.toNat (i + (j : Int)))).toInt) σ τ (by decide) (fun j => i32_c _) hR
  have hx : H_cancel σ = some (r, σ1) := hx
  have hm : M_cancel τ = some (r, τ1) := hm
  refine l_aload_n dL_law_1192 rfl rfl ?_
  refine l_callx (st := []) rfl mw_X11_cancel lk_RL_135 (ok_H_cancel  _) hx (Nat.le_of_ble_eq_true rfl) rfl (fun _ _ => rfl) rfl (Nat.le_of_ble_eq_true rfl) dL_law_1193 ?_
  refine l_aload_n dL_law_1196 rfl rfl ?_
  refine l_callm (st := [.inl r]) rfl mw_X12_cancel lk_RL_138 (ok_M_cancel  _) hm (Nat.le_of_ble_eq_true rfl) rfl (fun _ _ => rfl) rfl (Nat.le_of_ble_eq_true rfl) dL_law_1197 ?_
  refine l_icmpeq_t (tgt := 2039) dL_law_1200 (by decide) rfl ?_
  exact hn _ _ hR1
theorem law_28 (hst : STL Rel) (hL : L ≤ 3072) {i : Int} (hi : 0 ≤ i ∧ i + 6 ≤ (L : Int)) {σ τ : Sg} (hR : Rel σ τ) (hn : ∀ σ1 τ1, Rel σ1 τ1 → GL l L xs 2039 [some (.inr (.inr 0)), some (.inr (.inr 1)), some (.inr (.inr 2)), some (.inl i)] [] σ1 τ1) : GL l L xs 1205 [some (.inr (.inr 0)), some (.inr (.inr 1)), some (.inr (.inr 2)), some (.inl i)] [] σ τ := by
  obtain ⟨r, σ1, τ1, hx, hm, hR1⟩ := hst 28 (fun j => (xs (Int.toNat (i + (j : Int)))).toInt) σ τ (by decide) (fun j => i32_c _) hR
  have hx : H_hairIn ((xs (Int.toNat (i + 1))).toInt) ((xs (Int.toNat (i + 2))).toInt) σ = some (r, σ1) := hx
  have hm : M_hairIn ((xs (Int.toNat (i + 1))).toInt) ((xs (Int.toNat (i + 2))).toInt) τ = some (r, τ1) := hm
  refine l_aload_n dL_law_1205 rfl rfl ?_
  refine l_aload_n dL_law_1206 rfl rfl ?_
  refine l_iload_n dL_law_1207 rfl rfl ?_
  refine l_iconst dL_law_1208 (by decide) ?_
  refine l_iadd (z := i + 1) dL_law_1209 (by unfold w32; omega) ?_
  refine l_sld (by omega) dL_law_1210 ?_
  refine l_aload_n dL_law_1211 rfl rfl ?_
  refine l_iload_n dL_law_1212 rfl rfl ?_
  refine l_iconst dL_law_1213 (by decide) ?_
  refine l_iadd (z := i + 2) dL_law_1214 (by unfold w32; omega) ?_
  refine l_sld (by omega) dL_law_1215 ?_
  refine l_callx (st := []) rfl mw_X11_hairIn lk_RL_139 (ok_H_hairIn _ _ _) hx (Nat.le_of_ble_eq_true rfl) rfl (fun _ _ => rfl) rfl (Nat.le_of_ble_eq_true rfl) dL_law_1216 ?_
  refine l_aload_n dL_law_1219 rfl rfl ?_
  refine l_aload_n dL_law_1220 rfl rfl ?_
  refine l_iload_n dL_law_1221 rfl rfl ?_
  refine l_iconst dL_law_1222 (by decide) ?_
  refine l_iadd (z := i + 1) dL_law_1223 (by unfold w32; omega) ?_
  refine l_sld (by omega) dL_law_1224 ?_
  refine l_aload_n dL_law_1225 rfl rfl ?_
  refine l_iload_n dL_law_1226 rfl rfl ?_
  refine l_iconst dL_law_1227 (by decide) ?_
  refine l_iadd (z := i + 2) dL_law_1228 (by unfold w32; omega) ?_
  refine l_sld (by omega) dL_law_1229 ?_
  refine l_callm (st := [.inl r]) rfl mw_X12_hairIn lk_RL_142 (ok_M_hairIn _ _ _) hm (Nat.le_of_ble_eq_true rfl) rfl (fun _ _ => rfl) rfl (Nat.le_of_ble_eq_true rfl) dL_law_1230 ?_
  refine l_icmpeq_t (tgt := 2039) dL_law_1233 (by decide) rfl ?_
  exact hn _ _ hR1
theorem law_29 (hst : STL Rel) (hL : L ≤ 3072) {i : Int} (hi : 0 ≤ i ∧ i + 6 ≤ (L : Int)) {σ τ : Sg} (hR : Rel σ τ) (hn : ∀ σ1 τ1, Rel σ1 τ1 → GL l L xs 2039 [some (.inr (.inr 0)), some (.inr (.inr 1)), some (.inr (.inr 2)), some (.inl i)] [] σ1 τ1) : GL l L xs 1238 [some (.inr (.inr 0)), some (.inr (.inr 1)), some (.inr (.inr 2)), some (.inl i)] [] σ τ := by
  obtain ⟨r, σ1, τ1, hx, hm, hR1⟩ := hst 29 (fun j => (xs (Int.toNat (i + (j : Int)))).toInt) σ τ (by decide) (fun j => i32_c _) hR
  have hx : H_knownIn ((xs (Int.toNat (i + 1))).toInt) ((xs (Int.toNat (i + 2))).toInt) σ = some (r, σ1) := hx
  have hm : M_knownIn ((xs (Int.toNat (i + 1))).toInt) ((xs (Int.toNat (i + 2))).toInt) τ = some (r, τ1) := hm
  refine l_aload_n dL_law_1238 rfl rfl ?_
  refine l_aload_n dL_law_1239 rfl rfl ?_
  refine l_iload_n dL_law_1240 rfl rfl ?_
  refine l_iconst dL_law_1241 (by decide) ?_
  refine l_iadd (z := i + 1) dL_law_1242 (by unfold w32; omega) ?_
  refine l_sld (by omega) dL_law_1243 ?_
  refine l_aload_n dL_law_1244 rfl rfl ?_
  refine l_iload_n dL_law_1245 rfl rfl ?_
  refine l_iconst dL_law_1246 (by decide) ?_
  refine l_iadd (z := i + 2) dL_law_1247 (by unfold w32; omega) ?_
  refine l_sld (by omega) dL_law_1248 ?_
  refine l_callx (st := []) rfl mw_X11_knownIn lk_RL_143 (ok_H_knownIn _ _ _) hx (Nat.le_of_ble_eq_true rfl) rfl (fun _ _ => rfl) rfl (Nat.le_of_ble_eq_true rfl) dL_law_1249 ?_
  refine l_aload_n dL_law_1252 rfl rfl ?_
  refine l_aload_n dL_law_1253 rfl rfl ?_
  refine l_iload_n dL_law_1254 rfl rfl ?_
  refine l_iconst dL_law_1255 (by decide) ?_
  refine l_iadd (z := i + 1) dL_law_1256 (by unfold w32; omega) ?_
  refine l_sld (by omega) dL_law_1257 ?_
  refine l_aload_n dL_law_1258 rfl rfl ?_
  refine l_iload_n dL_law_1259 rfl rfl ?_
  refine l_iconst dL_law_1260 (by decide) ?_
  refine l_iadd (z := i + 2) dL_law_1261 (by unfold w32; omega) ?_
  refine l_sld (by omega) dL_law_1262 ?_
  refine l_callm (st := [.inl r]) rfl mw_X12_knownIn lk_RL_146 (ok_M_knownIn _ _ _) hm (Nat.le_of_ble_eq_true rfl) rfl (fun _ _ => rfl) rfl (Nat.le_of_ble_eq_true rfl) dL_law_1263 ?_
  refine l_icmpeq_t (tgt := 2039) dL_law_1266 (by decide) rfl ?_
  exact hn _ _ hR1
theorem law_30 (hst : STL Rel) (hL : L ≤ 3072) {i : Int} (hi : 0 ≤ i ∧ i + 6 ≤ (L : Int)) {σ τ : Sg} (hR : Rel σ τ) (hn : ∀ σ1 τ1, Rel σ1 τ1 → GL l L xs 2039 [some (.inr (.inr 0)), some (.inr (.inr 1)), some (.inr (.inr 2)), some (.inl i)] [] σ1 τ1) : GL l L xs 1271 [some (.inr (.inr 0)), some (.inr (.inr 1)), some (.inr (.inr 2)), some (.inl i)] [] σ τ := by
  obtain ⟨r, σ1, τ1, hx, hm, hR1⟩ := hst 30 (fun j => (xs (Int.toNat (i + (j : Int)))).toInt) σ τ (by decide) (fun j => i32_c _) hR
  have hx : H_out ((xs (Int.toNat (i + 1))).toInt) σ = some (r, σ1) := hx
  have hm : M_out ((xs (Int.toNat (i + 1))).toInt) τ = some (r, τ1) := hm
  refine l_aload_n dL_law_1271 rfl rfl ?_
  refine l_aload_n dL_law_1272 rfl rfl ?_
  refine l_iload_n dL_law_1273 rfl rfl ?_
  refine l_iconst dL_law_1274 (by decide) ?_
  refine l_iadd (z := i + 1) dL_law_1275 (by unfold w32; omega) ?_
  refine l_sld (by omega) dL_law_1276 ?_
  refine l_callx (st := []) rfl mw_X11_out lk_RL_147 (ok_H_out _ _) hx (Nat.le_of_ble_eq_true rfl) rfl (fun _ _ => rfl) rfl (Nat.le_of_ble_eq_true rfl) dL_law_1277 ?_
  refine l_aload_n dL_law_1280 rfl rfl ?_
  refine l_aload_n dL_law_1281 rfl rfl ?_
  refine l_iload_n dL_law_1282 rfl rfl ?_
  refine l_iconst dL_law_1283 (by decide) ?_
  refine l_iadd (z := i + 1) dL_law_1284 (by unfold w32; omega) ?_
  refine l_sld (by omega) dL_law_1285 ?_
  refine l_callm (st := [.inl r]) rfl mw_X12_out lk_RL_150 (ok_M_out _ _) hm (Nat.le_of_ble_eq_true rfl) rfl (fun _ _ => rfl) rfl (Nat.le_of_ble_eq_true rfl) dL_law_1286 ?_
  refine l_icmpeq_t (tgt := 2039) dL_law_1289 (by decide) rfl ?_
  exact hn _ _ hR1
theorem law_31 (hst : STL Rel) (hL : L ≤ 3072) {i : Int} (hi : 0 ≤ i ∧ i + 6 ≤ (L : Int)) {σ τ : Sg} (hR : Rel σ τ) (hn : ∀ σ1 τ1, Rel σ1 τ1 → GL l L xs 2039 [some (.inr (.inr 0)), some (.inr (.inr 1)), some (.inr (.inr 2)), some (.inl i)] [] σ1 τ1) : GL l L xs 1294 [some (.inr (.inr 0)), some (.inr (.inr 1)), some (.inr (.inr 2)), some (.inl i)] [] σ τ := by
  obtain ⟨r, σ1, τ1, hx, hm, hR1⟩ := hst 31 (fun j => (xs (Int.toNat (i + (j : Int)))).toInt) σ τ (by decide) (fun j => i32_c _) hR
  have hx : H_learnsIn ((xs (Int.toNat (i + 1))).toInt) ((xs (Int.toNat (i + 2))).toInt) σ = some (r, σ1) := hx
  have hm : M_learnsIn ((xs (Int.toNat (i + 1))).toInt) ((xs (Int.toNat (i + 2))).toInt) τ = some (r, τ1) := hm
  refine l_aload_n dL_law_1294 rfl rfl ?_
  refine l_aload_n dL_law_1295 rfl rfl ?_
  refine l_iload_n dL_law_1296 rfl rfl ?_
  refine l_iconst dL_law_1297 (by decide) ?_
  refine l_iadd (z := i + 1) dL_law_1298 (by unfold w32; omega) ?_
  refine l_sld (by omega) dL_law_1299 ?_
  refine l_aload_n dL_law_1300 rfl rfl ?_
  refine l_iload_n dL_law_1301 rfl rfl ?_
  refine l_iconst dL_law_1302 (by decide) ?_
  refine l_iadd (z := i + 2) dL_law_1303 (by unfold w32; omega) ?_
  refine l_sld (by omega) dL_law_1304 ?_
  refine l_callx (st := []) rfl mw_X11_learnsIn lk_RL_151 (ok_H_learnsIn _ _ _) hx (Nat.le_of_ble_eq_true rfl) rfl (fun _ _ => rfl) rfl (Nat.le_of_ble_eq_true rfl) dL_law_1305 ?_
  refine l_aload_n dL_law_1308 rfl rfl ?_
  refine l_aload_n dL_law_1309 rfl rfl ?_
  refine l_iload_n dL_law_1310 rfl rfl ?_
  refine l_iconst dL_law_1311 (by decide) ?_
  refine l_iadd (z := i + 1) dL_law_1312 (by unfold w32; omega) ?_
  refine l_sld (by omega) dL_law_1313 ?_
  refine l_aload_n dL_law_1314 rfl rfl ?_
  refine l_iload_n dL_law_1315 rfl rfl ?_
  refine l_iconst dL_law_1316 (by decide) ?_
  refine l_iadd (z := i + 2) dL_law_1317 (by unfold w32; omega) ?_
  refine l_sld (by omega) dL_law_1318 ?_
  refine l_callm (st := [.inl r]) rfl mw_X12_learnsIn lk_RL_154 (ok_M_learnsIn _ _ _) hm (Nat.le_of_ble_eq_true rfl) rfl (fun _ _ => rfl) rfl (Nat.le_of_ble_eq_true rfl) dL_law_1319 ?_
  refine l_icmpeq_t (tgt := 2039) dL_law_1322 (by decide) rfl ?_
  exact hn _ _ hR1
theorem law_32 (hst : STL Rel) (hL : L ≤ 3072) {i : Int} (hi : 0 ≤ i ∧ i + 6 ≤ (L : Int)) {σ τ : Sg} (hR : Rel σ τ) (hn : ∀ σ1 τ1, Rel σ1 τ1 → GL l L xs 2039 [some (.inr (.inr 0)), some (.inr (.inr 1)), some (.inr (.inr 2)), some (.inl i)] [] σ1 τ1) : GL l L xs 1327 [some (.inr (.inr 0)), some (.inr (.inr 1)), some (.inr (.inr 2)), some (.inl i)] [] σ τ := by
  obtain ⟨r, σ1, τ1, hx, hm, hR1⟩ := hst 32 (fun j => (xs (Int.toNat (i + (j : Int)))).toInt) σ τ (by decide) (fun j => i32_c _) hR
  have hx : H_wildIn ((xs (Int.toNat (i + 1))).toInt) σ = some (r, σ1) := hx
  have hm : M_wildIn ((xs (Int.toNat (i + 1))).toInt) τ = some (r, τ1) := hm
  refine l_aload_n dL_law_1327 rfl rfl ?_
  refine l_aload_n dL_law_1328 rfl rfl ?_
  refine l_iload_n dL_law_1329 rfl rfl ?_
  refine l_iconst dL_law_1330 (by decide) ?_
  refine l_iadd (z := i + 1) dL_law_1331 (by unfold w32; omega) ?_
  refine l_sld (by omega) dL_law_1332 ?_
  refine l_callx (st := []) rfl mw_X11_wildIn lk_RL_155 (ok_H_wildIn _ _) hx (Nat.le_of_ble_eq_true rfl) rfl (fun _ _ => rfl) rfl (Nat.le_of_ble_eq_true rfl) dL_law_1333 ?_
  refine l_aload_n dL_law_1336 rfl rfl ?_
  refine l_aload_n dL_law_1337 rfl rfl ?_
  refine l_iload_n dL_law_1338 rfl rfl ?_
  refine l_iconst dL_law_1339 (by decide) ?_
  refine l_iadd (z := i + 1) dL_law_1340 (by unfold w32; omega) ?_
  refine l_sld (by omega) dL_law_1341 ?_
  refine l_callm (st := [.inl r]) rfl mw_X12_wildIn lk_RL_158 (ok_M_wildIn _ _) hm (Nat.le_of_ble_eq_true rfl) rfl (fun _ _ => rfl) rfl (Nat.le_of_ble_eq_true rfl) dL_law_1342 ?_
  refine l_icmpeq_t (tgt := 2039) dL_law_1345 (by decide) rfl ?_
  exact hn _ _ hR1
theorem law_33 (hst : STL Rel) (hL : L ≤ 3072) {i : Int} (hi : 0 ≤ i ∧ i + 6 ≤ (L : Int)) {σ τ : Sg} (hR : Rel σ τ) (hn : ∀ σ1 τ1, Rel σ1 τ1 → GL l L xs 2039 [some (.inr (.inr 0)), some (.inr (.inr 1)), some (.inr (.inr 2)), some (.inl i)] [] σ1 τ1) : GL l L xs 1350 [some (.inr (.inr 0)), some (.inr (.inr 1)), some (.inr (.inr 2)), some (.inl i)] [] σ τ := by
  obtain ⟨r, σ1, τ1, hx, hm, hR1⟩ := hst 33 (fun j => (xs (Int.toNat (i + (j : Int)))).toInt) σ τ (by decide) (fun j => i32_c _) hR
  have hx : H_dinesIn ((xs (Int.toNat (i + 1))).toInt) σ = some (r, σ1) := hx
  have hm : M_dinesIn ((xs (Int.toNat (i + 1))).toInt) τ = some (r, τ1) := hm
  refine l_aload_n dL_law_1350 rfl rfl ?_
  refine l_aload_n dL_law_1351 rfl rfl ?_
  refine l_iload_n dL_law_1352 rfl rfl ?_
  refine l_iconst dL_law_1353 (by decide) ?_
  refine l_iadd (z := i + 1) dL_law_1354 (by unfold w32; omega) ?_
  refine l_sld (by omega) dL_law_1355 ?_
  refine l_callx (st := []) rfl mw_X11_dinesIn lk_RL_159 (ok_H_dinesIn _ _) hx (Nat.le_of_ble_eq_true rfl) rfl (fun _ _ => rfl) rfl (Nat.le_of_ble_eq_true rfl) dL_law_1356 ?_
  refine l_aload_n dL_law_1359 rfl rfl ?_
  refine l_aload_n dL_law_1360 rfl rfl ?_
  refine l_iload_n dL_law_1361 rfl rfl ?_
  refine l_iconst dL_law_1362 (by decide) ?_
  refine l_iadd (z := i + 1) dL_law_1363 (by unfold w32; omega) ?_
  refine l_sld (by omega) dL_law_1364 ?_
  refine l_callm (st := [.inl r]) rfl mw_X12_dinesIn lk_RL_162 (ok_M_dinesIn _ _) hm (Nat.le_of_ble_eq_true rfl) rfl (fun _ _ => rfl) rfl (Nat.le_of_ble_eq_true rfl) dL_law_1365 ?_
  refine l_icmpeq_t (tgt := 2039) dL_law_1368 (by decide) rfl ?_
  exact hn _ _ hR1
theorem law_34 (hst : STL Rel) (hL : L ≤ 3072) {i : Int} (hi : 0 ≤ i ∧ i + 6 ≤ (L : Int)) {σ τ : Sg} (hR : Rel σ τ) (hn : ∀ σ1 τ1, Rel σ1 τ1 → GL l L xs 2039 [some (.inr (.inr 0)), some (.inr (.inr 1)), some (.inr (.inr 2)), some (.inl i)] [] σ1 τ1) : GL l L xs 1373 [some (.inr (.inr 0)), some (.inr (.inr 1)), some (.inr (.inr 2)), some (.inl i)] [] σ τ := by
  obtain ⟨r, σ1, τ1, hx, hm, hR1⟩ := hst 34 (fun j => (xs (Int.toNat (i + (j : Int)))).toInt) σ τ (by decide) (fun j => i32_c _) hR
  have hx : H_quiet ((xs (Int.toNat (i + 1))).toInt) ((xs (Int.toNat (i + 2))).toInt) σ = some (r, σ1) := hx
  have hm : M_quiet ((xs (Int.toNat (i + 1))).toInt) ((xs (Int.toNat (i + 2))).toInt) τ = some (r, τ1) := hm
  refine l_aload_n dL_law_1373 rfl rfl ?_
  refine l_aload_n dL_law_1374 rfl rfl ?_
  refine l_iload_n dL_law_1375 rfl rfl ?_
  refine l_iconst dL_law_1376 (by decide) ?_
  refine l_iadd (z := i + 1) dL_law_1377 (by unfold w32; omega) ?_
  refine l_sld (by omega) dL_law_1378 ?_
  refine l_aload_n dL_law_1379 rfl rfl ?_
  refine l_iload_n dL_law_1380 rfl rfl ?_
  refine l_iconst dL_law_1381 (by decide) ?_
  refine l_iadd (z := i + 2) dL_law_1382 (by unfold w32; omega) ?_
  refine l_sld (by omega) dL_law_1383 ?_
  refine l_callx (st := []) rfl mw_X11_quiet lk_RL_163 (ok_H_quiet _ _ _) hx (Nat.le_of_ble_eq_true rfl) rfl (fun _ _ => rfl) rfl (Nat.le_of_ble_eq_true rfl) dL_law_1384 ?_
  refine l_aload_n dL_law_1387 rfl rfl ?_
  refine l_aload_n dL_law_1388 rfl rfl ?_
  refine l_iload_n dL_law_1389 rfl rfl ?_
  refine l_iconst dL_law_1390 (by decide) ?_
  refine l_iadd (z := i + 1) dL_law_1391 (by unfold w32; omega) ?_
  refine l_sld (by omega) dL_law_1392 ?_
  refine l_aload_n dL_law_1393 rfl rfl ?_
  refine l_iload_n dL_law_1394 rfl rfl ?_
  refine l_iconst dL_law_1395 (by decide) ?_
  refine l_iadd (z := i + 2) dL_law_1396 (by unfold w32; omega) ?_
  refine l_sld (by omega) dL_law_1397 ?_
  refine l_callm (st := [.inl r]) rfl mw_X12_quiet lk_RL_166 (ok_M_quiet _ _ _) hm (Nat.le_of_ble_eq_true rfl) rfl (fun _ _ => rfl) rfl (Nat.le_of_ble_eq_true rfl) dL_law_1398 ?_
  refine l_icmpeq_t (tgt := 2039) dL_law_1401 (by decide) rfl ?_
  exact hn _ _ hR1
theorem law_35 (hst : STL Rel) (hL : L ≤ 3072) {i : Int} (hi : 0 ≤ i ∧ i + 6 ≤ (L : Int)) {σ τ : Sg} (hR : Rel σ τ) (hn : ∀ σ1 τ1, Rel σ1 τ1 → GL l L xs 2039 [some (.inr (.inr 0)), some (.inr (.inr 1)), some (.inr (.inr 2)), some (.inl i)] [] σ1 τ1) : GL l L xs 1406 [some (.inr (.inr 0)), some (.inr (.inr 1)), some (.inr (.inr 2)), some (.inl i)] [] σ τ := by
  obtain ⟨r, σ1, τ1, hx, hm, hR1⟩ := hst 35 (fun j => (xs (Int.toNat (i + (j : Int)))).toInt) σ τ (by decide) (fun j => i32_c _) hR
  have hx : H_quietHair ((xs (Int.toNat (i + 1))).toInt) ((xs (Int.toNat (i + 2))).toInt) σ = some (r, σ1) := hx
  have hm : M_quietHair ((xs (Int.toNat (i + 1))).toInt) ((xs (Int.toNat (i + 2))).toInt) τ = some (r, τ1) := hm
  refine l_aload_n dL_law_1406 rfl rfl ?_
  refine l_aload_n dL_law_1407 rfl rfl ?_
  refine l_iload_n dL_law_1408 rfl rfl ?_
  refine l_iconst dL_law_1409 (by decide) ?_
  refine l_iadd (z := i + 1) dL_law_1410 (by unfold w32; omega) ?_
  refine l_sld (by omega) dL_law_1411 ?_
  refine l_aload_n dL_law_1412 rfl rfl ?_
  refine l_iload_n dL_law_1413 rfl rfl ?_
  refine l_iconst dL_law_1414 (by decide) ?_
  refine l_iadd (z := i + 2) dL_law_1415 (by unfold w32; omega) ?_
  refine l_sld (by omega) dL_law_1416 ?_
  refine l_callx (st := []) rfl mw_X11_quietHair lk_RL_167 (ok_H_quietHair _ _ _) hx (Nat.le_of_ble_eq_true rfl) rfl (fun _ _ => rfl) rfl (Nat.le_of_ble_eq_true rfl) dL_law_1417 ?_
  refine l_aload_n dL_law_1420 rfl rfl ?_
  refine l_aload_n dL_law_1421 rfl rfl ?_
  refine l_iload_n dL_law_1422 rfl rfl ?_
  refine l_iconst dL_law_1423 (by decide) ?_
  refine l_iadd (z := i + 1) dL_law_1424 (by unfold w32; omega) ?_
  refine l_sld (by omega) dL_law_1425 ?_
  refine l_aload_n dL_law_1426 rfl rfl ?_
  refine l_iload_n dL_law_1427 rfl rfl ?_
  refine l_iconst dL_law_1428 (by decide) ?_
  refine l_iadd (z := i + 2) dL_law_1429 (by unfold w32; omega) ?_
  refine l_sld (by omega) dL_law_1430 ?_
  refine l_callm (st := [.inl r]) rfl mw_X12_quietHair lk_RL_170 (ok_M_quietHair _ _ _) hm (Nat.le_of_ble_eq_true rfl) rfl (fun _ _ => rfl) rfl (Nat.le_of_ble_eq_true rfl) dL_law_1431 ?_
  refine l_icmpeq_t (tgt := 2039) dL_law_1434 (by decide) rfl ?_
  exact hn _ _ hR1
theorem law_36 (hst : STL Rel) (hL : L ≤ 3072) {i : Int} (hi : 0 ≤ i ∧ i + 6 ≤ (L : Int)) {σ τ : Sg} (hR : Rel σ τ) (hn : ∀ σ1 τ1, Rel σ1 τ1 → GL l L xs 2039 [some (.inr (.inr 0)), some (.inr (.inr 1)), some (.inr (.inr 2)), some (.inl i)] [] σ1 τ1) : GL l L xs 1439 [some (.inr (.inr 0)), some (.inr (.inr 1)), some (.inr (.inr 2)), some (.inl i)] [] σ τ := by
  obtain ⟨r, σ1, τ1, hx, hm, hR1⟩ := hst 36 (fun j => (xs (Int.toNat (i + (j : Int)))).toInt) σ τ (by decide) (fun j => i32_c _) hR
  have hx : H_unsaid ((xs (Int.toNat (i + 1))).toInt) ((xs (Int.toNat (i + 2))).toInt) σ = some (r, σ1) := hx
  have hm : M_unsaid ((xs (Int.toNat (i + 1))).toInt) ((xs (Int.toNat (i + 2))).toInt) τ = some (r, τ1) := hm
  refine l_aload_n dL_law_1439 rfl rfl ?_
  refine l_aload_n dL_law_1440 rfl rfl ?_
  refine l_iload_n dL_law_1441 rfl rfl ?_
  refine l_iconst dL_law_1442 (by decide) ?_
  refine l_iadd (z := i + 1) dL_law_1443 (by unfold w32; omega) ?_
  refine l_sld (by omega) dL_law_1444 ?_
  refine l_aload_n dL_law_1445 rfl rfl ?_
  refine l_iload_n dL_law_1446 rfl rfl ?_
  refine l_iconst dL_law_1447 (by decide) ?_
  refine l_iadd (z := i + 2) dL_law_1448 (by unfold w32; omega) ?_
  refine l_sld (by omega) dL_law_1449 ?_
  refine l_callx (st := []) rfl mw_X11_unsaid lk_RL_171 (ok_H_unsaid _ _ _) hx (Nat.le_of_ble_eq_true rfl) rfl (fun _ _ => rfl) rfl (Nat.le_of_ble_eq_true rfl) dL_law_1450 ?_
  refine l_aload_n dL_law_1453 rfl rfl ?_
  refine l_aload_n dL_law_1454 rfl rfl ?_
  refine l_iload_n dL_law_1455 rfl rfl ?_
  refine l_iconst dL_law_1456 (by decide) ?_
  refine l_iadd (z := i + 1) dL_law_1457 (by unfold w32; omega) ?_
  refine l_sld (by omega) dL_law_1458 ?_
  refine l_aload_n dL_law_1459 rfl rfl ?_
  refine l_iload_n dL_law_1460 rfl rfl ?_
  refine l_iconst dL_law_1461 (by decide) ?_
  refine l_iadd (z := i + 2) dL_law_1462 (by unfold w32; omega) ?_
  refine l_sld (by omega) dL_law_1463 ?_
  refine l_callm (st := [.inl r]) rfl mw_X12_unsaid lk_RL_174 (ok_M_unsaid _ _ _) hm (Nat.le_of_ble_eq_true rfl) rfl (fun _ _ => rfl) rfl (Nat.le_of_ble_eq_true rfl) dL_law_1464 ?_
  refine l_icmpeq_t (tgt := 2039) dL_law_1467 (by decide) rfl ?_
  exact hn _ _ hR1
theorem law_37 (hst : STL Rel) (hL : L ≤ 3072) {i : Int} (hi : 0 ≤ i ∧ i + 6 ≤ (L : Int)) {σ τ : Sg} (hR : Rel σ τ) (hn : ∀ σ1 τ1, Rel σ1 τ1 → GL l L xs 2039 [some (.inr (.inr 0)), some (.inr (.inr 1)), some (.inr (.inr 2)), some (.inl i)] [] σ1 τ1) : GL l L xs 1472 [some (.inr (.inr 0)), some (.inr (.inr 1)), some (.inr (.inr 2)), some (.inl i)] [] σ τ := by
  obtain ⟨r, σ1, τ1, hx, hm, hR1⟩ := hst 37 (fun j => (xs (Int.toNat (i + (j : Int)))).toInt) σ τ (by decide) (fun j => i32_c _) hR
  have hx : H_sure ((xs (Int.toNat (i + 1))).toInt) ((xs (Int.toNat (i + 2))).toInt) σ = some (r, σ1) := hx
  have hm : M_sure ((xs (Int.toNat (i + 1))).toInt) ((xs (Int.toNat (i + 2))).toInt) τ = some (r, τ1) := hm
  refine l_aload_n dL_law_1472 rfl rfl ?_
  refine l_aload_n dL_law_1473 rfl rfl ?_
  refine l_iload_n dL_law_1474 rfl rfl ?_
  refine l_iconst dL_law_1475 (by decide) ?_
  refine l_iadd (z := i + 1) dL_law_1476 (by unfold w32; omega) ?_
  refine l_sld (by omega) dL_law_1477 ?_
  refine l_aload_n dL_law_1478 rfl rfl ?_
  refine l_iload_n dL_law_1479 rfl rfl ?_
  refine l_iconst dL_law_1480 (by decide) ?_
  refine l_iadd (z := i + 2) dL_law_1481 (by unfold w32; omega) ?_
  refine l_sld (by omega) dL_law_1482 ?_
  refine l_callx (st := []) rfl mw_X11_sure lk_RL_175 (ok_H_sure _ _ _) hx (Nat.le_of_ble_eq_true rfl) rfl (fun _ _ => rfl) rfl (Nat.le_of_ble_eq_true rfl) dL_law_1483 ?_
  refine l_aload_n dL_law_1486 rfl rfl ?_
  refine l_aload_n dL_law_1487 rfl rfl ?_
  refine l_iload_n dL_law_1488 rfl rfl ?_
  refine l_iconst dL_law_1489 (by decide) ?_
  refine l_iadd (z := i + 1) dL_law_1490 (by unfold w32; omega) ?_
  refine l_sld (by omega) dL_law_1491 ?_
  refine l_aload_n dL_law_1492 rfl rfl ?_
  refine l_iload_n dL_law_1493 rfl rfl ?_
  refine l_iconst dL_law_1494 (by decide) ?_
  refine l_iadd (z := i + 2) dL_law_1495 (by unfold w32; omega) ?_
  refine l_sld (by omega) dL_law_1496 ?_
  refine l_callm (st := [.inl r]) rfl mw_X12_sure lk_RL_178 (ok_M_sure _ _ _) hm (Nat.le_of_ble_eq_true rfl) rfl (fun _ _ => rfl) rfl (Nat.le_of_ble_eq_true rfl) dL_law_1497 ?_
  refine l_icmpeq_t (tgt := 2039) dL_law_1500 (by decide) rfl ?_
  exact hn _ _ hR1
theorem law_38 (hst : STL Rel) (hL : L ≤ 3072) {i : Int} (hi : 0 ≤ i ∧ i + 6 ≤ (L : Int)) {σ τ : Sg} (hR : Rel σ τ) (hn : ∀ σ1 τ1, Rel σ1 τ1 → GL l L xs 2039 [some (.inr (.inr 0)), some (.inr (.inr 1)), some (.inr (.inr 2)), some (.inl i)] [] σ1 τ1) : GL l L xs 1505 [some (.inr (.inr 0)), some (.inr (.inr 1)), some (.inr (.inr 2)), some (.inl i)] [] σ τ := by
  obtain ⟨r, σ1, τ1, hx, hm, hR1⟩ := hst 38 (fun j => (xs (Int.toNat (i + (j : Int)))).toInt) σ τ (by decide) (fun j => i32_c _) hR
  have hx : H_ask ((xs (Int.toNat (i + 1))).toInt) ((xs (Int.toNat (i + 2))).toInt) σ = some (r, σ1) := hx
  have hm : M_ask ((xs (Int.toNat (i + 1))).toInt) ((xs (Int.toNat (i + 2))).toInt) τ = some (r, τ1) := hm
  refine l_aload_n dL_law_1505 rfl rfl ?_
  refine l_aload_n dL_law_1506 rfl rfl ?_
  refine l_iload_n dL_law_1507 rfl rfl ?_
  refine l_iconst dL_law_1508 (by decide) ?_
  refine l_iadd (z := i + 1) dL_law_1509 (by unfold w32; omega) ?_
  refine l_sld (by omega) dL_law_1510 ?_
  refine l_aload_n dL_law_1511 rfl rfl ?_
  refine l_iload_n dL_law_1512 rfl rfl ?_
  refine l_iconst dL_law_1513 (by decide) ?_
  refine l_iadd (z := i + 2) dL_law_1514 (by unfold w32; omega) ?_
  refine l_sld (by omega) dL_law_1515 ?_
  refine l_callx (st := []) rfl mw_X11_ask lk_RL_179 (ok_H_ask _ _ _) hx (Nat.le_of_ble_eq_true rfl) rfl (fun _ _ => rfl) rfl (Nat.le_of_ble_eq_true rfl) dL_law_1516 ?_
  refine l_aload_n dL_law_1519 rfl rfl ?_
  refine l_aload_n dL_law_1520 rfl rfl ?_
  refine l_iload_n dL_law_1521 rfl rfl ?_
  refine l_iconst dL_law_1522 (by decide) ?_
  refine l_iadd (z := i + 1) dL_law_1523 (by unfold w32; omega) ?_
  refine l_sld (by omega) dL_law_1524 ?_
  refine l_aload_n dL_law_1525 rfl rfl ?_
  refine l_iload_n dL_law_1526 rfl rfl ?_
  refine l_iconst dL_law_1527 (by decide) ?_
  refine l_iadd (z := i + 2) dL_law_1528 (by unfold w32; omega) ?_
  refine l_sld (by omega) dL_law_1529 ?_
  refine l_callm (st := [.inl r]) rfl mw_X12_ask lk_RL_182 (ok_M_ask _ _ _) hm (Nat.le_of_ble_eq_true rfl) rfl (fun _ _ => rfl) rfl (Nat.le_of_ble_eq_true rfl) dL_law_1530 ?_
  refine l_icmpeq_t (tgt := 2039) dL_law_1533 (by decide) rfl ?_
  exact hn _ _ hR1
theorem law_39 (hst : STL Rel) (hL : L ≤ 3072) {i : Int} (hi : 0 ≤ i ∧ i + 6 ≤ (L : Int)) {σ τ : Sg} (hR : Rel σ τ) (hn : ∀ σ1 τ1, Rel σ1 τ1 → GL l L xs 2039 [some (.inr (.inr 0)), some (.inr (.inr 1)), some (.inr (.inr 2)), some (.inl i)] [] σ1 τ1) : GL l L xs 1538 [some (.inr (.inr 0)), some (.inr (.inr 1)), some (.inr (.inr 2)), some (.inl i)] [] σ τ := by
  obtain ⟨r, σ1, τ1, hx, hm, hR1⟩ := hst 39 (fun j => (xs (Int.toNat (i + (j : Int)))).toInt) σ τ (by decide) (fun j => i32_c _) hR
  have hx : H_lengthOf ((xs (Int.toNat (i + 1))).toInt) ((xs (Int.toNat (i + 2))).toInt) σ = some (r, σ1) := hx
  have hm : M_lengthOf ((xs (Int.toNat (i + 1))).toInt) ((xs (Int.toNat (i + 2))).toInt) τ = some (r, τ1) := hm
  refine l_aload_n dL_law_1538 rfl rfl ?_
  refine l_aload_n dL_law_1539 rfl rfl ?_
  refine l_iload_n dL_law_1540 rfl rfl ?_
  refine l_iconst dL_law_1541 (by decide) ?_
  refine l_iadd (z := i + 1) dL_law_1542 (by unfold w32; omega) ?_
  refine l_sld (by omega) dL_law_1543 ?_
  refine l_aload_n dL_law_1544 rfl rfl ?_
  refine l_iload_n dL_law_1545 rfl rfl ?_
  refine l_iconst dL_law_1546 (by decide) ?_
  refine l_iadd (z := i + 2) dL_law_1547 (by unfold w32; omega) ?_
  refine l_sld (by omega) dL_law_1548 ?_
  refine l_callx (st := []) rfl mw_X11_lengthOf lk_RL_183 (ok_H_lengthOf _ _ _) hx (Nat.le_of_ble_eq_true rfl) rfl (fun _ _ => rfl) rfl (Nat.le_of_ble_eq_true rfl) dL_law_1549 ?_
  refine l_aload_n dL_law_1552 rfl rfl ?_
  refine l_aload_n dL_law_1553 rfl rfl ?_
  refine l_iload_n dL_law_1554 rfl rfl ?_
  refine l_iconst dL_law_1555 (by decide) ?_
  refine l_iadd (z := i + 1) dL_law_1556 (by unfold w32; omega) ?_
  refine l_sld (by omega) dL_law_1557 ?_
  refine l_aload_n dL_law_1558 rfl rfl ?_
  refine l_iload_n dL_law_1559 rfl rfl ?_
  refine l_iconst dL_law_1560 (by decide) ?_
  refine l_iadd (z := i + 2) dL_law_1561 (by unfold w32; omega) ?_
  refine l_sld (by omega) dL_law_1562 ?_
  refine l_callm (st := [.inl r]) rfl mw_X12_lengthOf lk_RL_186 (ok_M_lengthOf _ _ _) hm (Nat.le_of_ble_eq_true rfl) rfl (fun _ _ => rfl) rfl (Nat.le_of_ble_eq_true rfl) dL_law_1563 ?_
  refine l_icmpeq_t (tgt := 2039) dL_law_1566 (by decide) rfl ?_
  exact hn _ _ hR1
theorem law_40 (hst : STL Rel) (hL : L ≤ 3072) {i : Int} (hi : 0 ≤ i ∧ i + 6 ≤ (L : Int)) {σ τ : Sg} (hR : Rel σ τ) (hn : ∀ σ1 τ1, Rel σ1 τ1 → GL l L xs 2039 [some (.inr (.inr 0)), some (.inr (.inr 1)), some (.inr (.inr 2)), some (.inl i)] [] σ1 τ1) : GL l L xs 1571 [some (.inr (.inr 0)), some (.inr (.inr 1)), some (.inr (.inr 2)), some (.inl i)] [] σ τ := by
  obtain ⟨r, σ1, τ1, hx, hm, hR1⟩ := hst 40 (fun j => (xs (Int.toNat (i + (j : Int)))).toInt) σ τ (by decide) (fun j => i32_c _) hR
  have hx : H_daysFor ((xs (Int.toNat (i + 1))).toInt) ((xs (Int.toNat (i + 2))).toInt) σ = some (r, σ1) := hx
  have hm : M_daysFor ((xs (Int.toNat (i + 1))).toInt) ((xs (Int.toNat (i + 2))).toInt) τ = some (r, τ1) := hm
  refine l_aload_n dL_law_1571 rfl rfl ?_
  refine l_aload_n dL_law_1572 rfl rfl ?_
  refine l_iload_n dL_law_1573 rfl rfl ?_
  refine l_iconst dL_law_1574 (by decide) ?_
  refine l_iadd (z := i + 1) dL_law_1575 (by unfold w32; omega) ?_
  refine l_sld (by omega) dL_law_1576 ?_
  refine l_aload_n dL_law_1577 rfl rfl ?_
  refine l_iload_n dL_law_1578 rfl rfl ?_
  refine l_iconst dL_law_1579 (by decide) ?_
  refine l_iadd (z := i + 2) dL_law_1580 (by unfold w32; omega) ?_
  refine l_sld (by omega) dL_law_1581 ?_
  refine l_callx (st := []) rfl mw_X11_daysFor lk_RL_187 (ok_H_daysFor _ _ _) hx (Nat.le_of_ble_eq_true rfl) rfl (fun _ _ => rfl) rfl (Nat.le_of_ble_eq_true rfl) dL_law_1582 ?_
  refine l_aload_n dL_law_1585 rfl rfl ?_
  refine l_aload_n dL_law_1586 rfl rfl ?_
  refine l_iload_n dL_law_1587 rfl rfl ?_
  refine l_iconst dL_law_1588 (by decide) ?_
  refine l_iadd (z := i + 1) dL_law_1589 (by unfold w32; omega) ?_
  refine l_sld (by omega) dL_law_1590 ?_
  refine l_aload_n dL_law_1591 rfl rfl ?_
  refine l_iload_n dL_law_1592 rfl rfl ?_
  refine l_iconst dL_law_1593 (by decide) ?_
  refine l_iadd (z := i + 2) dL_law_1594 (by unfold w32; omega) ?_
  refine l_sld (by omega) dL_law_1595 ?_
  refine l_callm (st := [.inl r]) rfl mw_X12_daysFor lk_RL_190 (ok_M_daysFor _ _ _) hm (Nat.le_of_ble_eq_true rfl) rfl (fun _ _ => rfl) rfl (Nat.le_of_ble_eq_true rfl) dL_law_1596 ?_
  refine l_icmpeq_t (tgt := 2039) dL_law_1599 (by decide) rfl ?_
  exact hn _ _ hR1
theorem law_41 (hst : STL Rel) (hL : L ≤ 3072) {i : Int} (hi : 0 ≤ i ∧ i + 6 ≤ (L : Int)) {σ τ : Sg} (hR : Rel σ τ) (hn : ∀ σ1 τ1, Rel σ1 τ1 → GL l L xs 2039 [some (.inr (.inr 0)), some (.inr (.inr 1)), some (.inr (.inr 2)), some (.inl i)] [] σ1 τ1) : GL l L xs 1604 [some (.inr (.inr 0)), some (.inr (.inr 1)), some (.inr (.inr 2)), some (.inl i)] [] σ τ := by
  obtain ⟨r, σ1, τ1, hx, hm, hR1⟩ := hst 41 (fun j => (xs (Int.toNat (i + (j : Int)))).toInt) σ τ (by decide) (fun j => i32_c _) hR
  have hx : H_round ((xs (Int.toNat (i + 1))).toInt) σ = some (r, σ1) := hx
  have hm : M_round ((xs (Int.toNat (i + 1))).toInt) τ = some (r, τ1) := hm
  refine l_aload_n dL_law_1604 rfl rfl ?_
  refine l_aload_n dL_law_1605 rfl rfl ?_
  refine l_iload_n dL_law_1606 rfl rfl ?_
  refine l_iconst dL_law_1607 (by decide) ?_
  refine l_iadd (z := i + 1) dL_law_1608 (by unfold w32; omega) ?_
  refine l_sld (by omega) dL_law_1609 ?_
  refine l_callx (st := []) rfl mw_X11_round lk_RL_191 (ok_H_round _ _) hx (Nat.le_of_ble_eq_true rfl) rfl (fun _ _ => rfl) rfl (Nat.le_of_ble_eq_true rfl) dL_law_1610 ?_
  refine l_aload_n dL_law_1613 rfl rfl ?_
  refine l_aload_n dL_law_1614 rfl rfl ?_
  refine l_iload_n dL_law_1615 rfl rfl ?_
  refine l_iconst dL_law_1616 (by decide) ?_
  refine l_iadd (z := i + 1) dL_law_1617 (by unfold w32; omega) ?_
  refine l_sld (by omega) dL_law_1618 ?_
  refine l_callm (st := [.inl r]) rfl mw_X12_round lk_RL_194 (ok_M_round _ _) hm (Nat.le_of_ble_eq_true rfl) rfl (fun _ _ => rfl) rfl (Nat.le_of_ble_eq_true rfl) dL_law_1619 ?_
  refine l_icmpeq_t (tgt := 2039) dL_law_1622 (by decide) rfl ?_
  exact hn _ _ hR1
theorem law_42 (hst : STL Rel) (hL : L ≤ 3072) {i : Int} (hi : 0 ≤ i ∧ i + 6 ≤ (L : Int)) {σ τ : Sg} (hR : Rel σ τ) (hn : ∀ σ1 τ1, Rel σ1 τ1 → GL l L xs 2039 [some (.inr (.inr 0)), some (.inr (.inr 1)), some (.inr (.inr 2)), some (.inl i)] [] σ1 τ1) : GL l L xs 1627 [some (.inr (.inr 0)), some (.inr (.inr 1)), some (.inr (.inr 2)), some (.inl i)] [] σ τ := by
  obtain ⟨r, σ1, τ1, hx, hm, hR1⟩ := hst 42 (fun j => (xs (Int.toNat (i + (j : Int)))).toInt) σ τ (by decide) (fun j => i32_c _) hR
  have hx : H_oneRound σ = some (r, σ1) := hx
  have hm : M_oneRound τ = some (r, τ1) := hm
  refine l_aload_n dL_law_1627 rfl rfl ?_
  refine l_callx (st := []) rfl mw_X11_oneRound lk_RL_195 (ok_H_oneRound  _) hx (Nat.le_of_ble_eq_true rfl) rfl (fun _ _ => rfl) rfl (Nat.le_of_ble_eq_true rfl) dL_law_1628 ?_
  refine l_aload_n dL_law_1631 rfl rfl ?_
  refine l_callm (st := [.inl r]) rfl mw_X12_oneRound lk_RL_198 (ok_M_oneRound  _) hm (Nat.le_of_ble_eq_true rfl) rfl (fun _ _ => rfl) rfl (Nat.le_of_ble_eq_true rfl) dL_law_1632 ?_
  refine l_icmpeq_t (tgt := 2039) dL_law_1635 (by decide) rfl ?_
  exact hn _ _ hR1
theorem law_43 (hst : STL Rel) (hL : L ≤ 3072) {i : Int} (hi : 0 ≤ i ∧ i + 6 ≤ (L : Int)) {σ τ : Sg} (hR : Rel σ τ) (hn : ∀ σ1 τ1, Rel σ1 τ1 → GL l L xs 2039 [some (.inr (.inr 0)), some (.inr (.inr 1)), some (.inr (.inr 2)), some (.inl i)] [] σ1 τ1) : GL l L xs 1640 [some (.inr (.inr 0)), some (.inr (.inr 1)), some (.inr (.inr 2)), some (.inl i)] [] σ τ := by
  obtain ⟨r, σ1, τ1, hx, hm, hR1⟩ := hst 43 (fun j => (xs (Int.toNat (i + (j : Int)))).toInt) σ τ (by decide) (fun j => i32_c _) hR
  have hx : H_plaits ((xs (Int.toNat (i + 1))).toInt) ((xs (Int.toNat (i + 2))).toInt) ((xs (Int.toNat (i + 3))).toInt) σ = some (r, σ1) := hx
  have hm : M_plaits ((xs (Int.toNat (i + 1))).toInt) ((xs (Int.toNat (i + 2))).toInt) ((xs (Int.toNat (i + 3))).toInt) τ = some (r, τ1) := hm
  refine l_aload_n dL_law_1640 rfl rfl ?_
  refine l_aload_n dL_law_1641 rfl rfl ?_
  refine l_iload_n dL_law_1642 rfl rfl ?_
  refine l_iconst dL_law_1643 (by decide) ?_
  refine l_iadd (z := i + 1) dL_law_1644 (by unfold w32; omega) ?_
  refine l_sld (by omega) dL_law_1645 ?_
  refine l_aload_n dL_law_1646 rfl rfl ?_
  refine l_iload_n dL_law_1647 rfl rfl ?_
  refine l_iconst dL_law_1648 (by decide) ?_
  refine l_iadd (z := i + 2) dL_law_1649 (by unfold w32; omega) ?_
  refine l_sld (by omega) dL_law_1650 ?_
  refine l_aload_n dL_law_1651 rfl rfl ?_
  refine l_iload_n dL_law_1652 rfl rfl ?_
  refine l_iconst dL_law_1653 (by decide) ?_
  refine l_iadd (z := i + 3) dL_law_1654 (by unfold w32; omega) ?_
  refine l_sld (by omega) dL_law_1655 ?_
  refine l_callx (st := []) rfl mw_X11_plaits lk_RL_199 (ok_H_plaits _ _ _ _) hx (Nat.le_of_ble_eq_true rfl) rfl (fun _ _ => rfl) rfl (Nat.le_of_ble_eq_true rfl) dL_law_1656 ?_
  refine l_aload_n dL_law_1659 rfl rfl ?_
  refine l_aload_n dL_law_1660 rfl rfl ?_
  refine l_iload_n dL_law_1661 rfl rfl ?_
  refine l_iconst dL_law_1662 (by decide) ?_
  refine l_iadd (z := i + 1) dL_law_1663 (by unfold w32; omega) ?_
  refine l_sld (by omega) dL_law_1664 ?_
  refine l_aload_n dL_law_1665 rfl rfl ?_
  refine l_iload_n dL_law_1666 rfl rfl ?_
  refine l_iconst dL_law_1667 (by decide) ?_
  refine l_iadd (z := i + 2) dL_law_1668 (by unfold w32; omega) ?_
  refine l_sld (by omega) dL_law_1669 ?_
  refine l_aload_n dL_law_1670 rfl rfl ?_
  refine l_iload_n dL_law_1671 rfl rfl ?_
  refine l_iconst dL_law_1672 (by decide) ?_
  refine l_iadd (z := i + 3) dL_law_1673 (by unfold w32; omega) ?_
  refine l_sld (by omega) dL_law_1674 ?_
  refine l_callm (st := [.inl r]) rfl mw_X12_plaits lk_RL_202 (ok_M_plaits _ _ _ _) hm (Nat.le_of_ble_eq_true rfl) rfl (fun _ _ => rfl) rfl (Nat.le_of_ble_eq_true rfl) dL_law_1675 ?_
  refine l_icmpeq_t (tgt := 2039) dL_law_1678 (by decide) rfl ?_
  exact hn _ _ hR1
theorem law_44 (hst : STL Rel) (hL : L ≤ 3072) {i : Int} (hi : 0 ≤ i ∧ i + 6 ≤ (L : Int)) {σ τ : Sg} (hR : Rel σ τ) (hn : ∀ σ1 τ1, Rel σ1 τ1 → GL l L xs 2039 [some (.inr (.inr 0)), some (.inr (.inr 1)), some (.inr (.inr 2)), some (.inl i)] [] σ1 τ1) : GL l L xs 1683 [some (.inr (.inr 0)), some (.inr (.inr 1)), some (.inr (.inr 2)), some (.inl i)] [] σ τ := by
  obtain ⟨r, σ1, τ1, hx, hm, hR1⟩ := hst 44 (fun j => (xs (Int.toNat (i + (j : Int)))).toInt) σ τ (by decide) (fun j => i32_c _) hR
  have hx : H_plaitAt ((xs (Int.toNat (i + 1))).toInt) ((xs (Int.toNat (i + 2))).toInt) ((xs (Int.toNat (i + 3))).toInt) ((xs (Int.toNat (i + 4))).toInt) σ = some (r, σ1) := hx
  have hm : M_plaitAt ((xs (Int.toNat (i + 1))).toInt) ((xs (Int.toNat (i + 2))).toInt) ((xs (Int.toNat (i + 3))).toInt) ((xs (Int.toNat (i + 4))).toInt) τ = some (r, τ1) := hm
  refine l_aload_n dL_law_1683 rfl rfl ?_
  refine l_aload_n dL_law_1684 rfl rfl ?_
  refine l_iload_n dL_law_1685 rfl rfl ?_
  refine l_iconst dL_law_1686 (by decide) ?_
  refine l_iadd (z := i + 1) dL_law_1687 (by unfold w32; omega) ?_
  refine l_sld (by omega) dL_law_1688 ?_
  refine l_aload_n dL_law_1689 rfl rfl ?_
  refine l_iload_n dL_law_1690 rfl rfl ?_
  refine l_iconst dL_law_1691 (by decide) ?_
  refine l_iadd (z := i + 2) dL_law_1692 (by unfold w32; omega) ?_
  refine l_sld (by omega) dL_law_1693 ?_
  refine l_aload_n dL_law_1694 rfl rfl ?_
  refine l_iload_n dL_law_1695 rfl rfl ?_
  refine l_iconst dL_law_1696 (by decide) ?_
  refine l_iadd (z := i + 3) dL_law_1697 (by unfold w32; omega) ?_
  refine l_sld (by omega) dL_law_1698 ?_
  refine l_aload_n dL_law_1699 rfl rfl ?_
  refine l_iload_n dL_law_1700 rfl rfl ?_
  refine l_iconst dL_law_1701 (by decide) ?_
  refine l_iadd (z := i + 4) dL_law_1702 (by unfold w32; omega) ?_
  refine l_sld (by omega) dL_law_1703 ?_
  refine l_callx (st := []) rfl mw_X11_plaitAt lk_RL_203 (ok_H_plaitAt _ _ _ _ _) hx (Nat.le_of_ble_eq_true rfl) rfl (fun _ _ => rfl) rfl (Nat.le_of_ble_eq_true rfl) dL_law_1704 ?_
  refine l_aload_n dL_law_1707 rfl rfl ?_
  refine l_aload_n dL_law_1708 rfl rfl ?_
  refine l_iload_n dL_law_1709 rfl rfl ?_
  refine l_iconst dL_law_1710 (by decide) ?_
  refine l_iadd (z := i + 1) dL_law_1711 (by unfold w32; omega) ?_
  refine l_sld (by omega) dL_law_1712 ?_
  refine l_aload_n dL_law_1713 rfl rfl ?_
  refine l_iload_n dL_law_1714 rfl rfl ?_
  refine l_iconst dL_law_1715 (by decide) ?_
  refine l_iadd (z := i + 2) dL_law_1716 (by unfold w32; omega) ?_
  refine l_sld (by omega) dL_law_1717 ?_
  refine l_aload_n dL_law_1718 rfl rfl ?_
  refine l_iload_n dL_law_1719 rfl rfl ?_
  refine l_iconst dL_law_1720 (by decide) ?_
  refine l_iadd (z := i + 3) dL_law_1721 (by unfold w32; omega) ?_
  refine l_sld (by omega) dL_law_1722 ?_
  refine l_aload_n dL_law_1723 rfl rfl ?_
  refine l_iload_n dL_law_1724 rfl rfl ?_
  refine l_iconst dL_law_1725 (by decide) ?_
  refine l_iadd (z := i + 4) dL_law_1726 (by unfold w32; omega) ?_
  refine l_sld (by omega) dL_law_1727 ?_
  refine l_callm (st := [.inl r]) rfl mw_X12_plaitAt lk_RL_207 (ok_M_plaitAt _ _ _ _ _) hm (Nat.le_of_ble_eq_true rfl) rfl (fun _ _ => rfl) rfl (Nat.le_of_ble_eq_true rfl) dL_law_1728 ?_
  refine l_icmpeq_t (tgt := 2039) dL_law_1731 (by decide) rfl ?_
  exact hn _ _ hR1
theorem law_45 (hst : STL Rel) (hL : L ≤ 3072) {i : Int} (hi : 0 ≤ i ∧ i + 6 ≤ (L : Int)) {σ τ : Sg} (hR : Rel σ τ) (hn : ∀ σ1 τ1, Rel σ1 τ1 → GL l L xs 2039 [some (.inr (.inr 0)), some (.inr (.inr 1)), some (.inr (.inr 2)), some (.inl i)] [] σ1 τ1) : GL l L xs 1736 [some (.inr (.inr 0)), some (.inr (.inr 1)), some (.inr (.inr 2)), some (.inl i)] [] σ τ := by
  obtain ⟨r, σ1, τ1, hx, hm, hR1⟩ := hst 45 (fun j => (xs (Int.toNat (i + (j : Int)))).toInt) σ τ (by decide) (fun j => i32_c _) hR
  have hx : H_tellers ((xs (Int.toNat (i + 1))).toInt) ((xs (Int.toNat (i + 2))).toInt) σ = some (r, σ1) := hx
  have hm : M_tellers ((xs (Int.toNat (i + 1))).toInt) ((xs (Int.toNat (i + 2))).toInt) τ = some (r, τ1) := hm
  refine l_aload_n dL_law_1736 rfl rfl ?_
  refine l_aload_n dL_law_1737 rfl rfl ?_
  refine l_iload_n dL_law_1738 rfl rfl ?_
  refine l_iconst dL_law_1739 (by decide) ?_
  refine l_iadd (z := i + 1) dL_law_1740 (by unfold w32; omega) ?_
  refine l_sld (by omega) dL_law_1741 ?_
  refine l_aload_n dL_law_1742 rfl rfl ?_
  refine l_iload_n dL_law_1743 rfl rfl ?_
  refine l_iconst dL_law_1744 (by decide) ?_
  refine l_iadd (z := i + 2) dL_law_1745 (by unfold w32; omega) ?_
  refine l_sld (by omega) dL_law_1746 ?_
  refine l_callx (st := []) rfl mw_X11_tellers lk_RL_208 (ok_H_tellers _ _ _) hx (Nat.le_of_ble_eq_true rfl) rfl (fun _ _ => rfl) rfl (Nat.le_of_ble_eq_true rfl) dL_law_1747 ?_
  refine l_aload_n dL_law_1750 rfl rfl ?_
  refine l_aload_n dL_law_1751 rfl rfl ?_
  refine l_iload_n dL_law_1752 rfl rfl ?_
  refine l_iconst dL_law_1753 (by decide) ?_
  refine l_iadd (z := i + 1) dL_law_1754 (by unfold w32; omega) ?_
  refine l_sld (by omega) dL_law_1755 ?_
  refine l_aload_n dL_law_1756 rfl rfl ?_
  refine l_iload_n dL_law_1757 rfl rfl ?_
  refine l_iconst dL_law_1758 (by decide) ?_
  refine l_iadd (z := i + 2) dL_law_1759 (by unfold w32; omega) ?_
  refine l_sld (by omega) dL_law_1760 ?_
  refine l_callm (st := [.inl r]) rfl mw_X12_tellers lk_RL_211 (ok_M_tellers _ _ _) hm (Nat.le_of_ble_eq_true rfl) rfl (fun _ _ => rfl) rfl (Nat.le_of_ble_eq_true rfl) dL_law_1761 ?_
  refine l_icmpeq_t (tgt := 2039) dL_law_1764 (by decide) rfl ?_
  exact hn _ _ hR1
theorem law_46 (hst : STL Rel) (hL : L ≤ 3072) {i : Int} (hi : 0 ≤ i ∧ i + 6 ≤ (L : Int)) {σ τ : Sg} (hR : Rel σ τ) (hn : ∀ σ1 τ1, Rel σ1 τ1 → GL l L xs 2039 [some (.inr (.inr 0)), some (.inr (.inr 1)), some (.inr (.inr 2)), some (.inl i)] [] σ1 τ1) : GL l L xs 1769 [some (.inr (.inr 0)), some (.inr (.inr 1)), some (.inr (.inr 2)), some (.inl i)] [] σ τ := by
  obtain ⟨r, σ1, τ1, hx, hm, hR1⟩ := hst 46 (fun j => (xs (Int.toNat (i + (j : Int)))).toInt) σ τ (by decide) (fun j => i32_c _) hR
  have hx : H_rumour ((xs (Int.toNat (i + 1))).toInt) ((xs (Int.toNat (i + 2))).toInt) σ = some (r, σ1) := hx
  have hm : M_rumour ((xs (Int.toNat (i + 1))).toInt) ((xs (Int.toNat (i + 2))).toInt) τ = some (r, τ1) := hm
  refine l_aload_n dL_law_1769 rfl rfl ?_
  refine l_aload_n dL_law_1770 rfl rfl ?_
  refine l_iload_n dL_law_1771 rfl rfl ?_
  refine l_iconst dL_law_1772 (by decide) ?_
  refine l_iadd (z := i + 1) dL_law_1773 (by unfold w32; omega) ?_
  refine l_sld (by omega) dL_law_1774 ?_
  refine l_aload_n dL_law_1775 rfl rfl ?_
  refine l_iload_n dL_law_1776 rfl rfl ?_
  refine l_iconst dL_law_1777 (by decide) ?_
  refine l_iadd (z := i + 2) dL_law_1778 (by unfold w32; omega) ?_
  refine l_sld (by omega) dL_law_1779 ?_
  refine l_callx (st := []) rfl mw_X11_rumour lk_RL_212 (ok_H_rumour _ _ _) hx (Nat.le_of_ble_eq_true rfl) rfl (fun _ _ => rfl) rfl (Nat.le_of_ble_eq_true rfl) dL_law_1780 ?_
  refine l_aload_n dL_law_1783 rfl rfl ?_
  refine l_aload_n dL_law_1784 rfl rfl ?_
  refine l_iload_n dL_law_1785 rfl rfl ?_
  refine l_iconst dL_law_1786 (by decide) ?_
  refine l_iadd (z := i + 1) dL_law_1787 (by unfold w32; omega) ?_
  refine l_sld (by omega) dL_law_1788 ?_
  refine l_aload_n dL_law_1789 rfl rfl ?_
  refine l_iload_n dL_law_1790 rfl rfl ?_
  refine l_iconst dL_law_1791 (by decide) ?_
  refine l_iadd (z := i + 2) dL_law_1792 (by unfold w32; omega) ?_
  refine l_sld (by omega) dL_law_1793 ?_
  refine l_callm (st := [.inl r]) rfl mw_X12_rumour lk_RL_215 (ok_M_rumour _ _ _) hm (Nat.le_of_ble_eq_true rfl) rfl (fun _ _ => rfl) rfl (Nat.le_of_ble_eq_true rfl) dL_law_1794 ?_
  refine l_icmpeq_t (tgt := 2039) dL_law_1797 (by decide) rfl ?_
  exact hn _ _ hR1
theorem law_47 (hst : STL Rel) (hL : L ≤ 3072) {i : Int} (hi : 0 ≤ i ∧ i + 6 ≤ (L : Int)) {σ τ : Sg} (hR : Rel σ τ) (hn : ∀ σ1 τ1, Rel σ1 τ1 → GL l L xs 2039 [some (.inr (.inr 0)), some (.inr (.inr 1)), some (.inr (.inr 2)), some (.inl i)] [] σ1 τ1) : GL l L xs 1802 [some (.inr (.inr 0)), some (.inr (.inr 1)), some (.inr (.inr 2)), some (.inl i)] [] σ τ := by
  obtain ⟨r, σ1, τ1, hx, hm, hR1⟩ := hst 47 (fun j => (xs (Int.toNat (i + (j : Int)))).toInt) σ τ (by decide) (fun j => i32_c _) hR
  have hx : H_game ((xs (Int.toNat (i + 1))).toInt) ((xs (Int.toNat (i + 2))).toInt) ((xs (Int.toNat (i + 3))).toInt) σ = some (r, σ1) := hx
  have hm : M_game ((xs (Int.toNat (i + 1))).toInt) ((xs (Int.toNat (i + 2))).toInt) ((xs (Int.toNat (i + 3))).toInt) τ = some (r, τ1) := hm
  refine l_aload_n dL_law_1802 rfl rfl ?_
  refine l_aload_n dL_law_1803 rfl rfl ?_
  refine l_iload_n dL_law_1804 rfl rfl ?_
  refine l_iconst dL_law_1805 (by decide) ?_
  refine l_iadd (z := i + 1) dL_law_1806 (by unfold w32; omega) ?_
  refine l_sld (by omega) dL_law_1807 ?_
  refine l_aload_n dL_law_1808 rfl rfl ?_
  refine l_iload_n dL_law_1809 rfl rfl ?_
  refine l_iconst dL_law_1810 (by decide) ?_
  refine l_iadd (z := i + 2) dL_law_1811 (by unfold w32; omega) ?_
  refine l_sld (by omega) dL_law_1812 ?_
  refine l_aload_n dL_law_1813 rfl rfl ?_
  refine l_iload_n dL_law_1814 rfl rfl ?_
  refine l_iconst dL_law_1815 (by decide) ?_
  refine l_iadd (z := i + 3) dL_law_1816 (by unfold w32; omega) ?_
  refine l_sld (by omega) dL_law_1817 ?_
  refine l_callx (st := []) rfl mw_X11_game lk_RL_216 (ok_H_game _ _ _ _) hx (Nat.le_of_ble_eq_true rfl) rfl (fun _ _ => rfl) rfl (Nat.le_of_ble_eq_true rfl) dL_law_1818 ?_
  refine l_aload_n dL_law_1821 rfl rfl ?_
  refine l_aload_n dL_law_1822 rfl rfl ?_
  refine l_iload_n dL_law_1823 rfl rfl ?_
  refine l_iconst dL_law_1824 (by decide) ?_
  refine l_iadd (z := i + 1) dL_law_1825 (by unfold w32; omega) ?_
  refine l_sld (by omega) dL_law_1826 ?_
  refine l_aload_n dL_law_1827 rfl rfl ?_
  refine l_iload_n dL_law_1828 rfl rfl ?_
  refine l_iconst dL_law_1829 (by decide) ?_
  refine l_iadd (z := i + 2) dL_law_1830 (by unfold w32; omega) ?_
  refine l_sld (by omega) dL_law_1831 ?_
  refine l_aload_n dL_law_1832 rfl rfl ?_
  refine l_iload_n dL_law_1833 rfl rfl ?_
  refine l_iconst dL_law_1834 (by decide) ?_
  refine l_iadd (z := i + 3) dL_law_1835 (by unfold w32; omega) ?_
  refine l_sld (by omega) dL_law_1836 ?_
  refine l_callm (st := [.inl r]) rfl mw_X12_game lk_RL_219 (ok_M_game _ _ _ _) hm (Nat.le_of_ble_eq_true rfl) rfl (fun _ _ => rfl) rfl (Nat.le_of_ble_eq_true rfl) dL_law_1837 ?_
  refine l_icmpeq_t (tgt := 2039) dL_law_1840 (by decide) rfl ?_
  exact hn _ _ hR1
theorem law_48 (hst : STL Rel) (hL : L ≤ 3072) {i : Int} (hi : 0 ≤ i ∧ i + 6 ≤ (L : Int)) {σ τ : Sg} (hR : Rel σ τ) (hn : ∀ σ1 τ1, Rel σ1 τ1 → GL l L xs 2039 [some (.inr (.inr 0)), some (.inr (.inr 1)), some (.inr (.inr 2)), some (.inl i)] [] σ1 τ1) : GL l L xs 1845 [some (.inr (.inr 0)), some (.inr (.inr 1)), some (.inr (.inr 2)), some (.inl i)] [] σ τ := by
  obtain ⟨r, σ1, τ1, hx, hm, hR1⟩ := hst 48 (fun j => (xs (Int.toNat (i + (j : Int)))).toInt) σ τ (by decide) (fun j => i32_c _) hR
  have hx : H_moveOf ((xs (Int.toNat (i + 1))).toInt) ((xs (Int.toNat (i + 2))).toInt) ((xs (Int.toNat (i + 3))).toInt) σ = some (r, σ1) := hx
  have hm : M_moveOf ((xs (Int.toNat (i + 1))).toInt) ((xs (Int.toNat (i + 2))).toInt) ((xs (Int.toNat (i + 3))).toInt) τ = some (r, τ1) := hm
  refine l_aload_n dL_law_1845 rfl rfl ?_
  refine l_aload_n dL_law_1846 rfl rfl ?_
  refine l_iload_n dL_law_1847 rfl rfl ?_
  refine l_iconst dL_law_1848 (by decide) ?_
  refine l_iadd (z := i + 1) dL_law_1849 (by unfold w32; omega) ?_
  refine l_sld (by omega) dL_law_1850 ?_
  refine l_aload_n dL_law_1851 rfl rfl ?_
  refine l_iload_n dL_law_1852 rfl rfl ?_
  refine l_iconst dL_law_1853 (by decide) ?_
  refine l_iadd (z := i + 2) dL_law_1854 (by unfold w32; omega) ?_
  refine l_sld (by omega) dL_law_1855 ?_
  refine l_aload_n dL_law_1856 rfl rfl ?_
  refine l_iload_n dL_law_1857 rfl rfl ?_
  refine l_iconst dL_law_1858 (by decide) ?_
  refine l_iadd (z := i + 3) dL_law_1859 (by unfold w32; omega) ?_
  refine l_sld (by omega) dL_law_1860 ?_
  refine l_callx (st := []) rfl mw_X11_moveOf lk_RL_220 (ok_H_moveOf _ _ _ _) hx (Nat.le_of_ble_eq_true rfl) rfl (fun _ _ => rfl) rfl (Nat.le_of_ble_eq_true rfl) dL_law_1861 ?_
  refine l_aload_n dL_law_1864 rfl rfl ?_
  refine l_aload_n dL_law_1865 rfl rfl ?_
  refine l_iload_n dL_law_1866 rfl rfl ?_
  refine l_iconst dL_law_1867 (by decide) ?_
  refine l_iadd (z := i + 1) dL_law_1868 (by unfold w32; omega) ?_
  refine l_sld (by omega) dL_law_1869 ?_
  refine l_aload_n dL_law_1870 rfl rfl ?_
  refine l_iload_n dL_law_1871 rfl rfl ?_
  refine l_iconst dL_law_1872 (by decide) ?_
  refine l_iadd (z := i + 2) dL_law_1873 (by unfold w32; omega) ?_
  refine l_sld (by omega) dL_law_1874 ?_
  refine l_aload_n dL_law_1875 rfl rfl ?_
  refine l_iload_n dL_law_1876 rfl rfl ?_
  refine l_iconst dL_law_1877 (by decide) ?_
  refine l_iadd (z := i + 3) dL_law_1878 (by unfold w32; omega) ?_
  refine l_sld (by omega) dL_law_1879 ?_
  refine l_callm (st := [.inl r]) rfl mw_X12_moveOf lk_RL_223 (ok_M_moveOf _ _ _ _) hm (Nat.le_of_ble_eq_true rfl) rfl (fun _ _ => rfl) rfl (Nat.le_of_ble_eq_true rfl) dL_law_1880 ?_
  refine l_icmpeq_t (tgt := 2039) dL_law_1883 (by decide) rfl ?_
  exact hn _ _ hR1
theorem law_49 (hst : STL Rel) (hL : L ≤ 3072) {i : Int} (hi : 0 ≤ i ∧ i + 6 ≤ (L : Int)) {σ τ : Sg} (hR : Rel σ τ) (hn : ∀ σ1 τ1, Rel σ1 τ1 → GL l L xs 2039 [some (.inr (.inr 0)), some (.inr (.inr 1)), some (.inr (.inr 2)), some (.inl i)] [] σ1 τ1) : GL l L xs 1888 [some (.inr (.inr 0)), some (.inr (.inr 1)), some (.inr (.inr 2)), some (.inl i)] [] σ τ := by
  obtain ⟨r, σ1, τ1, hx, hm, hR1⟩ := hst 49 (fun j => (xs (Int.toNat (i + (j : Int)))).toInt) σ τ (by decide) (fun j => i32_c _) hR
  have hx : H_safe ((xs (Int.toNat (i + 1))).toInt) ((xs (Int.toNat (i + 2))).toInt) σ = some (r, σ1) := hx
  have hm : M_safe ((xs (Int.toNat (i + 1))).toInt) ((xs (Int.toNat (i + 2))).toInt) τ = some (r, τ1) := hm
  refine l_aload_n dL_law_1888 rfl rfl ?_
  refine l_aload_n dL_law_1889 rfl rfl ?_
  refine l_iload_n dL_law_1890 rfl rfl ?_
  refine l_iconst dL_law_1891 (by decide) ?_
  refine l_iadd (z := i + 1) dL_law_1892 (by unfold w32; omega) ?_
  refine l_sld (by omega) dL_law_1893 ?_
  refine l_aload_n dL_law_1894 rfl rfl ?_
  refine l_iload_n dL_law_1895 rfl rfl ?_
  refine l_iconst dL_law_1896 (by decide) ?_
  refine l_iadd (z := i + 2) dL_law_1897 (by unfold w32; omega) ?_
  refine l_sld (by omega) dL_law_1898 ?_
  refine l_callx (st := []) rfl mw_X11_safe lk_RL_224 (ok_H_safe _ _ _) hx (Nat.le_of_ble_eq_true rfl) rfl (fun _ _ => rfl) rfl (Nat.le_of_ble_eq_true rfl) dL_law_1899 ?_
  refine l_aload_n dL_law_1902 rfl rfl ?_
  refine l_aload_n dL_law_1903 rfl rfl ?_
  refine l_iload_n dL_law_1904 rfl rfl ?_
  refine l_iconst dL_law_1905 (by decide) ?_
  refine l_iadd (z := i + 1) dL_law_1906 (by unfold w32; omega) ?_
  refine l_sld (by omega) dL_law_1907 ?_
  refine l_aload_n dL_law_1908 rfl rfl ?_
  refine l_iload_n dL_law_1909 rfl rfl ?_
  refine l_iconst dL_law_1910 (by decide) ?_
  refine l_iadd (z := i + 2) dL_law_1911 (by unfold w32; omega) ?_
  refine l_sld (by omega) dL_law_1912 ?_
  refine l_callm (st := [.inl r]) rfl mw_X12_safe lk_RL_227 (ok_M_safe _ _ _) hm (Nat.le_of_ble_eq_true rfl) rfl (fun _ _ => rfl) rfl (Nat.le_of_ble_eq_true rfl) dL_law_1913 ?_
  refine l_icmpeq_t (tgt := 2039) dL_law_1916 (by decide) rfl ?_
  exact hn _ _ hR1
theorem law_50 (hst : STL Rel) (hL : L ≤ 3072) {i : Int} (hi : 0 ≤ i ∧ i + 6 ≤ (L : Int)) {σ τ : Sg} (hR : Rel σ τ) (hn : ∀ σ1 τ1, Rel σ1 τ1 → GL l L xs 2039 [some (.inr (.inr 0)), some (.inr (.inr 1)), some (.inr (.inr 2)), some (.inl i)] [] σ1 τ1) : GL l L xs 1921 [some (.inr (.inr 0)), some (.inr (.inr 1)), some (.inr (.inr 2)), some (.inl i)] [] σ τ := by
  obtain ⟨r, σ1, τ1, hx, hm, hR1⟩ := hst 50 (fun j => (xs (Int.toNat (i + (j : Int)))).toInt) σ τ (by decide) (fun j => i32_c _) hR
  have hx : H_riskiest σ = some (r, σ1) := hx
  have hm : M_riskiest τ = some (r, τ1) := hm
  refine l_aload_n dL_law_1921 rfl rfl ?_
  refine l_callx (st := []) rfl mw_X11_riskiest lk_RL_228 (ok_H_riskiest  _) hx (Nat.le_of_ble_eq_true rfl) rfl (fun _ _ => rfl) rfl (Nat.le_of_ble_eq_true rfl) dL_law_1922 ?_
  refine l_aload_n dL_law_1925 rfl rfl ?_
  refine l_callm (st := [.inl r]) rfl mw_X12_riskiest lk_RL_231 (ok_M_riskiest  _) hm (Nat.le_of_ble_eq_true rfl) rfl (fun _ _ => rfl) rfl (Nat.le_of_ble_eq_true rfl) dL_law_1926 ?_
  refine l_icmpeq_t (tgt := 2039) dL_law_1929 (by decide) rfl ?_
  exact hn _ _ hR1
theorem law_51 (hst : STL Rel) (hL : L ≤ 3072) {i : Int} (hi : 0 ≤ i ∧ i + 6 ≤ (L : Int)) {σ τ : Sg} (hR : Rel σ τ) (hn : ∀ σ1 τ1, Rel σ1 τ1 → GL l L xs 2039 [some (.inr (.inr 0)), some (.inr (.inr 1)), some (.inr (.inr 2)), some (.inl i)] [] σ1 τ1) : GL l L xs 1934 [some (.inr (.inr 0)), some (.inr (.inr 1)), some (.inr (.inr 2)), some (.inl i)] [] σ τ := by
  obtain ⟨r, σ1, τ1, hx, hm, hR1⟩ := hst 51 (fun j => (xs (Int.toNat (i + (j : Int)))).toInt) σ τ (by decide) (fun j => i32_c _) hR
  have hx : H_live ((xs (Int.toNat (i + 1))).toInt) σ = some (r, σ1) := hx
  have hm : M_live ((xs (Int.toNat (i + 1))).toInt) τ = some (r, τ1) := hm
  refine l_aload_n dL_law_1934 rfl rfl ?_
  refine l_aload_n dL_law_1935 rfl rfl ?_
  refine l_iload_n dL_law_1936 rfl rfl ?_
  refine l_iconst dL_law_1937 (by decide) ?_
  refine l_iadd (z := i + 1) dL_law_1938 (by unfold w32; omega) ?_
  refine l_sld (by omega) dL_law_1939 ?_
  refine l_callx (st := []) rfl mw_X11_live lk_RL_232 (ok_H_live _ _) hx (Nat.le_of_ble_eq_true rfl) rfl (fun _ _ => rfl) rfl (Nat.le_of_ble_eq_true rfl) dL_law_1940 ?_
  refine l_aload_n dL_law_1943 rfl rfl ?_
  refine l_aload_n dL_law_1944 rfl rfl ?_
  refine l_iload_n dL_law_1945 rfl rfl ?_
  refine l_iconst dL_law_1946 (by decide) ?_
  refine l_iadd (z := i + 1) dL_law_1947 (by unfold w32; omega) ?_
  refine l_sld (by omega) dL_law_1948 ?_
  refine l_callm (st := [.inl r]) rfl mw_X12_live lk_RL_235 (ok_M_live _ _) hm (Nat.le_of_ble_eq_true rfl) rfl (fun _ _ => rfl) rfl (Nat.le_of_ble_eq_true rfl) dL_law_1949 ?_
  refine l_icmpeq_t (tgt := 2039) dL_law_1952 (by decide) rfl ?_
  exact hn _ _ hR1
theorem law_52 (hst : STL Rel) (hL : L ≤ 3072) {i : Int} (hi : 0 ≤ i ∧ i + 6 ≤ (L : Int)) {σ τ : Sg} (hR : Rel σ τ) (hn : ∀ σ1 τ1, Rel σ1 τ1 → GL l L xs 2039 [some (.inr (.inr 0)), some (.inr (.inr 1)), some (.inr (.inr 2)), some (.inl i)] [] σ1 τ1) : GL l L xs 1957 [some (.inr (.inr 0)), some (.inr (.inr 1)), some (.inr (.inr 2)), some (.inl i)] [] σ τ := by
  obtain ⟨r, σ1, τ1, hx, hm, hR1⟩ := hst 52 (fun j => (xs (Int.toNat (i + (j : Int)))).toInt) σ τ (by decide) (fun j => i32_c _) hR
  have hx : H_lived ((xs (Int.toNat (i + 1))).toInt) σ = some (r, σ1) := hx
  have hm : M_lived ((xs (Int.toNat (i + 1))).toInt) τ = some (r, τ1) := hm
  refine l_aload_n dL_law_1957 rfl rfl ?_
  refine l_aload_n dL_law_1958 rfl rfl ?_
  refine l_iload_n dL_law_1959 rfl rfl ?_
  refine l_iconst dL_law_1960 (by decide) ?_
  refine l_iadd (z := i + 1) dL_law_1961 (by unfold w32; omega) ?_
  refine l_sld (by omega) dL_law_1962 ?_
  refine l_callx (st := []) rfl mw_X11_lived lk_RL_236 (ok_H_lived _ _) hx (Nat.le_of_ble_eq_true rfl) rfl (fun _ _ => rfl) rfl (Nat.le_of_ble_eq_true rfl) dL_law_1963 ?_
  refine l_aload_n dL_law_1966 rfl rfl ?_
  refine l_aload_n dL_law_1967 rfl rfl ?_
  refine l_iload_n dL_law_1968 rfl rfl ?_
  refine l_iconst dL_law_1969 (by decide) ?_
  refine l_iadd (z := i + 1) dL_law_1970 (by unfold w32; omega) ?_
  refine l_sld (by omega) dL_law_1971 ?_
  refine l_callm (st := [.inl r]) rfl mw_X12_lived lk_RL_239 (ok_M_lived _ _) hm (Nat.le_of_ble_eq_true rfl) rfl (fun _ _ => rfl) rfl (Nat.le_of_ble_eq_true rfl) dL_law_1972 ?_
  refine l_icmpeq_t (tgt := 2039) dL_law_1975 (by decide) rfl ?_
  exact hn _ _ hR1
theorem law_53 (hst : STL Rel) (hL : L ≤ 3072) {i : Int} (hi : 0 ≤ i ∧ i + 6 ≤ (L : Int)) {σ τ : Sg} (hR : Rel σ τ) (hn : ∀ σ1 τ1, Rel σ1 τ1 → GL l L xs 2039 [some (.inr (.inr 0)), some (.inr (.inr 1)), some (.inr (.inr 2)), some (.inl i)] [] σ1 τ1) : GL l L xs 1980 [some (.inr (.inr 0)), some (.inr (.inr 1)), some (.inr (.inr 2)), some (.inl i)] [] σ τ := by
  obtain ⟨r, σ1, τ1, hx, hm, hR1⟩ := hst 53 (fun j => (xs (Int.toNat (i + (j : Int)))).toInt) σ τ (by decide) (fun j => i32_c _) hR
  have hx : H_mean ((xs (Int.toNat (i + 1))).toInt) ((xs (Int.toNat (i + 2))).toInt) σ = some (r, σ1) := hx
  have hm : M_mean ((xs (Int.toNat (i + 1))).toInt) ((xs (Int.toNat (i + 2))).toInt) τ = some (r, τ1) := hm
  refine l_aload_n dL_law_1980 rfl rfl ?_
  refine l_aload_n dL_law_1981 rfl rfl ?_
  refine l_iload_n dL_law_1982 rfl rfl ?_
  refine l_iconst dL_law_1983 (by decide) ?_
  refine l_iadd (z := i + 1) dL_law_1984 (by unfold w32; omega) ?_
  refine l_sld (by omega) dL_law_1985 ?_
  refine l_aload_n dL_law_1986 rfl rfl ?_
  refine l_iload_n dL_law_1987 rfl rfl ?_
  refine l_iconst dL_law_1988 (by decide) ?_
  refine l_iadd (z := i + 2) dL_law_1989 (by unfold w32; omega) ?_
  refine l_sld (by omega) dL_law_1990 ?_
  refine l_callx (st := []) rfl mw_X11_mean lk_RL_240 (ok_H_mean _ _ _) hx (Nat.le_of_ble_eq_true rfl) rfl (fun _ _ => rfl) rfl (Nat.le_of_ble_eq_true rfl) dL_law_1991 ?_
  refine l_aload_n dL_law_1994 rfl rfl ?_
  refine l_aload_n dL_law_1995 rfl rfl ?_
  refine l_iload_n dL_law_1996 rfl rfl ?_
  refine l_iconst dL_law_1997 (by decide) ?_
  refine l_iadd (z := i + 1) dL_law_1998 (by unfold w32; omega) ?_
  refine l_sld (by omega) dL_law_1999 ?_
  refine l_aload_n dL_law_2000 rfl rfl ?_
  refine l_iload_n dL_law_2001 rfl rfl ?_
  refine l_iconst dL_law_2002 (by decide) ?_
  refine l_iadd (z := i + 2) dL_law_2003 (by unfold w32; omega) ?_
  refine l_sld (by omega) dL_law_2004 ?_
  refine l_callm (st := [.inl r]) rfl mw_X12_mean lk_RL_243 (ok_M_mean _ _ _) hm (Nat.le_of_ble_eq_true rfl) rfl (fun _ _ => rfl) rfl (Nat.le_of_ble_eq_true rfl) dL_law_2005 ?_
  refine l_icmpeq_t (tgt := 2039) dL_law_2008 (by decide) rfl ?_
  exact hn _ _ hR1
theorem law_54 (hst : STL Rel) (hL : L ≤ 3072) {i : Int} (hi : 0 ≤ i ∧ i + 6 ≤ (L : Int)) {σ τ : Sg} (hR : Rel σ τ) (hn : ∀ σ1 τ1, Rel σ1 τ1 → GL l L xs 2039 [some (.inr (.inr 0)), some (.inr (.inr 1)), some (.inr (.inr 2)), some (.inl i)] [] σ1 τ1) : GL l L xs 2013 [some (.inr (.inr 0)), some (.inr (.inr 1)), some (.inr (.inr 2)), some (.inl i)] [] σ τ := by
  obtain ⟨r, σ1, τ1, hx, hm, hR1⟩ := hst 54 (fun j => (xs (Int.toNat (i + (j : Int)))).toInt) σ τ (by decide) (fun j => i32_c _) hR
  have hx : H_mark σ = some (r, σ1) := hx
  have hm : M_mark τ = some (r, τ1) := hm
  refine l_aload_n dL_law_2013 rfl rfl ?_
  refine l_callx (st := []) rfl mw_X11_mark lk_RL_244 (ok_H_mark  _) hx (Nat.le_of_ble_eq_true rfl) rfl (fun _ _ => rfl) rfl (Nat.le_of_ble_eq_true rfl) dL_law_2014 ?_
  refine l_aload_n dL_law_2017 rfl rfl ?_
  refine l_callm (st := [.inl r]) rfl mw_X12_mark lk_RL_247 (ok_M_mark  _) hm (Nat.le_of_ble_eq_true rfl) rfl (fun _ _ => rfl) rfl (Nat.le_of_ble_eq_true rfl) dL_law_2018 ?_
  refine l_icmpeq_t (tgt := 2039) dL_law_2021 (by decide) rfl ?_
  exact hn _ _ hR1
theorem law_55 (hst : STL Rel) (hL : L ≤ 3072) {i : Int} (hi : 0 ≤ i ∧ i + 6 ≤ (L : Int)) {σ τ : Sg} (hR : Rel σ τ) (hn : ∀ σ1 τ1, Rel σ1 τ1 → GL l L xs 2039 [some (.inr (.inr 0)), some (.inr (.inr 1)), some (.inr (.inr 2)), some (.inl i)] [] σ1 τ1) : GL l L xs 2026 [some (.inr (.inr 0)), some (.inr (.inr 1)), some (.inr (.inr 2)), some (.inl i)] [] σ τ := by
  obtain ⟨r, σ1, τ1, hx, hm, hR1⟩ := hst 55 (fun j => (xs (Int.toNat (i + (j : Int)))).toInt) σ τ (by decide) (fun j => i32_c _) hR
  have hx : H_back σ = some (r, σ1) := hx
  have hm : M_back τ = some (r, τ1) := hm
  refine l_aload_n dL_law_2026 rfl rfl ?_
  refine l_callx (st := []) rfl mw_X11_back lk_RL_248 (ok_H_back  _) hx (Nat.le_of_ble_eq_true rfl) rfl (fun _ _ => rfl) rfl (Nat.le_of_ble_eq_true rfl) dL_law_2027 ?_
  refine l_aload_n dL_law_2030 rfl rfl ?_
  refine l_callm (st := [.inl r]) rfl mw_X12_back lk_RL_251 (ok_M_back  _) hm (Nat.le_of_ble_eq_true rfl) rfl (fun _ _ => rfl) rfl (Nat.le_of_ble_eq_true rfl) dL_law_2031 ?_
  refine l_icmpeq_t (tgt := 2039) dL_law_2034 (by decide) rfl ?_
  exact hn _ _ hR1
theorem an63 (x : Int) : ∃ q : Nat, q < 64 ∧ an32 x 63 = (q : Int) := by
  obtain ⟨j, hj, e⟩ := pk_andE (Int32.ofInt x) (m := 63) 6 (by decide)
  refine ⟨j, hj, ?_⟩
  unfold an32
  rw [show Int32.ofInt 63 = 63 by decide, e, nI_toInt (by omega)]
theorem law_loop (hst : STL Rel) (hL : L ≤ 3072) : ∀ (n : Nat) (i : Int) (σ τ : Sg), 0 ≤ i → i ≤ (L : Int) + 6 → (L : Int) + 6 - i < n → Rel σ τ → GL l L xs 18 [some (.inr (.inr 0)), some (.inr (.inr 1)), some (.inr (.inr 2)), some (.inl i)] [] σ τ := by
  intro n
  induction n with
  | zero => intro i σ τ h1 h2 h3; omega
  | succ n ih =>
    intro i σ τ h1 h2 h3 hR
    refine l_iload_n dL_law_18 rfl rfl ?_
    refine l_aload_n dL_law_19 rfl rfl ?_
    refine l_alen hL rfl dL_law_20 ?_
    refine l_bipush dL_law_21 (by decide) ?_
    refine l_isub (z := (L : Int) - 6) dL_law_23 (by unfold w32; omega) ?_
    by_cases hi : (L : Int) - 6 < i
    · refine l_icmpgt_t (tgt := 2045) dL_law_24 (by decide) hi ?_
      refine l_iconst dL_law_2045 (by decide) ?_
      exact l_ret dL_law_2046
    · refine l_icmpgt_f (tgt := 2045) dL_law_24 (by decide) hi ?_
      have hi6 : 0 ≤ i ∧ i + 6 ≤ (L : Int) := by omega
      have hn : ∀ σ1 τ1, Rel σ1 τ1 → GL l L xs 2039 [some (.inr (.inr 0)), some (.inr (.inr 1)), some (.inr (.inr 2)), some (.inl i)] [] σ1 τ1 := by
        intro σ1 τ1 hR1
        refine l_iinc (y := i + 6) (lv' := [some (.inr (.inr 0)), some (.inr (.inr 1)), some (.inr (.inr 2)), some (.inl (i + 6))]) dL_law_2039 rfl (by decide) (by unfold w32; omega) rfl ?_
        refine l_goto (tgt := 18) dL_law_2042 (by decide) ?_
        exact ih (i + 6) σ1 τ1 (by omega) (by omega) (by omega) hR1
      refine l_aload_n dL_law_27 rfl rfl ?_
      refine l_iload_n dL_law_28 rfl rfl ?_
      refine l_sld (by omega) dL_law_29 ?_
      refine l_bipush dL_law_30 (by decide) ?_
      refine l_iand dL_law_32 ?_
      obtain ⟨q, hq, e⟩ := an63 (xs i.toNat).toInt
      rw [e]
      match q, hq with
      | 0, _ => exact l_tin (tgt := 272) (off := 239) dL_law_33 (by decide) (by decide) rfl (by decide) (law_0 hst hL hi6 hR hn)
      | 1, _ => exact l_tin (tgt := 285) (off := 252) dL_law_33 (by decide) (by decide) rfl (by decide) (law_1 hst hL hi6 hR hn)
      | 2, _ => exact l_tin (tgt := 299) (off := 266) dL_law_33 (by decide) (by decide) rfl (by decide) (law_2 hst hL hi6 hR hn)
      | 3, _ => exact l_tin (tgt := 313) (off := 280) dL_law_33 (by decide) (by decide) rfl (by decide) (law_3 hst hL hi6 hR hn)
      | 4, _ => exact l_tin (tgt := 356) (off := 323) dL_law_33 (by decide) (by decide) rfl (by decide) (law_4 hst hL hi6 hR hn)
      | 5, _ => exact l_tin (tgt := 429) (off := 396) dL_law_33 (by decide) (by decide) rfl (by decide) (law_5 hst hL hi6 hR hn)
      | 6, _ => exact l_tin (tgt := 463) (off := 430) dL_law_33 (by decide) (by decide) rfl (by decide) (law_6 hst hL hi6 hR hn)
      | 7, _ => exact l_tin (tgt := 526) (off := 493) dL_law_33 (by decide) (by decide) rfl (by decide) (law_7 hst hL hi6 hR hn)
      | 8, _ => exact l_tin (tgt := 589) (off := 556) dL_law_33 (by decide) (by decide) rfl (by decide) (law_8 hst hL hi6 hR hn)
      | 9, _ => exact l_tin (tgt := 612) (off := 579) dL_law_33 (by decide) (by decide) rfl (by decide) (law_9 hst hL hi6 hR hn)
      | 10, _ => exact l_tin (tgt := 635) (off := 602) dL_law_33 (by decide) (by decide) rfl (by decide) (law_10 hst hL hi6 hR hn)
      | 11, _ => exact l_tin (tgt := 658) (off := 625) dL_law_33 (by decide) (by decide) rfl (by decide) (law_11 hst hL hi6 hR hn)
      | 12, _ => exact l_tin (tgt := 681) (off := 648) dL_law_33 (by decide) (by decide) rfl (by decide) (law_12 hst hL hi6 hR hn)
      | 13, _ => exact l_tin (tgt := 714) (off := 681) dL_law_33 (by decide) (by decide) rfl (by decide) (law_13 hst hL hi6 hR hn)
      | 14, _ => exact l_tin (tgt := 747) (off := 714) dL_law_33 (by decide) (by decide) rfl (by decide) (law_14 hst hL hi6 hR hn)
      | 15, _ => exact l_tin (tgt := 790) (off := 757) dL_law_33 (by decide) (by decide) rfl (by decide) (law_15 hst hL hi6 hR hn)
      | 16, _ => exact l_tin (tgt := 823) (off := 790) dL_law_33 (by decide) (by decide) rfl (by decide) (law_16 hst hL hi6 hR hn)
      | 17, _ => exact l_tin (tgt := 846) (off := 813) dL_law_33 (by decide) (by decide) rfl (by decide) (law_17 hst hL hi6 hR hn)
      | 18, _ => exact l_tin (tgt := 869) (off := 836) dL_law_33 (by decide) (by decide) rfl (by decide) (law_18 hst hL hi6 hR hn)
      | 19, _ => exact l_tin (tgt := 892) (off := 859) dL_law_33 (by decide) (by decide) rfl (by decide) (law_19 hst hL hi6 hR hn)
      | 20, _ => exact l_tin (tgt := 935) (off := 902) dL_law_33 (by decide) (by decide) rfl (by decide) (law_20 hst hL hi6 hR hn)
      | 21, _ => exact l_tin (tgt := 968) (off := 935) dL_law_33 (by decide) (by decide) rfl (by decide) (law_21 hst hL hi6 hR hn)
      | 22, _ => exact l_tin (tgt := 1001) (off := 968) dL_law_33 (by decide) (by decide) rfl (by decide) (law_22 hst hL hi6 hR hn)
      | 23, _ => exact l_tin (tgt := 1034) (off := 1001) dL_law_33 (by decide) (by decide) rfl (by decide) (law_23 hst hL hi6 hR hn)
      | 24, _ => exact l_tin (tgt := 1067) (off := 1034) dL_law_33 (by decide) (by decide) rfl (by decide) (law_24 hst hL hi6 hR hn)
      | 25, _ => exact l_tin (tgt := 1116) (off := 1083) dL_law_33 (by decide) (by decide) rfl (by decide) (law_25 hst hL hi6 hR hn)
      | 26, _ => exact l_tin (tgt := 1149) (off := 1116) dL_law_33 (by decide) (by decide) rfl (by decide) (law_26 hst hL hi6 hR hn)
      | 27, _ => exact l_tin (tgt := 1192) (off := 1159) dL_law_33 (by decide) (by decide) rfl (by decide) (law_27 hst hL hi6 hR hn)
      | 28, _ => exact l_tin (tgt := 1205) (off := 1172) dL_law_33 (by decide) (by decide) rfl (by decide) (law_28 hst hL hi6 hR hn)
      | 29, _ => exact l_tin (tgt := 1238) (off := 1205) dL_law_33 (by decide) (by decide) rfl (by decide) (law_29 hst hL hi6 hR hn)
      | 30, _ => exact l_tin (tgt := 1271) (off := 1238) dL_law_33 (by decide) (by decide) rfl (by decide) (law_30 hst hL hi6 hR hn)
      | 31, _ => exact l_tin (tgt := 1294) (off := 1261) dL_law_33 (by decide) (by decide) rfl (by decide) (law_31 hst hL hi6 hR hn)
      | 32, _ => exact l_tin (tgt := 1327) (off := 1294) dL_law_33 (by decide) (by decide) rfl (by decide) (law_32 hst hL hi6 hR hn)
      | 33, _ => exact l_tin (tgt := 1350) (off := 1317) dL_law_33 (by decide) (by decide) rfl (by decide) (law_33 hst hL hi6 hR hn)
      | 34, _ => exact l_tin (tgt := 1373) (off := 1340) dL_law_33 (by decide) (by decide) rfl (by decide) (law_34 hst hL hi6 hR hn)
      | 35, _ => exact l_tin (tgt := 1406) (off := 1373) dL_law_33 (by decide) (by decide) rfl (by decide) (law_35 hst hL hi6 hR hn)
      | 36, _ => exact l_tin (tgt := 1439) (off := 1406) dL_law_33 (by decide) (by decide) rfl (by decide) (law_36 hst hL hi6 hR hn)
      | 37, _ => exact l_tin (tgt := 1472) (off := 1439) dL_law_33 (by decide) (by decide) rfl (by decide) (law_37 hst hL hi6 hR hn)
      | 38, _ => exact l_tin (tgt := 1505) (off := 1472) dL_law_33 (by decide) (by decide) rfl (by decide) (law_38 hst hL hi6 hR hn)
      | 39, _ => exact l_tin (tgt := 1538) (off := 1505) dL_law_33 (by decide) (by decide) rfl (by decide) (law_39 hst hL hi6 hR hn)
      | 40, _ => exact l_tin (tgt := 1571) (off := 1538) dL_law_33 (by decide) (by decide) rfl (by decide) (law_40 hst hL hi6 hR hn)
      | 41, _ => exact l_tin (tgt := 1604) (off := 1571) dL_law_33 (by decide) (by decide) rfl (by decide) (law_41 hst hL hi6 hR hn)
      | 42, _ => exact l_tin (tgt := 1627) (off := 1594) dL_law_33 (by decide) (by decide) rfl (by decide) (law_42 hst hL hi6 hR hn)
      | 43, _ => exact l_tin (tgt := 1640) (off := 1607) dL_law_33 (by decide) (by decide) rfl (by decide) (law_43 hst hL hi6 hR hn)
      | 44, _ => exact l_tin (tgt := 1683) (off := 1650) dL_law_33 (by decide) (by decide) rfl (by decide) (law_44 hst hL hi6 hR hn)
      | 45, _ => exact l_tin (tgt := 1736) (off := 1703) dL_law_33 (by decide) (by decide) rfl (by decide) (law_45 hst hL hi6 hR hn)
      | 46, _ => exact l_tin (tgt := 1769) (off := 1736) dL_law_33 (by decide) (by decide) rfl (by decide) (law_46 hst hL hi6 hR hn)
      | 47, _ => exact l_tin (tgt := 1802) (off := 1769) dL_law_33 (by decide) (by decide) rfl (by decide) (law_47 hst hL hi6 hR hn)
      | 48, _ => exact l_tin (tgt := 1845) (off := 1812) dL_law_33 (by decide) (by decide) rfl (by decide) (law_48 hst hL hi6 hR hn)
      | 49, _ => exact l_tin (tgt := 1888) (off := 1855) dL_law_33 (by decide) (by decide) rfl (by decide) (law_49 hst hL hi6 hR hn)
      | 50, _ => exact l_tin (tgt := 1921) (off := 1888) dL_law_33 (by decide) (by decide) rfl (by decide) (law_50 hst hL hi6 hR hn)
      | 51, _ => exact l_tin (tgt := 1934) (off := 1901) dL_law_33 (by decide) (by decide) rfl (by decide) (law_51 hst hL hi6 hR hn)
      | 52, _ => exact l_tin (tgt := 1957) (off := 1924) dL_law_33 (by decide) (by decide) rfl (by decide) (law_52 hst hL hi6 hR hn)
      | 53, _ => exact l_tin (tgt := 1980) (off := 1947) dL_law_33 (by decide) (by decide) rfl (by decide) (law_53 hst hL hi6 hR hn)
      | 54, _ => exact l_tin (tgt := 2013) (off := 1980) dL_law_33 (by decide) (by decide) rfl (by decide) (law_54 hst hL hi6 hR hn)
      | 55, _ => exact l_tin (tgt := 2026) (off := 1993) dL_law_33 (by decide) (by decide) rfl (by decide) (law_55 hst hL hi6 hR hn)
      | q + 56, _ => exact l_tout (tgt := 2039) dL_law_33 (Or.inr (by omega)) (by decide) (hn _ _ hR)
end LC
