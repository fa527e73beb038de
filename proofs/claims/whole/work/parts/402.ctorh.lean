/-! the class's own constructor -/
section CH
variable {l : Launch} {D : va_G} {dA : Nat → ClassId} {a1 a2 : Nat}
def zh0 : Nat → Int := fun k => if k = 2 then 1 else if k = 3 then -1 else if k = 4 then -1 else 0
def px (q : Nat) : Nat := if q < 6 then q else if q = 113 then 6 else if q < 113 then q + 1 else q
def adX (base a1 a2 : Nat) : Nat → Nat := fun q => adS base a1 a2 (px q)
def KhA : Ly := [.inl 9, .inl 7, .inr (0, 4), .inr (0, 4), .inr (1, 240), .inl 6, .inr (1, 25), .inr (2, 900), .inr (1, 901), .inl 4, .inr (1, 14), .inr (0, 8), .inr (0, 8), .inr (0, 8), .inr (0, 6), .inr (0, 6), .inr (0, 6), .inr (0, 48), .inr (0, 48), .inr (0, 18), .inl 4, .inr (1, 14), .inr (0, 8), .inr (0, 8), .inr (0, 8), .inr (0, 6), .inr (0, 6), .inr (0, 6), .inr (0, 48), .inr (0, 48), .inr (0, 18), .inl 8, .inr (0, 60), .inr (0, 60), .inr (0, 60), .inr (0, 60), .inr (0, 60), .inl 8, .inr (0, 60), .inr (0, 60), .inr (0, 60), .inr (0, 60), .inr (0, 60), .inr (4, 3), .inr (5, 3), .inl 4, .inr (1, 14), .inr (0, 8), .inr (0, 8), .inr (0, 8), .inr (0, 6), .inr (0, 6), .inr (0, 6), .inr (0, 48), .inr (0, 48), .inr (0, 18), .inl 8, .inr (0, 60), .inr (0, 60), .inr (0, 60), .inr (0, 60), .inr (0, 60), .inl 4, .inr (1, 14), .inr (0, 8), .inr (0, 8), .inr (0, 8), .inr (0, 6), .inr (0, 6), .inr (0, 6), .inr (0, 48), .inr (0, 48), .inr (0, 18), .inl 8, .inr (0, 60), .inr (0, 60), .inr (0, 60), .inr (0, 60), .inr (0, 60), .inl 4, .inr (1, 14), .inr (0, 8), .inr (0, 8), .inr (0, 8), .inr (0, 6), .inr (0, 6), .inr (0, 6), .inr (0, 48), .inr (0, 48), .inr (0, 18), .inl 8, .inr (0, 60), .inr (0, 60), .inr (0, 60), .inr (0, 60), .inr (0, 60), .inl 2, .inr (0, 5), .inr (0, 60), .inr (0, 5), .inl 1, .inr (0, 256), .inr (0, 256), .inr (1, 112), .inl 5, .inr (0, 64), .inl 3, .inr (0, 8), .inr (0, 256), .inl 0, .inr (0, 8), .inr (0, 8), .inr (0, 64), .inr (0, 64)]
def PhA0 : Nat → Nat := fun k => match k with | 6 => 1 | 7 => 5 | 8 => 9 | 9 => 20 | 10 => 31 | 11 => 37 | 12 => 43 | 13 => 44 | 14 => 96 | 15 => 99 | 16 => 100 | 17 => 104 | 18 => 106 | 19 => 109 | _ => 0
def PhA : Nat → Nat → Nat := fun o k => if o = 0 then PhA0 k else if o = 43 then 45 + 17 * k else if o = 44 then 56 + 17 * k else if o = 5 ∧ k = 0 then 7 else if o = 5 ∧ k = 3 then 8 else if o = 5 ∧ k = 13 then 6 else if o = 100 ∧ k = 2 then 102 else if o = 100 ∧ k = 3 then 103 else o + 1 + k
def zh : Sg := fun q => if q = 0 then zh0 else if q = 98 then (fun k => if k < 5 then -1 else 0) else if 1 ≤ q ∧ q < 5 then zTr (q - 1) else if q = 5 then zTo 0 else if q = 113 then zTo 1 else if 8 ≤ q ∧ q < 19 then zPr (q - 8) else if 19 ≤ q ∧ q < 30 then zPr (q - 19) else if 44 ≤ q ∧ q < 55 then zPr (q - 44) else if 61 ≤ q ∧ q < 72 then zPr (q - 61) else if 78 ≤ q ∧ q < 89 then zPr (q - 78) else (fun _ => 0)
def zhA : Sg := fun q => if q = 0 then zh0 else if q = 99 then (fun k => if k < 5 then -1 else 0) else if 1 ≤ q ∧ q < 5 then zTr (q - 1) else if 5 ≤ q ∧ q < 9 then zTo (q - 5) else if 9 ≤ q ∧ q < 20 then zPr (q - 9) else if 20 ≤ q ∧ q < 31 then zPr (q - 20) else if 45 ≤ q ∧ q < 56 then zPr (q - 45) else if 62 ≤ q ∧ q < 73 then zPr (q - 62) else if 79 ≤ q ∧ q < 90 then zPr (q - 79) else (fun _ => 0)
theorem oi_RX11_1 : OI RX11 1 := ⟨tm 260 (by decide +kernel) rfl, tm 261 (by decide +kernel) rfl, tm 262 (by decide +kernel) rfl⟩
theorem nw_RX11_26 : NW RX11 26 7 := ⟨_, _, _, _, cw_7, tm 263 (by decide +kernel) rfl, tm 264 (by decide +kernel) rfl, tm 236 (by decide +kernel) rfl, by decide⟩
theorem lk_RX11_28 : LK RX11 28 yX8_init := Or.inr ⟨"HairProvince", tm 265 (by decide +kernel) rfl⟩
theorem fc_RX11_29 : FC RX11 29 9 6 := ⟨_, _, _, _, cw_9, by decide, by decide, by decide, (fun _ => ⟨rfl, rfl⟩), tm 628 (by decide +kernel) rfl⟩
theorem nw_RX11_33 : NW RX11 33 6 := ⟨_, _, _, _, cw_6, tm 281 (by decide +kernel) rfl, tm 282 (by decide +kernel) rfl, tm 237 (by decide +kernel) rfl, by decide⟩
theorem lk_RX11_35 : LK RX11 35 yX7_init := Or.inr ⟨"HairProvince", tm 283 (by decide +kernel) rfl⟩
theorem fc_RX11_36 : FC RX11 36 9 7 := ⟨_, _, _, _, cw_9, by decide, by decide, by decide, (fun _ => ⟨rfl, rfl⟩), tm 629 (by decide +kernel) rfl⟩
theorem nw_RX11_40 : NW RX11 40 4 := ⟨_, _, _, _, cw_4, tm 390 (by decide +kernel) rfl, tm 391 (by decide +kernel) rfl, tm 242 (by decide +kernel) rfl, by decide⟩
theorem lk_RX11_42 : LK RX11 42 yX4_init := Or.inr ⟨"HairProvince", tm 392 (by decide +kernel) rfl⟩
theorem fc_RX11_43 : FC RX11 43 9 8 := ⟨_, _, _, _, cw_9, by decide, by decide, by decide, (fun _ => ⟨rfl, rfl⟩), tm 630 (by decide +kernel) rfl⟩
theorem fc_RX11_47 : FC RX11 47 9 9 := ⟨_, _, _, _, cw_9, by decide, by decide, by decide, (fun _ => ⟨rfl, rfl⟩), tm 631 (by decide +kernel) rfl⟩
theorem nw_RX11_50 : NW RX11 50 8 := ⟨_, _, _, _, cw_8, tm 492 (by decide +kernel) rfl, tm 493 (by decide +kernel) rfl, tm 243 (by decide +kernel) rfl, by decide⟩
theorem lk_RX11_52 : LK RX11 52 yX9_init := Or.inr ⟨"HairProvince", tm 494 (by decide +kernel) rfl⟩
theorem fc_RX11_53 : FC RX11 53 9 10 := ⟨_, _, _, _, cw_9, by decide, by decide, by decide, (fun _ => ⟨rfl, rfl⟩), tm 632 (by decide +kernel) rfl⟩
theorem fc_RX11_57 : FC RX11 57 9 11 := ⟨_, _, _, _, cw_9, by decide, by decide, by decide, (fun _ => ⟨rfl, rfl⟩), tm 633 (by decide +kernel) rfl⟩
theorem fc_RX11_60 : FC RX11 60 9 12 := ⟨_, _, _, _, cw_9, by decide, by decide, by decide, (fun _ => ⟨rfl, rfl⟩), tm 634 (by decide +kernel) rfl⟩
theorem fc_RX11_64 : FC RX11 64 9 13 := ⟨_, _, _, _, cw_9, by decide, by decide, by decide, (fun _ => ⟨rfl, rfl⟩), tm 635 (by decide +kernel) rfl⟩
theorem nw_RX11_68 : NW RX11 68 2 := ⟨_, _, _, _, cw_2, tm 535 (by decide +kernel) rfl, tm 536 (by decide +kernel) rfl, tm 244 (by decide +kernel) rfl, by decide⟩
theorem lk_RX11_70 : LK RX11 70 yX2_init := Or.inr ⟨"HairProvince", tm 537 (by decide +kernel) rfl⟩
theorem fc_RX11_71 : FC RX11 71 9 14 := ⟨_, _, _, _, cw_9, by decide, by decide, by decide, (fun _ => ⟨rfl, rfl⟩), tm 636 (by decide +kernel) rfl⟩
theorem fc_RX11_75 : FC RX11 75 9 15 := ⟨_, _, _, _, cw_9, by decide, by decide, by decide, (fun _ => ⟨rfl, rfl⟩), tm 637 (by decide +kernel) rfl⟩
theorem nw_RX11_79 : NW RX11 79 1 := ⟨_, _, _, _, cw_1, tm 556 (by decide +kernel) rfl, tm 557 (by decide +kernel) rfl, tm 245 (by decide +kernel) rfl, by decide⟩
theorem lk_RX11_81 : LK RX11 81 yX1_init := Or.inr ⟨"HairProvince", tm 558 (by decide +kernel) rfl⟩
theorem fc_RX11_82 : FC RX11 82 9 16 := ⟨_, _, _, _, cw_9, by decide, by decide, by decide, (fun _ => ⟨rfl, rfl⟩), tm 638 (by decide +kernel) rfl⟩
theorem nw_RX11_86 : NW RX11 86 5 := ⟨_, _, _, _, cw_5, tm 576 (by decide +kernel) rfl, tm 577 (by decide +kernel) rfl, tm 246 (by decide +kernel) rfl, by decide⟩
theorem lk_RX11_88 : LK RX11 88 yX6_init := Or.inr ⟨"HairProvince", tm 578 (by decide +kernel) rfl⟩
theorem fc_RX11_89 : FC RX11 89 9 17 := ⟨_, _, _, _, cw_9, by decide, by decide, by decide, (fun _ => ⟨rfl, rfl⟩), tm 639 (by decide +kernel) rfl⟩
theorem nw_RX11_93 : NW RX11 93 3 := ⟨_, _, _, _, cw_3, tm 586 (by decide +kernel) rfl, tm 587 (by decide +kernel) rfl, tm 247 (by decide +kernel) rfl, by decide⟩
theorem lk_RX11_95 : LK RX11 95 yX3_init := Or.inr ⟨"HairProvince", tm 588 (by decide +kernel) rfl⟩
theorem fc_RX11_96 : FC RX11 96 9 18 := ⟨_, _, _, _, cw_9, by decide, by decide, by decide, (fun _ => ⟨rfl, rfl⟩), tm 640 (by decide +kernel) rfl⟩
theorem nw_RX11_100 : NW RX11 100 0 := ⟨_, _, _, _, cw_0, tm 599 (by decide +kernel) rfl, tm 600 (by decide +kernel) rfl, tm 248 (by decide +kernel) rfl, by decide⟩
theorem lk_RX11_102 : LK RX11 102 yX0_init := Or.inr ⟨"HairProvince", tm 601 (by decide +kernel) rfl⟩
theorem fc_RX11_103 : FC RX11 103 9 19 := ⟨_, _, _, _, cw_9, by decide, by decide, by decide, (fun _ => ⟨rfl, rfl⟩), tm 641 (by decide +kernel) rfl⟩
theorem dX11_init_0 : decode cX11_init 0 = .ok (.aload_n 0, 1) := by decide +kernel
theorem dX11_init_1 : decode cX11_init 1 = .ok (.invokespecial 1, 3) := by decide +kernel
theorem dX11_init_4 : decode cX11_init 4 = .ok (.aload_n 0, 1) := by decide +kernel
theorem dX11_init_5 : decode cX11_init 5 = .ok (.iconst 0, 1) := by decide +kernel
theorem dX11_init_6 : decode cX11_init 6 = .ok (.putfield 9, 3) := by decide +kernel
theorem dX11_init_9 : decode cX11_init 9 = .ok (.aload_n 0, 1) := by decide +kernel
theorem dX11_init_10 : decode cX11_init 10 = .ok (.lconst 0, 1) := by decide +kernel
theorem dX11_init_11 : decode cX11_init 11 = .ok (.putfield 13, 3) := by decide +kernel
theorem dX11_init_14 : decode cX11_init 14 = .ok (.aload_n 0, 1) := by decide +kernel
theorem dX11_init_15 : decode cX11_init 15 = .ok (.lconst 1, 1) := by decide +kernel
theorem dX11_init_16 : decode cX11_init 16 = .ok (.putfield 17, 3) := by decide +kernel
theorem dX11_init_19 : decode cX11_init 19 = .ok (.aload_n 0, 1) := by decide +kernel
theorem dX11_init_20 : decode cX11_init 20 = .ok (.iconst (-1), 1) := by decide +kernel
theorem dX11_init_21 : decode cX11_init 21 = .ok (.putfield 20, 3) := by decide +kernel
theorem dX11_init_24 : decode cX11_init 24 = .ok (.aload_n 0, 1) := by decide +kernel
theorem dX11_init_25 : decode cX11_init 25 = .ok (.iconst (-1), 1) := by decide +kernel
theorem dX11_init_26 : decode cX11_init 26 = .ok (.putfield 23, 3) := by decide +kernel
theorem dX11_init_29 : decode cX11_init 29 = .ok (.aload_n 0, 1) := by decide +kernel
theorem dX11_init_30 : decode cX11_init 30 = .ok (.new 26, 3) := by decide +kernel
theorem dX11_init_33 : decode cX11_init 33 = .ok (.dup, 1) := by decide +kernel
theorem dX11_init_34 : decode cX11_init 34 = .ok (.invokespecial 28, 3) := by decide +kernel
theorem dX11_init_37 : decode cX11_init 37 = .ok (.putfield 29, 3) := by decide +kernel
theorem dX11_init_40 : decode cX11_init 40 = .ok (.aload_n 0, 1) := by decide +kernel
theorem dX11_init_41 : decode cX11_init 41 = .ok (.new 33, 3) := by decide +kernel
theorem dX11_init_44 : decode cX11_init 44 = .ok (.dup, 1) := by decide +kernel
theorem dX11_init_45 : decode cX11_init 45 = .ok (.invokespecial 35, 3) := by decide +kernel
theorem dX11_init_48 : decode cX11_init 48 = .ok (.putfield 36, 3) := by decide +kernel
theorem dX11_init_51 : decode cX11_init 51 = .ok (.aload_n 0, 1) := by decide +kernel
theorem dX11_init_52 : decode cX11_init 52 = .ok (.new 40, 3) := by decide +kernel
theorem dX11_init_55 : decode cX11_init 55 = .ok (.dup, 1) := by decide +kernel
theorem dX11_init_56 : decode cX11_init 56 = .ok (.invokespecial 42, 3) := by decide +kernel
theorem dX11_init_59 : decode cX11_init 59 = .ok (.putfield 43, 3) := by decide +kernel
theorem dX11_init_62 : decode cX11_init 62 = .ok (.aload_n 0, 1) := by decide +kernel
theorem dX11_init_63 : decode cX11_init 63 = .ok (.new 40, 3) := by decide +kernel
theorem dX11_init_66 : decode cX11_init 66 = .ok (.dup, 1) := by decide +kernel
theorem dX11_init_67 : decode cX11_init 67 = .ok (.invokespecial 42, 3) := by decide +kernel
theorem dX11_init_70 : decode cX11_init 70 = .ok (.putfield 47, 3) := by decide +kernel
theorem dX11_init_73 : decode cX11_init 73 = .ok (.aload_n 0, 1) := by decide +kernel
theorem dX11_init_74 : decode cX11_init 74 = .ok (.new 50, 3) := by decide +kernel
theorem dX11_init_77 : decode cX11_init 77 = .ok (.dup, 1) := by decide +kernel
theorem dX11_init_78 : decode cX11_init 78 = .ok (.invokespecial 52, 3) := by decide +kernel
theorem dX11_init_81 : decode cX11_init 81 = .ok (.putfield 53, 3) := by decide +kernel
theorem dX11_init_84 : decode cX11_init 84 = .ok (.aload_n 0, 1) := by decide +kernel
theorem dX11_init_85 : decode cX11_init 85 = .ok (.new 50, 3) := by decide +kernel
theorem dX11_init_88 : decode cX11_init 88 = .ok (.dup, 1) := by decide +kernel
theorem dX11_init_89 : decode cX11_init 89 = .ok (.invokespecial 52, 3) := by decide +kernel
theorem dX11_init_92 : decode cX11_init 92 = .ok (.putfield 57, 3) := by decide +kernel
theorem dX11_init_95 : decode cX11_init 95 = .ok (.aload_n 0, 1) := by decide +kernel
theorem dX11_init_96 : decode cX11_init 96 = .ok (.iconst 3, 1) := by decide +kernel
theorem dX11_init_97 : decode cX11_init 97 = .ok (.anewarray 40, 3) := by decide +kernel
theorem dX11_init_100 : decode cX11_init 100 = .ok (.putfield 60, 3) := by decide +kernel
theorem dX11_init_103 : decode cX11_init 103 = .ok (.aload_n 0, 1) := by decide +kernel
theorem dX11_init_104 : decode cX11_init 104 = .ok (.iconst 3, 1) := by decide +kernel
theorem dX11_init_105 : decode cX11_init 105 = .ok (.anewarray 50, 3) := by decide +kernel
theorem dX11_init_108 : decode cX11_init 108 = .ok (.putfield 64, 3) := by decide +kernel
theorem dX11_init_111 : decode cX11_init 111 = .ok (.iconst 0, 1) := by decide +kernel
theorem dX11_init_112 : decode cX11_init 112 = .ok (.istore_n 1, 1) := by decide +kernel
theorem dX11_init_113 : decode cX11_init 113 = .ok (.iload_n 1, 1) := by decide +kernel
theorem dX11_init_114 : decode cX11_init 114 = .ok (.iconst 3, 1) := by decide +kernel
theorem dX11_init_115 : decode cX11_init 115 = .ok (.if_icmp .ge 35, 3) := by decide +kernel
theorem dX11_init_118 : decode cX11_init 118 = .ok (.aload_n 0, 1) := by decide +kernel
theorem dX11_init_119 : decode cX11_init 119 = .ok (.getfield 60, 3) := by decide +kernel
theorem dX11_init_122 : decode cX11_init 122 = .ok (.iload_n 1, 1) := by decide +kernel
theorem dX11_init_123 : decode cX11_init 123 = .ok (.new 40, 3) := by decide +kernel
theorem dX11_init_126 : decode cX11_init 126 = .ok (.dup, 1) := by decide +kernel
theorem dX11_init_127 : decode cX11_init 127 = .ok (.invokespecial 42, 3) := by decide +kernel
theorem dX11_init_130 : decode cX11_init 130 = .ok (.aastore, 1) := by decide +kernel
theorem dX11_init_131 : decode cX11_init 131 = .ok (.aload_n 0, 1) := by decide +kernel
theorem dX11_init_132 : decode cX11_init 132 = .ok (.getfield 64, 3) := by decide +kernel
theorem dX11_init_135 : decode cX11_init 135 = .ok (.iload_n 1, 1) := by decide +kernel
theorem dX11_init_136 : decode cX11_init 136 = .ok (.new 50, 3) := by decide +kernel
theorem dX11_init_139 : decode cX11_init 139 = .ok (.dup, 1) := by decide +kernel
theorem dX11_init_140 : decode cX11_init 140 = .ok (.invokespecial 52, 3) := by decide +kernel
theorem dX11_init_143 : decode cX11_init 143 = .ok (.aastore, 1) := by decide +kernel
theorem dX11_init_144 : decode cX11_init 144 = .ok (.iinc 1 1, 3) := by decide +kernel
theorem dX11_init_147 : decode cX11_init 147 = .ok (.goto (-34), 3) := by decide +kernel
theorem dX11_init_150 : decode cX11_init 150 = .ok (.aload_n 0, 1) := by decide +kernel
theorem dX11_init_151 : decode cX11_init 151 = .ok (.new 68, 3) := by decide +kernel
theorem dX11_init_154 : decode cX11_init 154 = .ok (.dup, 1) := by decide +kernel
theorem dX11_init_155 : decode cX11_init 155 = .ok (.invokespecial 70, 3) := by decide +kernel
theorem dX11_init_158 : decode cX11_init 158 = .ok (.putfield 71, 3) := by decide +kernel
theorem dX11_init_161 : decode cX11_init 161 = .ok (.aload_n 0, 1) := by decide +kernel
theorem dX11_init_162 : decode cX11_init 162 = .ok (.iconst 5, 1) := by decide +kernel
theorem dX11_init_163 : decode cX11_init 163 = .ok (.newarray .int, 2) := by decide +kernel
theorem dX11_init_165 : decode cX11_init 165 = .ok (.putfield 75, 3) := by decide +kernel
theorem dX11_init_168 : decode cX11_init 168 = .ok (.iconst 0, 1) := by decide +kernel
theorem dX11_init_169 : decode cX11_init 169 = .ok (.istore_n 1, 1) := by decide +kernel
theorem dX11_init_170 : decode cX11_init 170 = .ok (.iload_n 1, 1) := by decide +kernel
theorem dX11_init_171 : decode cX11_init 171 = .ok (.iconst 5, 1) := by decide +kernel
theorem dX11_init_172 : decode cX11_init 172 = .ok (.if_icmp .ge 16, 3) := by decide +kernel
theorem dX11_init_175 : decode cX11_init 175 = .ok (.aload_n 0, 1) := by decide +kernel
theorem dX11_init_176 : decode cX11_init 176 = .ok (.getfield 75, 3) := by decide +kernel
theorem dX11_init_179 : decode cX11_init 179 = .ok (.iload_n 1, 1) := by decide +kernel
theorem dX11_init_180 : decode cX11_init 180 = .ok (.iconst (-1), 1) := by decide +kernel
theorem dX11_init_181 : decode cX11_init 181 = .ok (.iastore, 1) := by decide +kernel
theorem dX11_init_182 : decode cX11_init 182 = .ok (.iinc 1 1, 3) := by decide +kernel
theorem dX11_init_185 : decode cX11_init 185 = .ok (.goto (-15), 3) := by decide +kernel
theorem dX11_init_188 : decode cX11_init 188 = .ok (.aload_n 0, 1) := by decide +kernel
theorem dX11_init_189 : decode cX11_init 189 = .ok (.new 79, 3) := by decide +kernel
theorem dX11_init_192 : decode cX11_init 192 = .ok (.dup, 1) := by decide +kernel
theorem dX11_init_193 : decode cX11_init 193 = .ok (.invokespecial 81, 3) := by decide +kernel
theorem dX11_init_196 : decode cX11_init 196 = .ok (.putfield 82, 3) := by decide +kernel
theorem dX11_init_199 : decode cX11_init 199 = .ok (.aload_n 0, 1) := by decide +kernel
theorem dX11_init_200 : decode cX11_init 200 = .ok (.new 86, 3) := by decide +kernel
theorem dX11_init_203 : decode cX11_init 203 = .ok (.dup, 1) := by decide +kernel
theorem dX11_init_204 : decode cX11_init 204 = .ok (.invokespecial 88, 3) := by decide +kernel
theorem dX11_init_207 : decode cX11_init 207 = .ok (.putfield 89, 3) := by decide +kernel
theorem dX11_init_210 : decode cX11_init 210 = .ok (.aload_n 0, 1) := by decide +kernel
theorem dX11_init_211 : decode cX11_init 211 = .ok (.new 93, 3) := by decide +kernel
theorem dX11_init_214 : decode cX11_init 214 = .ok (.dup, 1) := by decide +kernel
theorem dX11_init_215 : decode cX11_init 215 = .ok (.invokespecial 95, 3) := by decide +kernel
theorem dX11_init_218 : decode cX11_init 218 = .ok (.putfield 96, 3) := by decide +kernel
theorem dX11_init_221 : decode cX11_init 221 = .ok (.aload_n 0, 1) := by decide +kernel
theorem dX11_init_222 : decode cX11_init 222 = .ok (.new 100, 3) := by decide +kernel
theorem dX11_init_225 : decode cX11_init 225 = .ok (.dup, 1) := by decide +kernel
theorem dX11_init_226 : decode cX11_init 226 = .ok (.invokespecial 102, 3) := by decide +kernel
theorem dX11_init_229 : decode cX11_init 229 = .ok (.putfield 103, 3) := by decide +kernel
theorem dX11_init_232 : decode cX11_init 232 = .ok (.return_, 1) := by decide +kernel
theorem mi_X11_init : Cond.code yX11_init cX11_init 2 none ∈ tbf ∧ Cond.initialized (yX11_init).cls ∈ tbf ∧ ((yX11_init).cls ≠ "java/lang/invoke/MethodHandle" ∧ (yX11_init).cls ≠ "java/lang/invoke/VarHandle" ∧ (parseMethodDescriptor (yX11_init).desc).map (fun d => d.parameters.length) = some 0) ∧ 2 ≤ 45 ∧ (yX11_init).name = "<init>" ∧ Cond.instanceMethod yX11_init ∈ tbf := ⟨tm 259 (by decide +kernel) rfl, tm 235 (by decide +kernel) rfl, by decide, by decide, rfl, tm 258 (by decide +kernel) rfl⟩
def cevS (dA : Nat → ClassId) (a1 a2 base : Nat) (K : Ly) (P : Nat → Nat → Nat) (σ : Sg) : Nat → va_E := fun q => ce_l (adS base a1 a2) dA (P q) (σ q) (K.getD q (.inl 0))
theorem ci_X11_init : CQ l D dA a1 a2 9 yX11_init cX11_init 2 6 113 5769 (fun base => QN D base 114 (cevS dA a1 a2 base KhA PhA zhA)) := by
  refine ci_mk (by decide) rfl (Nat.le_of_ble_eq_true rfl) ?_
  intro base
  change GN l D dA a1 a2 RX11 cX11_init 2 6 base 0 [some (.inr (.inr 0)), none] [] 1 (fun _ => .inr (9, dflt 9)) 0 0 (QN D base 114 (cevS dA a1 a2 base KhA PhA zhA)) 113 5769
  refine m_aload_n dX11_init_0 rfl rfl ?_
  refine m_obj oi_RX11_1 (Nat.le_of_ble_eq_true rfl) (Nat.le_of_ble_eq_true rfl) dX11_init_1 ?_
  refine m_aload_n dX11_init_4 rfl rfl ?_
  refine m_iconst dX11_init_5 (by decide) ?_
  refine m_puti fl_RX11_9 (by decide) (Nat.le_of_ble_eq_true rfl) rfl (Nat.le_of_ble_eq_true rfl) dX11_init_6 ?_
  refine m_aload_n dX11_init_9 rfl rfl ?_
  refine m_lconst (v := 0) dX11_init_10 (by decide) ?_
  refine m_putl fl_RX11_13 (by decide) (Nat.le_of_ble_eq_true rfl) rfl (Nat.le_of_ble_eq_true rfl) dX11_init_11 ?_
  refine m_aload_n dX11_init_14 rfl rfl ?_
  refine m_lconst (v := 1) dX11_init_15 (by decide) ?_
  refine m_putl fl_RX11_17 (by decide) (Nat.le_of_ble_eq_true rfl) rfl (Nat.le_of_ble_eq_true rfl) dX11_init_16 ?_
  refine m_aload_n dX11_init_19 rfl rfl ?_
  refine m_iconst dX11_init_20 (by decide) ?_
  refine m_puti fl_RX11_20 (by decide) (Nat.le_of_ble_eq_true rfl) rfl (Nat.le_of_ble_eq_true rfl) dX11_init_21 ?_
  refine m_aload_n dX11_init_24 rfl rfl ?_
  refine m_iconst dX11_init_25 (by decide) ?_
  refine m_puti fl_RX11_23 (by decide) (Nat.le_of_ble_eq_true rfl) rfl (Nat.le_of_ble_eq_true rfl) dX11_init_26 ?_
  refine m_aload_n dX11_init_29 rfl rfl ?_
  refine m_new nw_RX11_26 (Nat.le_of_ble_eq_true rfl) (Nat.le_of_ble_eq_true rfl) dX11_init_30 ?_
  refine m_dup dX11_init_33 rfl ?_
  refine m_init mi_X8_init lk_RX11_28 (ci_X8_init (l := l) (D := D) (dA := dA) (a1 := a1) (a2 := a2)) (Nat.le_of_ble_eq_true rfl) (Nat.le_of_ble_eq_true rfl) (Nat.le_of_ble_eq_true rfl) rfl rfl (Nat.le_of_ble_eq_true rfl) dX11_init_34 ?_
  refine m_putr fc_RX11_29 (Nat.le_of_ble_eq_true rfl) rfl (Nat.le_of_ble_eq_true rfl) dX11_init_37 ?_
  refine m_aload_n dX11_init_40 rfl rfl ?_
  refine m_new nw_RX11_33 (Nat.le_of_ble_eq_true rfl) (Nat.le_of_ble_eq_true rfl) dX11_init_41 ?_
  refine m_dup dX11_init_44 rfl ?_
  refine m_init mi_X7_init lk_RX11_35 (ci_X7_init (l := l) (D := D) (dA := dA) (a1 := a1) (a2 := a2)) (Nat.le_of_ble_eq_true rfl) (Nat.le_of_ble_eq_true rfl) (Nat.le_of_ble_eq_true rfl) rfl rfl (Nat.le_of_ble_eq_true rfl) dX11_init_45 ?_
  refine m_putr fc_RX11_36 (Nat.le_of_ble_eq_true rfl) rfl (Nat.le_of_ble_eq_true rfl) dX11_init_48 ?_
  refine m_aload_n dX11_init_51 rfl rfl ?_
  refine m_new nw_RX11_40 (Nat.le_of_ble_eq_true rfl) (Nat.le_of_ble_eq_true rfl) dX11_init_52 ?_
  refine m_dup dX11_init_55 rfl ?_
  refine m_init mi_X4_init lk_RX11_42 (ci_X4_init (l := l) (D := D) (dA := dA) (a1 := a1) (a2 := a2)) (Nat.le_of_ble_eq_true rfl) (Nat.le_of_ble_eq_true rfl) (Nat.le_of_ble_eq_true rfl) rfl rfl (Nat.le_of_ble_eq_true rfl) dX11_init_56 ?_
  refine m_putr fc_RX11_43 (Nat.le_of_ble_eq_true rfl) rfl (Nat.le_of_ble_eq_true rfl) dX11_init_59 ?_
  refine m_aload_n dX11_init_62 rfl rfl ?_
  refine m_new nw_RX11_40 (Nat.le_of_ble_eq_true rfl) (Nat.le_of_ble_eq_true rfl) dX11_init_63 ?_
  refine m_dup dX11_init_66 rfl ?_
  refine m_init mi_X4_init lk_RX11_42 (ci_X4_init (l := l) (D := D) (dA := dA) (a1 := a1) (a2 := a2)) (Nat.le_of_ble_eq_true rfl) (Nat.le_of_ble_eq_true rfl) (Nat.le_of_ble_eq_true rfl) rfl rfl (Nat.le_of_ble_eq_true rfl) dX11_init_67 ?_
  refine m_putr fc_RX11_47 (Nat.le_of_ble_eq_true rfl) rfl (Nat.le_of_ble_eq_true rfl) dX11_init_70 ?_
  refine m_aload_n dX11_init_73 rfl rfl ?_
  refine m_new nw_RX11_50 (Nat.le_of_ble_eq_true rfl) (Nat.le_of_ble_eq_true rfl) dX11_init_74 ?_
  refine m_dup dX11_init_77 rfl ?_
  refine m_init mi_X9_init lk_RX11_52 (ci_X9_init (l := l) (D := D) (dA := dA) (a1 := a1) (a2 := a2)) (Nat.le_of_ble_eq_true rfl) (Nat.le_of_ble_eq_true rfl) (Nat.le_of_ble_eq_true rfl) rfl rfl (Nat.le_of_ble_eq_true rfl) dX11_init_78 ?_
  refine m_putr fc_RX11_53 (Nat.le_of_ble_eq_true rfl) rfl (Nat.le_of_ble_eq_true rfl) dX11_init_81 ?_
  refine m_aload_n dX11_init_84 rfl rfl ?_
  refine m_new nw_RX11_50 (Nat.le_of_ble_eq_true rfl) (Nat.le_of_ble_eq_true rfl) dX11_init_85 ?_
  refine m_dup dX11_init_88 rfl ?_
  refine m_init mi_X9_init lk_RX11_52 (ci_X9_init (l := l) (D := D) (dA := dA) (a1 := a1) (a2 := a2)) (Nat.le_of_ble_eq_true rfl) (Nat.le_of_ble_eq_true rfl) (Nat.le_of_ble_eq_true rfl) rfl rfl (Nat.le_of_ble_eq_true rfl) dX11_init_89 ?_
  refine m_putr fc_RX11_57 (Nat.le_of_ble_eq_true rfl) rfl (Nat.le_of_ble_eq_true rfl) dX11_init_92 ?_
  refine m_aload_n dX11_init_95 rfl rfl ?_
  refine m_iconst dX11_init_96 (by decide) ?_
  refine m_anew4 (N := 3) (tm 390 (by decide +kernel) rfl) rfl (Nat.le_of_ble_eq_true rfl) (Nat.le_of_ble_eq_true rfl) (Nat.le_of_ble_eq_true rfl) dX11_init_97 ?_
  refine m_putr fc_RX11_60 (Nat.le_of_ble_eq_true rfl) rfl (Nat.le_of_ble_eq_true rfl) dX11_init_100 ?_
  refine m_aload_n dX11_init_103 rfl rfl ?_
  refine m_iconst dX11_init_104 (by decide) ?_
  refine m_anew5 (N := 3) (tm 492 (by decide +kernel) rfl) rfl (Nat.le_of_ble_eq_true rfl) (Nat.le_of_ble_eq_true rfl) (Nat.le_of_ble_eq_true rfl) dX11_init_105 ?_
  refine m_putr fc_RX11_64 (Nat.le_of_ble_eq_true rfl) rfl (Nat.le_of_ble_eq_true rfl) dX11_init_108 ?_
  refine m_iconst dX11_init_111 (by decide) ?_
  refine m_istore_n (lv' := [some (.inr (.inr 0)), some (.inl 0)]) dX11_init_112 rfl (Nat.le_of_ble_eq_true rfl) rfl ?_
  refine m_iload_n dX11_init_113 rfl rfl ?_
  refine m_iconst dX11_init_114 (by decide) ?_
  refine m_icmpge_f (tgt := 150) dX11_init_115 (by decide) (by decide) ?_
  refine m_aload_n dX11_init_118 rfl rfl ?_
  refine m_getr (z := 43) fl_RX11_60 (Nat.le_of_ble_eq_true rfl) rfl rfl dX11_init_119 ?_
  refine m_iload_n dX11_init_122 rfl rfl ?_
  refine m_new nw_RX11_40 (Nat.le_of_ble_eq_true rfl) (Nat.le_of_ble_eq_true rfl) dX11_init_123 ?_
  refine m_dup dX11_init_126 rfl ?_
  refine m_init mi_X4_init lk_RX11_42 (ci_X4_init (l := l) (D := D) (dA := dA) (a1 := a1) (a2 := a2)) (Nat.le_of_ble_eq_true rfl) (Nat.le_of_ble_eq_true rfl) (Nat.le_of_ble_eq_true rfl) rfl rfl (Nat.le_of_ble_eq_true rfl) dX11_init_127 ?_
  refine m_aast (t := 4) (ci := 4) (r := (RX4, TX4, 20)) rfl rfl (Nat.le_of_ble_eq_true rfl) rfl (Nat.le_of_ble_eq_true rfl) rfl (by decide) dX11_init_130 ?_
  refine m_aload_n dX11_init_131 rfl rfl ?_
  refine m_getr (z := 44) fl_RX11_64 (Nat.le_of_ble_eq_true rfl) rfl rfl dX11_init_132 ?_
  refine m_iload_n dX11_init_135 rfl rfl ?_
  refine m_new nw_RX11_50 (Nat.le_of_ble_eq_true rfl) (Nat.le_of_ble_eq_true rfl) dX11_init_136 ?_
  refine m_dup dX11_init_139 rfl ?_
  refine m_init mi_X9_init lk_RX11_52 (ci_X9_init (l := l) (D := D) (dA := dA) (a1 := a1) (a2 := a2)) (Nat.le_of_ble_eq_true rfl) (Nat.le_of_ble_eq_true rfl) (Nat.le_of_ble_eq_true rfl) rfl rfl (Nat.le_of_ble_eq_true rfl) dX11_init_140 ?_
  refine m_aast (t := 5) (ci := 8) (r := (RX9, TX9, 8)) rfl rfl (Nat.le_of_ble_eq_true rfl) rfl (Nat.le_of_ble_eq_true rfl) rfl (by decide) dX11_init_143 ?_
  refine m_iinc (y := 1) (lv' := [some (.inr (.inr 0)), some (.inl 1)]) dX11_init_144 rfl (Nat.le_of_ble_eq_true rfl) (by decide) rfl ?_
  refine m_goto (tgt := 113) dX11_init_147 (by decide) ?_
  refine m_iload_n dX11_init_113 rfl rfl ?_
  refine m_iconst dX11_init_114 (by decide) ?_
  refine m_icmpge_f (tgt := 150) dX11_init_115 (by decide) (by decide) ?_
  refine m_aload_n dX11_init_118 rfl rfl ?_
  refine m_getr (z := 43) fl_RX11_60 (Nat.le_of_ble_eq_true rfl) rfl rfl dX11_init_119 ?_
  refine m_iload_n dX11_init_122 rfl rfl ?_
  refine m_new nw_RX11_40 (Nat.le_of_ble_eq_true rfl) (Nat.le_of_ble_eq_true rfl) dX11_init_123 ?_
  refine m_dup dX11_init_126 rfl ?_
  refine m_init mi_X4_init lk_RX11_42 (ci_X4_init (l := l) (D := D) (dA := dA) (a1 := a1) (a2 := a2)) (Nat.le_of_ble_eq_true rfl) (Nat.le_of_ble_eq_true rfl) (Nat.le_of_ble_eq_true rfl) rfl rfl (Nat.le_of_ble_eq_true rfl) dX11_init_127 ?_
  refine m_aast (t := 4) (ci := 4) (r := (RX4, TX4, 20)) rfl rfl (Nat.le_of_ble_eq_true rfl) rfl (Nat.le_of_ble_eq_true rfl) rfl (by decide) dX11_init_130 ?_
  refine m_aload_n dX11_init_131 rfl rfl ?_
  refine m_getr (z := 44) fl_RX11_64 (Nat.le_of_ble_eq_true rfl) rfl rfl dX11_init_132 ?_
  refine m_iload_n dX11_init_135 rfl rfl ?_
  refine m_new nw_RX11_50 (Nat.le_of_ble_eq_true rfl) (Nat.le_of_ble_eq_true rfl) dX11_init_136 ?_
  refine m_dup dX11_init_139 rfl ?_
  refine m_init mi_X9_init lk_RX11_52 (ci_X9_init (l := l) (D := D) (dA := dA) (a1 := a1) (a2 := a2)) (Nat.le_of_ble_eq_true rfl) (Nat.le_of_ble_eq_true rfl) (Nat.le_of_ble_eq_true rfl) rfl rfl (Nat.le_of_ble_eq_true rfl) dX11_init_140 ?_
  refine m_aast (t := 5) (ci := 8) (r := (RX9, TX9, 8)) rfl rfl (Nat.le_of_ble_eq_true rfl) rfl (Nat.le_of_ble_eq_true rfl) rfl (by decide) dX11_init_143 ?_
  refine m_iinc (y := 2) (lv' := [some (.inr (.inr 0)), some (.inl 2)]) dX11_init_144 rfl (Nat.le_of_ble_eq_true rfl) (by decide) rfl ?_
  refine m_goto (tgt := 113) dX11_init_147 (by decide) ?_
  refine m_iload_n dX11_init_113 rfl rfl ?_
  refine m_iconst dX11_init_114 (by decide) ?_
  refine m_icmpge_f (tgt := 150) dX11_init_115 (by decide) (by decide) ?_
  refine m_aload_n dX11_init_118 rfl rfl ?_
  refine m_getr (z := 43) fl_RX11_60 (Nat.le_of_ble_eq_true rfl) rfl rfl dX11_init_119 ?_
  refine m_iload_n dX11_init_122 rfl rfl ?_
  refine m_new nw_RX11_40 (Nat.le_of_ble_eq_true rfl) (Nat.le_of_ble_eq_true rfl) dX11_init_123 ?_
  refine m_dup dX11_init_126 rfl ?_
  refine m_init mi_X4_init lk_RX11_42 (ci_X4_init (l := l) (D := D) (dA := dA) (a1 := a1) (a2 := a2)) (Nat.le_of_ble_eq_true rfl) (Nat.le_of_ble_eq_true rfl) (Nat.le_of_ble_eq_true rfl) rfl rfl (Nat.le_of_ble_eq_true rfl) dX11_init_127 ?_
  refine m_aast (t := 4) (ci := 4) (r := (RX4, TX4, 20)) rfl rfl (Nat.le_of_ble_eq_true rfl) rfl (Nat.le_of_ble_eq_true rfl) rfl (by decide) dX11_init_130 ?_
  refine m_aload_n dX11_init_131 rfl rfl ?_
  refine m_getr (z := 44) fl_RX11_64 (Nat.le_of_ble_eq_true rfl) rfl rfl dX11_init_132 ?_
  refine m_iload_n dX11_init_135 rfl rfl ?_
  refine m_new nw_RX11_50 (Nat.le_of_ble_eq_true rfl) (Nat.le_of_ble_eq_true rfl) dX11_init_136 ?_
  refine m_dup dX11_init_139 rfl ?_
  refine m_init mi_X9_init lk_RX11_52 (ci_X9_init (l := l) (D := D) (dA := dA) (a1 := a1) (a2 := a2)) (Nat.le_of_ble_eq_true rfl) (Nat.le_of_ble_eq_true rfl) (Nat.le_of_ble_eq_true rfl) rfl rfl (Nat.le_of_ble_eq_true rfl) dX11_init_140 ?_
  refine m_aast (t := 5) (ci := 8) (r := (RX9, TX9, 8)) rfl rfl (Nat.le_of_ble_eq_true rfl) rfl (Nat.le_of_ble_eq_true rfl) rfl (by decide) dX11_init_143 ?_
  refine m_iinc (y := 3) (lv' := [some (.inr (.inr 0)), some (.inl 3)]) dX11_init_144 rfl (Nat.le_of_ble_eq_true rfl) (by decide) rfl ?_
  refine m_goto (tgt := 113) dX11_init_147 (by decide) ?_
  refine m_iload_n dX11_init_113 rfl rfl ?_
  refine m_iconst dX11_init_114 (by decide) ?_
  refine m_icmpge_t (tgt := 150) dX11_init_115 (by decide) (by decide) ?_
  refine m_aload_n dX11_init_150 rfl rfl ?_
  refine m_new nw_RX11_68 (Nat.le_of_ble_eq_true rfl) (Nat.le_of_ble_eq_true rfl) dX11_init_151 ?_
  refine m_dup dX11_init_154 rfl ?_
  refine m_init mi_X2_init lk_RX11_70 (ci_X2_init (l := l) (D := D) (dA := dA) (a1 := a1) (a2 := a2)) (Nat.le_of_ble_eq_true rfl) (Nat.le_of_ble_eq_true rfl) (Nat.le_of_ble_eq_true rfl) rfl rfl (Nat.le_of_ble_eq_true rfl) dX11_init_155 ?_
  refine m_putr fc_RX11_71 (Nat.le_of_ble_eq_true rfl) rfl (Nat.le_of_ble_eq_true rfl) dX11_init_158 ?_
  refine m_aload_n dX11_init_161 rfl rfl ?_
  refine m_iconst dX11_init_162 (by decide) ?_
  refine m_new0 (N := 5) rfl (Nat.le_of_ble_eq_true rfl) (Nat.le_of_ble_eq_true rfl) (Nat.le_of_ble_eq_true rfl) dX11_init_163 ?_
  refine m_putr fc_RX11_75 (Nat.le_of_ble_eq_true rfl) rfl (Nat.le_of_ble_eq_true rfl) dX11_init_165 ?_
  refine m_iconst dX11_init_168 (by decide) ?_
  refine m_istore_n (lv' := [some (.inr (.inr 0)), some (.inl 0)]) dX11_init_169 rfl (Nat.le_of_ble_eq_true rfl) rfl ?_
  refine m_iload_n dX11_init_170 rfl rfl ?_
  refine m_iconst dX11_init_171 (by decide) ?_
  refine m_icmpge_f (tgt := 188) dX11_init_172 (by decide) (by decide) ?_
  refine m_aload_n dX11_init_175 rfl rfl ?_
  refine m_getr (z := 99) fl_RX11_75 (Nat.le_of_ble_eq_true rfl) rfl rfl dX11_init_176 ?_
  refine m_iload_n dX11_init_179 rfl rfl ?_
  refine m_iconst dX11_init_180 (by decide) ?_
  refine m_iast (Nat.le_of_ble_eq_true rfl) rfl (by decide) dX11_init_181 ?_
  refine m_iinc (y := 1) (lv' := [some (.inr (.inr 0)), some (.inl 1)]) dX11_init_182 rfl (Nat.le_of_ble_eq_true rfl) (by decide) rfl ?_
  refine m_goto (tgt := 170) dX11_init_185 (by decide) ?_
  refine m_iload_n dX11_init_170 rfl rfl ?_
  refine m_iconst dX11_init_171 (by decide) ?_
  refine m_icmpge_f (tgt := 188) dX11_init_172 (by decide) (by decide) ?_
  refine m_aload_n dX11_init_175 rfl rfl ?_
  refine m_getr (z := 99) fl_RX11_75 (Nat.le_of_ble_eq_true rfl) rfl rfl dX11_init_176 ?_
  refine m_iload_n dX11_init_179 rfl rfl ?_
  refine m_iconst dX11_init_180 (by decide) ?_
  refine m_iast (Nat.le_of_ble_eq_true rfl) rfl (by decide) dX11_init_181 ?_
  refine m_iinc (y := 2) (lv' := [some (.inr (.inr 0)), some (.inl 2)]) dX11_init_182 rfl (Nat.le_of_ble_eq_true rfl) (by decide) rfl ?_
  refine m_goto (tgt := 170) dX11_init_185 (by decide) ?_
  refine m_iload_n dX11_init_170 rfl rfl ?_
  refine m_iconst dX11_init_171 (by decide) ?_
  refine m_icmpge_f (tgt := 188) dX11_init_172 (by decide) (by decide) ?_
  refine m_aload_n dX11_init_175 rfl rfl ?_
  refine m_getr (z := 99) fl_RX11_75 (Nat.le_of_ble_eq_true rfl) rfl rfl dX11_init_176 ?_
  refine m_iload_n dX11_init_179 rfl rfl ?_
  refine m_iconst dX11_init_180 (by decide) ?_
  refine m_iast (Nat.le_of_ble_eq_true rfl) rfl (by decide) dX11_init_181 ?_
  refine m_iinc (y := 3) (lv' := [some (.inr (.inr 0)), some (.inl 3)]) dX11_init_182 rfl (Nat.le_of_ble_eq_true rfl) (by decide) rfl ?_
  refine m_goto (tgt := 170) dX11_init_185 (by decide) ?_
  refine m_iload_n dX11_init_170 rfl rfl ?_
  refine m_iconst dX11_init_171 (by decide) ?_
  refine m_icmpge_f (tgt := 188) dX11_init_172 (by decide) (by decide) ?_
  refine m_aload_n dX11_init_175 rfl rfl ?_
  refine m_getr (z := 99) fl_RX11_75 (Nat.le_of_ble_eq_true rfl) rfl rfl dX11_init_176 ?_
  refine m_iload_n dX11_init_179 rfl rfl ?_
  refine m_iconst dX11_init_180 (by decide) ?_
  refine m_iast (Nat.le_of_ble_eq_true rfl) rfl (by decide) dX11_init_181 ?_
  refine m_iinc (y := 4) (lv' := [some (.inr (.inr 0)), some (.inl 4)]) dX11_init_182 rfl (Nat.le_of_ble_eq_true rfl) (by decide) rfl ?_
  refine m_goto (tgt := 170) dX11_init_185 (by decide) ?_
  refine m_iload_n dX11_init_170 rfl rfl ?_
  refine m_iconst dX11_init_171 (by decide) ?_
  refine m_icmpge_f (tgt := 188) dX11_init_172 (by decide) (by decide) ?_
  refine m_aload_n dX11_init_175 rfl rfl ?_
  refine m_getr (z := 99) fl_RX11_75 (Nat.le_of_ble_eq_true rfl) rfl rfl dX11_init_176 ?_
  refine m_iload_n dX11_init_179 rfl rfl ?_
  refine m_iconst dX11_init_180 (by decide) ?_
  refine m_iast (Nat.le_of_ble_eq_true rfl) rfl (by decide) dX11_init_181 ?_
  refine m_iinc (y := 5) (lv' := [some (.inr (.inr 0)), some (.inl 5)]) dX11_init_182 rfl (Nat.le_of_ble_eq_true rfl) (by decide) rfl ?_
  refine m_goto (tgt := 170) dX11_init_185 (by decide) ?_
  refine m_iload_n dX11_init_170 rfl rfl ?_
  refine m_iconst dX11_init_171 (by decide) ?_
  refine m_icmpge_t (tgt := 188) dX11_init_172 (by decide) (by decide) ?_
  refine m_aload_n dX11_init_188 rfl rfl ?_
  refine m_new nw_RX11_79 (Nat.le_of_ble_eq_true rfl) (Nat.le_of_ble_eq_true rfl) dX11_init_189 ?_
  refine m_dup dX11_init_192 rfl ?_
  refine m_init mi_X1_init lk_RX11_81 (ci_X1_init (l := l) (D := D) (dA := dA) (a1 := a1) (a2 := a2)) (Nat.le_of_ble_eq_true rfl) (Nat.le_of_ble_eq_true rfl) (Nat.le_of_ble_eq_true rfl) rfl rfl (Nat.le_of_ble_eq_true rfl) dX11_init_193 ?_
  refine m_putr fc_RX11_82 (Nat.le_of_ble_eq_true rfl) rfl (Nat.le_of_ble_eq_true rfl) dX11_init_196 ?_
  refine m_aload_n dX11_init_199 rfl rfl ?_
  refine m_new nw_RX11_86 (Nat.le_of_ble_eq_true rfl) (Nat.le_of_ble_eq_true rfl) dX11_init_200 ?_
  refine m_dup dX11_init_203 rfl ?_
  refine m_init mi_X6_init lk_RX11_88 (ci_X6_init (l := l) (D := D) (dA := dA) (a1 := a1) (a2 := a2)) (Nat.le_of_ble_eq_true rfl) (Nat.le_of_ble_eq_true rfl) (Nat.le_of_ble_eq_true rfl) rfl rfl (Nat.le_of_ble_eq_true rfl) dX11_init_204 ?_
  refine m_putr fc_RX11_89 (Nat.le_of_ble_eq_true rfl) rfl (Nat.le_of_ble_eq_true rfl) dX11_init_207 ?_
  refine m_aload_n dX11_init_210 rfl rfl ?_
  refine m_new nw_RX11_93 (Nat.le_of_ble_eq_true rfl) (Nat.le_of_ble_eq_true rfl) dX11_init_211 ?_
  refine m_dup dX11_init_214 rfl ?_
  refine m_init mi_X3_init lk_RX11_95 (ci_X3_init (l := l) (D := D) (dA := dA) (a1 := a1) (a2 := a2)) (Nat.le_of_ble_eq_true rfl) (Nat.le_of_ble_eq_true rfl) (Nat.le_of_ble_eq_true rfl) rfl rfl (Nat.le_of_ble_eq_true rfl) dX11_init_215 ?_
  refine m_putr fc_RX11_96 (Nat.le_of_ble_eq_true rfl) rfl (Nat.le_of_ble_eq_true rfl) dX11_init_218 ?_
  refine m_aload_n dX11_init_221 rfl rfl ?_
  refine m_new nw_RX11_100 (Nat.le_of_ble_eq_true rfl) (Nat.le_of_ble_eq_true rfl) dX11_init_222 ?_
  refine m_dup dX11_init_225 rfl ?_
  refine m_init mi_X0_init lk_RX11_102 (ci_X0_init (l := l) (D := D) (dA := dA) (a1 := a1) (a2 := a2)) (Nat.le_of_ble_eq_true rfl) (Nat.le_of_ble_eq_true rfl) (Nat.le_of_ble_eq_true rfl) rfl rfl (Nat.le_of_ble_eq_true rfl) dX11_init_226 ?_
  refine m_putr fc_RX11_103 (Nat.le_of_ble_eq_true rfl) rfl (Nat.le_of_ble_eq_true rfl) dX11_init_229 ?_
  refine m_vret rfl ?_ (Nat.le_of_ble_eq_true rfl) (Nat.le_of_ble_eq_true rfl) dX11_init_232
  intro q hq
  match q, hq with
  | 0, _ => exact ve.of rfl
  | 1, _ => exact ve.of rfl
  | 2, _ => exact ve.of rfl
  | 3, _ => exact ve.of rfl
  | 4, _ => exact ve.of rfl
  | 5, _ => exact ve.of rfl
  | 6, _ => exact ve.of rfl
  | 7, _ => exact ve.of rfl
  | 8, _ => exact ve.of rfl
  | 9, _ => exact ve.of rfl
  | 10, _ => exact ve.of rfl
  | 11, _ => exact ve.of rfl
  | 12, _ => exact ve.of rfl
  | 13, _ => exact ve.of rfl
  | 14, _ => exact ve.of rfl
  | 15, _ => exact ve.of rfl
  | 16, _ => exact ve.of rfl
  | 17, _ => exact ve.of rfl
  | 18, _ => exact ve.of rfl
  | 19, _ => exact ve.of rfl
  | 20, _ => exact ve.of rfl
  | 21, _ => exact ve.of rfl
  | 22, _ => exact ve.of rfl
  | 23, _ => exact ve.of rfl
  | 24, _ => exact ve.of rfl
  | 25, _ => exact ve.of rfl
  | 26, _ => exact ve.of rfl
  | 27, _ => exact ve.of rfl
  | 28, _ => exact ve.of rfl
  | 29, _ => exact ve.of rfl
  | 30, _ => exact ve.of rfl
  | 31, _ => exact ve.of rfl
  | 32, _ => exact ve.of rfl
  | 33, _ => exact ve.of rfl
  | 34, _ => exact ve.of rfl
  | 35, _ => exact ve.of rfl
  | 36, _ => exact ve.of rfl
  | 37, _ => exact ve.of rfl
  | 38, _ => exact ve.of rfl
  | 39, _ => exact ve.of rfl
  | 40, _ => exact ve.of rfl
  | 41, _ => exact ve.of rfl
  | 42, _ => exact ve.of rfl
  | 43, _ => exact ve_q (fun j hj => by rcases (show j = 0 ∨ j = 1 ∨ j = 2 by omega) with rfl | rfl | rfl <;> rfl)
  | 44, _ => exact ve_q (fun j hj => by rcases (show j = 0 ∨ j = 1 ∨ j = 2 by omega) with rfl | rfl | rfl <;> rfl)
  | 45, _ => exact ve.of rfl
  | 46, _ => exact ve.of rfl
  | 47, _ => exact ve.of rfl
  | 48, _ => exact ve.of rfl
  | 49, _ => exact ve.of rfl
  | 50, _ => exact ve.of rfl
  | 51, _ => exact ve.of rfl
  | 52, _ => exact ve.of rfl
  | 53, _ => exact ve.of rfl
  | 54, _ => exact ve.of rfl
  | 55, _ => exact ve.of rfl
  | 56, _ => exact ve.of rfl
  | 57, _ => exact ve.of rfl
  | 58, _ => exact ve.of rfl
  | 59, _ => exact ve.of rfl
  | 60, _ => exact ve.of rfl
  | 61, _ => exact ve.of rfl
  | 62, _ => exact ve.of rfl
  | 63, _ => exact ve.of rfl
  | 64, _ => exact ve.of rfl
  | 65, _ => exact ve.of rfl
  | 66, _ => exact ve.of rfl
  | 67, _ => exact ve.of rfl
  | 68, _ => exact ve.of rfl
  | 69, _ => exact ve.of rfl
  | 70, _ => exact ve.of rfl
  | 71, _ => exact ve.of rfl
  | 72, _ => exact ve.of rfl
  | 73, _ => exact ve.of rfl
  | 74, _ => exact ve.of rfl
  | 75, _ => exact ve.of rfl
  | 76, _ => exact ve.of rfl
  | 77, _ => exact ve.of rfl
  | 78, _ => exact ve.of rfl
  | 79, _ => exact ve.of rfl
  | 80, _ => exact ve.of rfl
  | 81, _ => exact ve.of rfl
  | 82, _ => exact ve.of rfl
  | 83, _ => exact ve.of rfl
  | 84, _ => exact ve.of rfl
  | 85, _ => exact ve.of rfl
  | 86, _ => exact ve.of rfl
  | 87, _ => exact ve.of rfl
  | 88, _ => exact ve.of rfl
  | 89, _ => exact ve.of rfl
  | 90, _ => exact ve.of rfl
  | 91, _ => exact ve.of rfl
  | 92, _ => exact ve.of rfl
  | 93, _ => exact ve.of rfl
  | 94, _ => exact ve.of rfl
  | 95, _ => exact ve.of rfl
  | 96, _ => exact ve.of rfl
  | 97, _ => exact ve.of rfl
  | 98, _ => exact ve.of rfl
  | 99, _ => exact ve_i (fun j hj => by rcases (show j = 0 ∨ j = 1 ∨ j = 2 ∨ j = 3 ∨ j = 4 by omega) with rfl | rfl | rfl | rfl | rfl <;> rfl)
  | 100, _ => exact ve.of rfl
  | 101, _ => exact ve.of rfl
  | 102, _ => exact ve.of rfl
  | 103, _ => exact ve.of rfl
  | 104, _ => exact ve.of rfl
  | 105, _ => exact ve.of rfl
  | 106, _ => exact ve.of rfl
  | 107, _ => exact ve.of rfl
  | 108, _ => exact ve.of rfl
  | 109, _ => exact ve.of rfl
  | 110, _ => exact ve.of rfl
  | 111, _ => exact ve.of rfl
  | 112, _ => exact ve.of rfl
  | 113, _ => exact ve.of rfl
  | q + 114, h => exact absurd h (Nat.not_lt.mpr (Nat.le_trans (Nat.le_of_ble_eq_true rfl : _ ≤ 114) (Nat.le_add_left 114 q)))
theorem px_v {base : Nat} (k : Nat) (h : k < 114) : ve (ce_l (adS base a1 a2) dA (PhA (px k)) (zhA (px k)) (KhA.getD (px k) (.inl 0))) (ce_l (adX base a1 a2) dA (Ph k) (zh k) (Kh.getD k (.inl 0))) := by
  match k, h with
  | 0, _ => exact ve.of rfl
  | 1, _ => exact ve.of rfl
  | 2, _ => exact ve.of rfl
  | 3, _ => exact ve.of rfl
  | 4, _ => exact ve.of rfl
  | 5, _ => exact ve.of rfl
  | 6, _ => exact ve.of rfl
  | 7, _ => exact ve.of rfl
  | 8, _ => exact ve.of rfl
  | 9, _ => exact ve.of rfl
  | 10, _ => exact ve.of rfl
  | 11, _ => exact ve.of rfl
  | 12, _ => exact ve.of rfl
  | 13, _ => exact ve.of rfl
  | 14, _ => exact ve.of rfl
  | 15, _ => exact ve.of rfl
  | 16, _ => exact ve.of rfl
  | 17, _ => exact ve.of rfl
  | 18, _ => exact ve.of rfl
  | 19, _ => exact ve.of rfl
  | 20, _ => exact ve.of rfl
  | 21, _ => exact ve.of rfl
  | 22, _ => exact ve.of rfl
  | 23, _ => exact ve.of rfl
  | 24, _ => exact ve.of rfl
  | 25, _ => exact ve.of rfl
  | 26, _ => exact ve.of rfl
  | 27, _ => exact ve.of rfl
  | 28, _ => exact ve.of rfl
  | 29, _ => exact ve.of rfl
  | 30, _ => exact ve.of rfl
  | 31, _ => exact ve.of rfl
  | 32, _ => exact ve.of rfl
  | 33, _ => exact ve.of rfl
  | 34, _ => exact ve.of rfl
  | 35, _ => exact ve.of rfl
  | 36, _ => exact ve.of rfl
  | 37, _ => exact ve.of rfl
  | 38, _ => exact ve.of rfl
  | 39, _ => exact ve.of rfl
  | 40, _ => exact ve.of rfl
  | 41, _ => exact ve.of rfl
  | 42, _ => exact ve_q (fun j hj => by rcases (show j = 0 ∨ j = 1 ∨ j = 2 by omega) with rfl | rfl | rfl <;> rfl)
  | 43, _ => exact ve_q (fun j hj => by rcases (show j = 0 ∨ j = 1 ∨ j = 2 by omega) with rfl | rfl | rfl <;> rfl)
  | 44, _ => exact ve.of rfl
  | 45, _ => exact ve.of rfl
  | 46, _ => exact ve.of rfl
  | 47, _ => exact ve.of rfl
  | 48, _ => exact ve.of rfl
  | 49, _ => exact ve.of rfl
  | 50, _ => exact ve.of rfl
  | 51, _ => exact ve.of rfl
  | 52, _ => exact ve.of rfl
  | 53, _ => exact ve.of rfl
  | 54, _ => exact ve.of rfl
  | 55, _ => exact ve.of rfl
  | 56, _ => exact ve.of rfl
  | 57, _ => exact ve.of rfl
  | 58, _ => exact ve.of rfl
  | 59, _ => exact ve.of rfl
  | 60, _ => exact ve.of rfl
  | 61, _ => exact ve.of rfl
  | 62, _ => exact ve.of rfl
  | 63, _ => exact ve.of rfl
  | 64, _ => exact ve.of rfl
  | 65, _ => exact ve.of rfl
  | 66, _ => exact ve.of rfl
  | 67, _ => exact ve.of rfl
  | 68, _ => exact ve.of rfl
  | 69, _ => exact ve.of rfl
  | 70, _ => exact ve.of rfl
  | 71, _ => exact ve.of rfl
  | 72, _ => exact ve.of rfl
  | 73, _ => exact ve.of rfl
  | 74, _ => exact ve.of rfl
  | 75, _ => exact ve.of rfl
  | 76, _ => exact ve.of rfl
  | 77, _ => exact ve.of rfl
  | 78, _ => exact ve.of rfl
  | 79, _ => exact ve.of rfl
  | 80, _ => exact ve.of rfl
  | 81, _ => exact ve.of rfl
  | 82, _ => exact ve.of rfl
  | 83, _ => exact ve.of rfl
  | 84, _ => exact ve.of rfl
  | 85, _ => exact ve.of rfl
  | 86, _ => exact ve.of rfl
  | 87, _ => exact ve.of rfl
  | 88, _ => exact ve.of rfl
  | 89, _ => exact ve.of rfl
  | 90, _ => exact ve.of rfl
  | 91, _ => exact ve.of rfl
  | 92, _ => exact ve.of rfl
  | 93, _ => exact ve.of rfl
  | 94, _ => exact ve.of rfl
  | 95, _ => exact ve.of rfl
  | 96, _ => exact ve.of rfl
  | 97, _ => exact ve.of rfl
  | 98, _ => exact ve.of rfl
  | 99, _ => exact ve.of rfl
  | 100, _ => exact ve.of rfl
  | 101, _ => exact ve.of rfl
  | 102, _ => exact ve.of rfl
  | 103, _ => exact ve.of rfl
  | 104, _ => exact ve.of rfl
  | 105, _ => exact ve.of rfl
  | 106, _ => exact ve.of rfl
  | 107, _ => exact ve.of rfl
  | 108, _ => exact ve.of rfl
  | 109, _ => exact ve.of rfl
  | 110, _ => exact ve.of rfl
  | 111, _ => exact ve.of rfl
  | 112, _ => exact ve.of rfl
  | 113, _ => exact ve.of rfl
  | q + 114, h => exact absurd h (Nat.not_lt.mpr (Nat.le_add_left 114 q))
theorem px_b {q : Nat} (h : q < 114) : px q < 114 := by unfold px; split <;> (try split) <;> (try split) <;> omega
theorem px_w {z : Nat} (h : z < 114) : (px z = z ∧ z < 6) ∨ (px z = 6 ∧ z = 113) ∨ (px z = z + 1 ∧ 6 ≤ z ∧ z < 113) := by
  unfold px
  by_cases e1 : z < 6
  · rw [if_pos e1]; omega
  · rw [if_neg e1]
    by_cases e2 : z = 113
    · rw [if_pos e2]; omega
    · rw [if_neg e2, if_pos (by omega)]; omega
theorem px_i {q r : Nat} (h : q < 114) (h' : r < 114) (e : px q = px r) : q = r := by
  rcases px_w h with x | x | x <;> rcases px_w h' with y | y | y <;> omega
theorem adX_1 {base : Nat} : adX base a1 a2 9999 = a1 := (congrArg (adS base a1 a2) (show px 9999 = 9999 by decide)).trans adS_1
theorem adX_2 {base : Nat} : adX base a1 a2 9998 = a2 := (congrArg (adS base a1 a2) (show px 9998 = 9998 by decide)).trans adS_2
theorem adX_v {base q : Nat} (h : q < 114) : adX base a1 a2 q = base + px q := by
  have := px_b h
  unfold adX adS
  rw [if_neg (by omega), if_neg (by omega)]
theorem adX_in {base q : Nat} (hq : Ad Kh (adX base a1 a2) q) : base ≤ q ∧ q < base + Kh.length := by
  obtain ⟨z, hz, rfl⟩ := hq
  have hl : Kh.length = 114 := rfl
  rw [hl] at hz ⊢
  rw [adX_v hz]
  have := px_b hz
  omega
theorem wsX {P : Nat → Nat → Nat} {σ : Sg} {base k : Nat} {x : Nat × va_E} (hx : (ws_l Kh P (adX base a1 a2) dA σ)[k]? = some x) : k < 114 ∧ x = (adX base a1 a2 k, ce_l (adX base a1 a2) dA (P k) (σ k) (Kh.getD k (.inl 0))) := by
  unfold ws_l at hx
  rw [List.getElem?_map] at hx
  by_cases hk : k < Kh.length
  · rw [List.getElem?_range hk] at hx
    cases hx
    exact ⟨hk, rfl⟩
  · rw [List.getElem?_eq_none (by simpa using hk)] at hx
    cases hx
theorem adX_D {P : Nat → Nat → Nat} {σ : Sg} {base : Nat} : va_D (Ad Kh (adX base a1 a2)) (ws_l Kh P (adX base a1 a2) dA σ) := by
  refine ⟨fun i j x y hx hy hxy => ?_, fun k x hx => ?_⟩
  · obtain ⟨h1, rfl⟩ := wsX hx
    obtain ⟨h2, rfl⟩ := wsX hy
    have e : adX base a1 a2 i = adX base a1 a2 j := hxy
    rw [adX_v h1, adX_v h2] at e
    exact px_i h1 h2 (by omega)
  · obtain ⟨h1, rfl⟩ := wsX hx
    exact ⟨k, h1, rfl⟩
/-- the cells as they were made, by their own numbers -/
theorem px_P {base : Nat} {H : Heap} (h : va_P D vwCl (ws_l KhA PhA (adS base a1 a2) dA zhA) H) : va_P D vwCl (ws_l Kh Ph (adX base a1 a2) dA zh) H := by
  intro k x hx
  obtain ⟨hk, rfl⟩ := wsX hx
  have hA : (ws_l KhA PhA (adS base a1 a2) dA zhA)[px k]? = some (adS base a1 a2 (px k), ce_l (adS base a1 a2) dA (PhA (px k)) (zhA (px k)) (KhA.getD (px k) (.inl 0))) := by
    unfold ws_l
    rw [List.getElem?_map, List.getElem?_range (show px k < KhA.length from px_b hk)]
    rfl
  exact px_v k hk D _ H (h _ _ hA)
end CH
