/-! the two layouts -/
def Kh : Ly := [.inl 9, .inl 7, .inr (0, 4), .inr (0, 4), .inr (1, 240), .inl 6, .inr (2, 900), .inr (1, 901), .inl 4, .inr (1, 14), .inr (0, 8), .inr (0, 8), .inr (0, 8), .inr (0, 6), .inr (0, 6), .inr (0, 6), .inr (0, 48), .inr (0, 48), .inr (0, 18), .inl 4, .inr (1, 14), .inr (0, 8), .inr (0, 8), .inr (0, 8), .inr (0, 6), .inr (0, 6), .inr (0, 6), .inr (0, 48), .inr (0, 48), .inr (0, 18), .inl 8, .inr (0, 60), .inr (0, 60), .inr (0, 60), .inr (0, 60), .inr (0, 60), .inl 8, .inr (0, 60), .inr (0, 60), .inr (0, 60), .inr (0, 60), .inr (0, 60), .inr (4, 3), .inr (5, 3), .inl 4, .inr (1, 14), .inr (0, 8), .inr (0, 8), .inr (0, 8), .inr (0, 6), .inr (0, 6), .inr (0, 6), .inr (0, 48), .inr (0, 48), .inr (0, 18), .inl 8, .inr (0, 60), .inr (0, 60), .inr (0, 60), .inr (0, 60), .inr (0, 60), .inl 4, .inr (1, 14), .inr (0, 8), .inr (0, 8), .inr (0, 8), .inr (0, 6), .inr (0, 6), .inr (0, 6), .inr (0, 48), .inr (0, 48), .inr (0, 18), .inl 8, .inr (0, 60), .inr (0, 60), .inr (0, 60), .inr (0, 60), .inr (0, 60), .inl 4, .inr (1, 14), .inr (0, 8), .inr (0, 8), .inr (0, 8), .inr (0, 6), .inr (0, 6), .inr (0, 6), .inr (0, 48), .inr (0, 48), .inr (0, 18), .inl 8, .inr (0, 60), .inr (0, 60), .inr (0, 60), .inr (0, 60), .inr (0, 60), .inl 2, .inr (0, 5), .inr (0, 60), .inr (0, 5), .inl 1, .inr (0, 256), .inr (0, 256), .inr (1, 112), .inl 5, .inr (0, 64), .inl 3, .inr (0, 8), .inr (0, 256), .inl 0, .inr (0, 8), .inr (0, 8), .inr (0, 64), .inr (0, 64), .inr (1, 25)]
def Km : Ly := [.inl 10, .inr (0, 4), .inr (0, 4), .inr (1, 240), .inr (2, 900), .inr (0, 2235), .inr (0, 175), .inr (0, 175), .inr (1, 70), .inr (3, 256), .inr (0, 256), .inr (0, 64), .inr (0, 700), .inr (0, 5)]
def Ph0 : Nat → Nat := fun k => match k with | 6 => 1 | 7 => 5 | 8 => 8 | 9 => 19 | 10 => 30 | 11 => 36 | 12 => 42 | 13 => 43 | 14 => 95 | 15 => 98 | 16 => 99 | 17 => 103 | 18 => 105 | 19 => 108 | _ => 0
def Ph : Nat → Nat → Nat := fun o k => if o = 0 then Ph0 k else if o = 42 then 44 + 17 * k else if o = 43 then 55 + 17 * k else if o = 5 ∧ k = 3 then 7 else if o = 5 ∧ k = 13 then 113 else if o = 99 ∧ k = 2 then 101 else if o = 99 ∧ k = 3 then 102 else o + 1 + k
def Pm : Nat → Nat → Nat := fun _ k => match k with | 4 => 1 | 5 => 2 | 6 => 3 | 7 => 4 | 20 => 5 | 21 => 6 | 22 => 7 | 23 => 8 | 29 => 9 | 30 => 10 | 31 => 11 | 32 => 12 | 34 => 13 | _ => 0
theorem kh_0 : Kh[0]? = some (.inl 9) := rfl
theorem kh_1 : Kh[1]? = some (.inl 7) := rfl
theorem kh_2 : Kh[2]? = some (.inr (0, 4)) := rfl
theorem kh_3 : Kh[3]? = some (.inr (0, 4)) := rfl
theorem kh_4 : Kh[4]? = some (.inr (1, 240)) := rfl
theorem kh_5 : Kh[5]? = some (.inl 6) := rfl
theorem kh_6 : Kh[6]? = some (.inr (2, 900)) := rfl
theorem kh_7 : Kh[7]? = some (.inr (1, 901)) := rfl
theorem kh_8 : Kh[8]? = some (.inl 4) := rfl
theorem kh_9 : Kh[9]? = some (.inr (1, 14)) := rfl
theorem kh_10 : Kh[10]? = some (.inr (0, 8)) := rfl
theorem kh_11 : Kh[11]? = some (.inr (0, 8)) := rfl
theorem kh_12 : Kh[12]? = some (.inr (0, 8)) := rfl
theorem kh_13 : Kh[13]? = some (.inr (0, 6)) := rfl
theorem kh_14 : Kh[14]? = some (.inr (0, 6)) := rfl
theorem kh_15 : Kh[15]? = some (.inr (0, 6)) := rfl
theorem kh_16 : Kh[16]? = some (.inr (0, 48)) := rfl
theorem kh_17 : Kh[17]? = some (.inr (0, 48)) := rfl
theorem kh_18 : Kh[18]? = some (.inr (0, 18)) := rfl
theorem kh_19 : Kh[19]? = some (.inl 4) := rfl
theorem kh_20 : Kh[20]? = some (.inr (1, 14)) := rfl
theorem kh_21 : Kh[21]? = some (.inr (0, 8)) := rfl
theorem kh_22 : Kh[22]? = some (.inr (0, 8)) := rfl
theorem kh_23 : Kh[23]? = some (.inr (0, 8)) := rfl
theorem kh_24 : Kh[24]? = some (.inr (0, 6)) := rfl
theorem kh_25 : Kh[25]? = some (.inr (0, 6)) := rfl
theorem kh_26 : Kh[26]? = some (.inr (0, 6)) := rfl
theorem kh_27 : Kh[27]? = some (.inr (0, 48)) := rfl
theorem kh_28 : Kh[28]? = some (.inr (0, 48)) := rfl
theorem kh_29 : Kh[29]? = some (.inr (0, 18)) := rfl
theorem kh_30 : Kh[30]? = some (.inl 8) := rfl
theorem kh_31 : Kh[31]? = some (.inr (0, 60)) := rfl
theorem kh_32 : Kh[32]? = some (.inr (0, 60)) := rfl
theorem kh_33 : Kh[33]? = some (.inr (0, 60)) := rfl
theorem kh_34 : Kh[34]? = some (.inr (0, 60)) := rfl
theorem kh_35 : Kh[35]? = some (.inr (0, 60)) := rfl
theorem kh_36 : Kh[36]? = some (.inl 8) := rfl
theorem kh_37 : Kh[37]? = some (.inr (0, 60)) := rfl
theorem kh_38 : Kh[38]? = some (.inr (0, 60)) := rfl
theorem kh_39 : Kh[39]? = some (.inr (0, 60)) := rfl
theorem kh_40 : Kh[40]? = some (.inr (0, 60)) := rfl
theorem kh_41 : Kh[41]? = some (.inr (0, 60)) := rfl
theorem kh_42 : Kh[42]? = some (.inr (4, 3)) := rfl
theorem kh_43 : Kh[43]? = some (.inr (5, 3)) := rfl
theorem kh_44 : Kh[44]? = some (.inl 4) := rfl
theorem kh_45 : Kh[45]? = some (.inr (1, 14)) := rfl
theorem kh_46 : Kh[46]? = some (.inr (0, 8)) := rfl
theorem kh_47 : Kh[47]? = some (.inr (0, 8)) := rfl
theorem kh_48 : Kh[48]? = some (.inr (0, 8)) := rfl
theorem kh_49 : Kh[49]? = some (.inr (0, 6)) := rfl
theorem kh_50 : Kh[50]? = some (.inr (0, 6)) := rfl
theorem kh_51 : Kh[51]? = some (.inr (0, 6)) := rfl
theorem kh_52 : Kh[52]? = some (.inr (0, 48)) := rfl
theorem kh_53 : Kh[53]? = some (.inr (0, 48)) := rfl
theorem kh_54 : Kh[54]? = some (.inr (0, 18)) := rfl
theorem kh_55 : Kh[55]? = some (.inl 8) := rfl
theorem kh_56 : Kh[56]? = some (.inr (0, 60)) := rfl
theorem kh_57 : Kh[57]? = some (.inr (0, 60)) := rfl
theorem kh_58 : Kh[58]? = some (.inr (0, 60)) := rfl
theorem kh_59 : Kh[59]? = some (.inr (0, 60)) := rfl
theorem kh_60 : Kh[60]? = some (.inr (0, 60)) := rfl
theorem kh_61 : Kh[61]? = some (.inl 4) := rfl
theorem kh_62 : Kh[62]? = some (.inr (1, 14)) := rfl
theorem kh_63 : Kh[63]? = some (.inr (0, 8)) := rfl
theorem kh_64 : Kh[64]? = some (.inr (0, 8)) := rfl
theorem kh_65 : Kh[65]? = some (.inr (0, 8)) := rfl
theorem kh_66 : Kh[66]? = some (.inr (0, 6)) := rfl
theorem kh_67 : Kh[67]? = some (.inr (0, 6)) := rfl
theorem kh_68 : Kh[68]? = some (.inr (0, 6)) := rfl
theorem kh_69 : Kh[69]? = some (.inr (0, 48)) := rfl
theorem kh_70 : Kh[70]? = some (.inr (0, 48)) := rfl
theorem kh_71 : Kh[71]? = some (.inr (0, 18)) := rfl
theorem kh_72 : Kh[72]? = some (.inl 8) := rfl
theorem kh_73 : Kh[73]? = some (.inr (0, 60)) := rfl
theorem kh_74 : Kh[74]? = some (.inr (0, 60)) := rfl
theorem kh_75 : Kh[75]? = some (.inr (0, 60)) := rfl
theorem kh_76 : Kh[76]? = some (.inr (0, 60)) := rfl
theorem kh_77 : Kh[77]? = some (.inr (0, 60)) := rfl
theorem kh_78 : Kh[78]? = some (.inl 4) := rfl
theorem kh_79 : Kh[79]? = some (.inr (1, 14)) := rfl
theorem kh_80 : Kh[80]? = some (.inr (0, 8)) := rfl
theorem kh_81 : Kh[81]? = some (.inr (0, 8)) := rfl
theorem kh_82 : Kh[82]? = some (.inr (0, 8)) := rfl
theorem kh_83 : Kh[83]? = some (.inr (0, 6)) := rfl
theorem kh_84 : Kh[84]? = some (.inr (0, 6)) := rfl
theorem kh_85 : Kh[85]? = some (.inr (0, 6)) := rfl
theorem kh_86 : Kh[86]? = some (.inr (0, 48)) := rfl
theorem kh_87 : Kh[87]? = some (.inr (0, 48)) := rfl
theorem kh_88 : Kh[88]? = some (.inr (0, 18)) := rfl
theorem kh_89 : Kh[89]? = some (.inl 8) := rfl
theorem kh_90 : Kh[90]? = some (.inr (0, 60)) := rfl
theorem kh_91 : Kh[91]? = some (.inr (0, 60)) := rfl
theorem kh_92 : Kh[92]? = some (.inr (0, 60)) := rfl
theorem kh_93 : Kh[93]? = some (.inr (0, 60)) := rfl
theorem kh_94 : Kh[94]? = some (.inr (0, 60)) := rfl
theorem kh_95 : Kh[95]? = some (.inl 2) := rfl
theorem kh_96 : Kh[96]? = some (.inr (0, 5)) := rfl
theorem kh_97 : Kh[97]? = some (.inr (0, 60)) := rfl
theorem kh_98 : Kh[98]? = some (.inr (0, 5)) := rfl
theorem kh_99 : Kh[99]? = some (.inl 1) := rfl
theorem kh_100 : Kh[100]? = some (.inr (0, 256)) := rfl
theorem kh_101 : Kh[101]? = some (.inr (0, 256)) := rfl
theorem kh_102 : Kh[102]? = some (.inr (1, 112)) := rfl
theorem kh_103 : Kh[103]? = some (.inl 5) := rfl
theorem kh_104 : Kh[104]? = some (.inr (0, 64)) := rfl
theorem kh_105 : Kh[105]? = some (.inl 3) := rfl
theorem kh_106 : Kh[106]? = some (.inr (0, 8)) := rfl
theorem kh_107 : Kh[107]? = some (.inr (0, 256)) := rfl
theorem kh_108 : Kh[108]? = some (.inl 0) := rfl
theorem kh_109 : Kh[109]? = some (.inr (0, 8)) := rfl
theorem kh_110 : Kh[110]? = some (.inr (0, 8)) := rfl
theorem kh_111 : Kh[111]? = some (.inr (0, 64)) := rfl
theorem kh_112 : Kh[112]? = some (.inr (0, 64)) := rfl
theorem kh_113 : Kh[113]? = some (.inr (1, 25)) := rfl
theorem km_0 : Km[0]? = some (.inl 10) := rfl
theorem km_1 : Km[1]? = some (.inr (0, 4)) := rfl
theorem km_2 : Km[2]? = some (.inr (0, 4)) := rfl
theorem km_3 : Km[3]? = some (.inr (1, 240)) := rfl
theorem km_4 : Km[4]? = some (.inr (2, 900)) := rfl
theorem km_5 : Km[5]? = some (.inr (0, 2235)) := rfl
theorem km_6 : Km[6]? = some (.inr (0, 175)) := rfl
theorem km_7 : Km[7]? = some (.inr (0, 175)) := rfl
theorem km_8 : Km[8]? = some (.inr (1, 70)) := rfl
theorem km_9 : Km[9]? = some (.inr (3, 256)) := rfl
theorem km_10 : Km[10]? = some (.inr (0, 256)) := rfl
theorem km_11 : Km[11]? = some (.inr (0, 64)) := rfl
theorem km_12 : Km[12]? = some (.inr (0, 700)) := rfl
theorem km_13 : Km[13]? = some (.inr (0, 5)) := rfl
theorem kh_lt {o : Nat} {κ : Nat ⊕ (Nat × Nat)} (h : Kh[o]? = some κ) : o < 114 := (List.getElem?_eq_some_iff.mp h).1
theorem ip_c {p : Nat} (h : Kh[p]? = some (.inl 4)) : p = 8 ∨ p = 19 ∨ p = 44 ∨ p = 61 ∨ p = 78 := by
  have h1 := kh_lt h
  revert h
  have : ∀ q, q < 114 → Kh[q]? = some (.inl 4) → q = 8 ∨ q = 19 ∨ q = 44 ∨ q = 61 ∨ q = 78 := by decide +kernel
  exact this p h1
theorem iy_c {p : Nat} (h : Kh[p]? = some (.inl 8)) : p = 30 ∨ p = 36 ∨ p = 55 ∨ p = 72 ∨ p = 89 := by
  have h1 := kh_lt h
  revert h
  have : ∀ q, q < 114 → Kh[q]? = some (.inl 8) → q = 30 ∨ q = 36 ∨ q = 55 ∨ q = 72 ∨ q = 89 := by decide +kernel
  exact this p h1
theorem kp0 {p : Nat} (h : Kh[p]? = some (.inl 4)) : Kh[p + 1]? = some (.inr (1, 14)) := by rcases ip_c h with rfl | rfl | rfl | rfl | rfl <;> rfl
theorem qp0 {p : Nat} (h : Kh[p]? = some (.inl 4)) : Ph p 0 = p + 1 := by rcases ip_c h with rfl | rfl | rfl | rfl | rfl <;> rfl
theorem kp1 {p : Nat} (h : Kh[p]? = some (.inl 4)) : Kh[p + 2]? = some (.inr (0, 8)) := by rcases ip_c h with rfl | rfl | rfl | rfl | rfl <;> rfl
theorem qp1 {p : Nat} (h : Kh[p]? = some (.inl 4)) : Ph p 1 = p + 2 := by rcases ip_c h with rfl | rfl | rfl | rfl | rfl <;> rfl
theorem kp2 {p : Nat} (h : Kh[p]? = some (.inl 4)) : Kh[p + 3]? = some (.inr (0, 8)) := by rcases ip_c h with rfl | rfl | rfl | rfl | rfl <;> rfl
theorem qp2 {p : Nat} (h : Kh[p]? = some (.inl 4)) : Ph p 2 = p + 3 := by rcases ip_c h with rfl | rfl | rfl | rfl | rfl <;> rfl
theorem kp3 {p : Nat} (h : Kh[p]? = some (.inl 4)) : Kh[p + 4]? = some (.inr (0, 8)) := by rcases ip_c h with rfl | rfl | rfl | rfl | rfl <;> rfl
theorem qp3 {p : Nat} (h : Kh[p]? = some (.inl 4)) : Ph p 3 = p + 4 := by rcases ip_c h with rfl | rfl | rfl | rfl | rfl <;> rfl
theorem kp4 {p : Nat} (h : Kh[p]? = some (.inl 4)) : Kh[p + 5]? = some (.inr (0, 6)) := by rcases ip_c h with rfl | rfl | rfl | rfl | rfl <;> rfl
theorem qp4 {p : Nat} (h : Kh[p]? = some (.inl 4)) : Ph p 4 = p + 5 := by rcases ip_c h with rfl | rfl | rfl | rfl | rfl <;> rfl
theorem kp5 {p : Nat} (h : Kh[p]? = some (.inl 4)) : Kh[p + 6]? = some (.inr (0, 6)) := by rcases ip_c h with rfl | rfl | rfl | rfl | rfl <;> rfl
theorem qp5 {p : Nat} (h : Kh[p]? = some (.inl 4)) : Ph p 5 = p + 6 := by rcases ip_c h with rfl | rfl | rfl | rfl | rfl <;> rfl
theorem kp6 {p : Nat} (h : Kh[p]? = some (.inl 4)) : Kh[p + 7]? = some (.inr (0, 6)) := by rcases ip_c h with rfl | rfl | rfl | rfl | rfl <;> rfl
theorem qp6 {p : Nat} (h : Kh[p]? = some (.inl 4)) : Ph p 6 = p + 7 := by rcases ip_c h with rfl | rfl | rfl | rfl | rfl <;> rfl
theorem kp7 {p : Nat} (h : Kh[p]? = some (.inl 4)) : Kh[p + 8]? = some (.inr (0, 48)) := by rcases ip_c h with rfl | rfl | rfl | rfl | rfl <;> rfl
theorem qp7 {p : Nat} (h : Kh[p]? = some (.inl 4)) : Ph p 7 = p + 8 := by rcases ip_c h with rfl | rfl | rfl | rfl | rfl <;> rfl
theorem kp8 {p : Nat} (h : Kh[p]? = some (.inl 4)) : Kh[p + 9]? = some (.inr (0, 48)) := by rcases ip_c h with rfl | rfl | rfl | rfl | rfl <;> rfl
theorem qp8 {p : Nat} (h : Kh[p]? = some (.inl 4)) : Ph p 8 = p + 9 := by rcases ip_c h with rfl | rfl | rfl | rfl | rfl <;> rfl
theorem kp9 {p : Nat} (h : Kh[p]? = some (.inl 4)) : Kh[p + 10]? = some (.inr (0, 18)) := by rcases ip_c h with rfl | rfl | rfl | rfl | rfl <;> rfl
theorem qp9 {p : Nat} (h : Kh[p]? = some (.inl 4)) : Ph p 9 = p + 10 := by rcases ip_c h with rfl | rfl | rfl | rfl | rfl <;> rfl
theorem ky0 {p : Nat} (h : Kh[p]? = some (.inl 8)) : Kh[p + 1]? = some (.inr (0, 60)) := by rcases iy_c h with rfl | rfl | rfl | rfl | rfl <;> rfl
theorem qy0 {p : Nat} (h : Kh[p]? = some (.inl 8)) : Ph p 0 = p + 1 := by rcases iy_c h with rfl | rfl | rfl | rfl | rfl <;> rfl
theorem ky1 {p : Nat} (h : Kh[p]? = some (.inl 8)) : Kh[p + 2]? = some (.inr (0, 60)) := by rcases iy_c h with rfl | rfl | rfl | rfl | rfl <;> rfl
theorem qy1 {p : Nat} (h : Kh[p]? = some (.inl 8)) : Ph p 1 = p + 2 := by rcases iy_c h with rfl | rfl | rfl | rfl | rfl <;> rfl
theorem ky2 {p : Nat} (h : Kh[p]? = some (.inl 8)) : Kh[p + 3]? = some (.inr (0, 60)) := by rcases iy_c h with rfl | rfl | rfl | rfl | rfl <;> rfl
theorem qy2 {p : Nat} (h : Kh[p]? = some (.inl 8)) : Ph p 2 = p + 3 := by rcases iy_c h with rfl | rfl | rfl | rfl | rfl <;> rfl
theorem ky3 {p : Nat} (h : Kh[p]? = some (.inl 8)) : Kh[p + 4]? = some (.inr (0, 60)) := by rcases iy_c h with rfl | rfl | rfl | rfl | rfl <;> rfl
theorem qy3 {p : Nat} (h : Kh[p]? = some (.inl 8)) : Ph p 3 = p + 4 := by rcases iy_c h with rfl | rfl | rfl | rfl | rfl <;> rfl
theorem ky4 {p : Nat} (h : Kh[p]? = some (.inl 8)) : Kh[p + 5]? = some (.inr (0, 60)) := by rcases iy_c h with rfl | rfl | rfl | rfl | rfl <;> rfl
theorem qy4 {p : Nat} (h : Kh[p]? = some (.inl 8)) : Ph p 4 = p + 5 := by rcases iy_c h with rfl | rfl | rfl | rfl | rfl <;> rfl
theorem kq4 {i : Int} (h : 0 ≤ i ∧ i < ((3 : Nat) : Int)) : Kh[Ph 42 i.toNat]? = some (.inl 4) := by
  rcases (show i = 0 ∨ i = 1 ∨ i = 2 by omega) with rfl | rfl | rfl <;> rfl
theorem kq5 {i : Int} (h : 0 ≤ i ∧ i < ((3 : Nat) : Int)) : Kh[Ph 43 i.toNat]? = some (.inl 8) := by
  rcases (show i = 0 ∨ i = 1 ∨ i = 2 by omega) with rfl | rfl | rfl <;> rfl
theorem cw_0 : CW 0 RX0 TX0 5 tyX0 := ⟨rfl, by decide, tbf_in (by decide +kernel) (by decide +kernel), tyX0_ok, nmX0⟩
theorem cw_1 : CW 1 RX1 TX1 4 tyX1 := ⟨rfl, by decide, tbf_in (by decide +kernel) (by decide +kernel), tyX1_ok, nmX1⟩
theorem cw_2 : CW 2 RX2 TX2 4 tyX2 := ⟨rfl, by decide, tbf_in (by decide +kernel) (by decide +kernel), tyX2_ok, nmX2⟩
theorem cw_3 : CW 3 RX3 TX3 2 tyX3 := ⟨rfl, by decide, tbf_in (by decide +kernel) (by decide +kernel), tyX3_ok, nmX3⟩
theorem cw_4 : CW 4 RX4 TX4 20 tyX4 := ⟨rfl, by decide, tbf_in (by decide +kernel) (by decide +kernel), tyX4_ok, nmX4⟩
theorem cw_5 : CW 5 RX6 TX6 1 tyX6 := ⟨rfl, by decide, tbf_in (by decide +kernel) (by decide +kernel), tyX6_ok, nmX6⟩
theorem cw_6 : CW 6 RX7 TX7 14 tyX7 := ⟨rfl, by decide, tbf_in (by decide +kernel) (by decide +kernel), tyX7_ok, nmX7⟩
theorem cw_7 : CW 7 RX8 TX8 3 tyX8 := ⟨rfl, by decide, tbf_in (by decide +kernel) (by decide +kernel), tyX8_ok, nmX8⟩
theorem cw_8 : CW 8 RX9 TX9 8 tyX9 := ⟨rfl, by decide, tbf_in (by decide +kernel) (by decide +kernel), tyX9_ok, nmX9⟩
theorem cw_9 : CW 9 RX11 TX11 20 tyX11 := ⟨rfl, by decide, tbf_in (by decide +kernel) (by decide +kernel), tyX11_ok, nmX11⟩
theorem cw_10 : CW 10 RX12 TX12 44 tyX12 := ⟨rfl, by decide, tbf_in (by decide +kernel) (by decide +kernel), tyX12_ok, nmX12⟩
