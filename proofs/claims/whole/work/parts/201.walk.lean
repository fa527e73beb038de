section WK
variable {l : Launch}
theorem dX9_copyFrom_0 : decode cX9_copyFrom 0 = .ok (.aload_n 1, 1) := by decide +kernel
theorem dX9_copyFrom_1 : decode cX9_copyFrom 1 = .ok (.getfield 11, 3) := by decide +kernel
theorem dX9_copyFrom_4 : decode cX9_copyFrom 4 = .ok (.iconst 0, 1) := by decide +kernel
theorem dX9_copyFrom_5 : decode cX9_copyFrom 5 = .ok (.aload_n 0, 1) := by decide +kernel
theorem dX9_copyFrom_6 : decode cX9_copyFrom 6 = .ok (.getfield 11, 3) := by decide +kernel
theorem dX9_copyFrom_9 : decode cX9_copyFrom 9 = .ok (.iconst 0, 1) := by decide +kernel
theorem dX9_copyFrom_10 : decode cX9_copyFrom 10 = .ok (.bipush 60, 2) := by decide +kernel
theorem dX9_copyFrom_12 : decode cX9_copyFrom 12 = .ok (.invokestatic 38, 3) := by decide +kernel
theorem dX9_copyFrom_15 : decode cX9_copyFrom 15 = .ok (.aload_n 1, 1) := by decide +kernel
theorem dX9_copyFrom_16 : decode cX9_copyFrom 16 = .ok (.getfield 15, 3) := by decide +kernel
theorem dX9_copyFrom_19 : decode cX9_copyFrom 19 = .ok (.iconst 0, 1) := by decide +kernel
theorem dX9_copyFrom_20 : decode cX9_copyFrom 20 = .ok (.aload_n 0, 1) := by decide +kernel
theorem dX9_copyFrom_21 : decode cX9_copyFrom 21 = .ok (.getfield 15, 3) := by decide +kernel
theorem dX9_copyFrom_24 : decode cX9_copyFrom 24 = .ok (.iconst 0, 1) := by decide +kernel
theorem dX9_copyFrom_25 : decode cX9_copyFrom 25 = .ok (.bipush 60, 2) := by decide +kernel
theorem dX9_copyFrom_27 : decode cX9_copyFrom 27 = .ok (.invokestatic 38, 3) := by decide +kernel
theorem dX9_copyFrom_30 : decode cX9_copyFrom 30 = .ok (.aload_n 1, 1) := by decide +kernel
theorem dX9_copyFrom_31 : decode cX9_copyFrom 31 = .ok (.getfield 18, 3) := by decide +kernel
theorem dX9_copyFrom_34 : decode cX9_copyFrom 34 = .ok (.iconst 0, 1) := by decide +kernel
theorem dX9_copyFrom_35 : decode cX9_copyFrom 35 = .ok (.aload_n 0, 1) := by decide +kernel
theorem dX9_copyFrom_36 : decode cX9_copyFrom 36 = .ok (.getfield 18, 3) := by decide +kernel
theorem dX9_copyFrom_39 : decode cX9_copyFrom 39 = .ok (.iconst 0, 1) := by decide +kernel
theorem dX9_copyFrom_40 : decode cX9_copyFrom 40 = .ok (.bipush 60, 2) := by decide +kernel
theorem dX9_copyFrom_42 : decode cX9_copyFrom 42 = .ok (.invokestatic 38, 3) := by decide +kernel
theorem dX9_copyFrom_45 : decode cX9_copyFrom 45 = .ok (.aload_n 1, 1) := by decide +kernel
theorem dX9_copyFrom_46 : decode cX9_copyFrom 46 = .ok (.getfield 21, 3) := by decide +kernel
theorem dX9_copyFrom_49 : decode cX9_copyFrom 49 = .ok (.iconst 0, 1) := by decide +kernel
theorem dX9_copyFrom_50 : decode cX9_copyFrom 50 = .ok (.aload_n 0, 1) := by decide +kernel
theorem dX9_copyFrom_51 : decode cX9_copyFrom 51 = .ok (.getfield 21, 3) := by decide +kernel
theorem dX9_copyFrom_54 : decode cX9_copyFrom 54 = .ok (.iconst 0, 1) := by decide +kernel
theorem dX9_copyFrom_55 : decode cX9_copyFrom 55 = .ok (.bipush 60, 2) := by decide +kernel
theorem dX9_copyFrom_57 : decode cX9_copyFrom 57 = .ok (.invokestatic 38, 3) := by decide +kernel
theorem dX9_copyFrom_60 : decode cX9_copyFrom 60 = .ok (.aload_n 1, 1) := by decide +kernel
theorem dX9_copyFrom_61 : decode cX9_copyFrom 61 = .ok (.getfield 24, 3) := by decide +kernel
theorem dX9_copyFrom_64 : decode cX9_copyFrom 64 = .ok (.iconst 0, 1) := by decide +kernel
theorem dX9_copyFrom_65 : decode cX9_copyFrom 65 = .ok (.aload_n 0, 1) := by decide +kernel
theorem dX9_copyFrom_66 : decode cX9_copyFrom 66 = .ok (.getfield 24, 3) := by decide +kernel
theorem dX9_copyFrom_69 : decode cX9_copyFrom 69 = .ok (.iconst 0, 1) := by decide +kernel
theorem dX9_copyFrom_70 : decode cX9_copyFrom 70 = .ok (.bipush 60, 2) := by decide +kernel
theorem dX9_copyFrom_72 : decode cX9_copyFrom 72 = .ok (.invokestatic 38, 3) := by decide +kernel
theorem dX9_copyFrom_75 : decode cX9_copyFrom 75 = .ok (.aload_n 0, 1) := by decide +kernel
theorem dX9_copyFrom_76 : decode cX9_copyFrom 76 = .ok (.aload_n 1, 1) := by decide +kernel
theorem dX9_copyFrom_77 : decode cX9_copyFrom 77 = .ok (.getfield 27, 3) := by decide +kernel
theorem dX9_copyFrom_80 : decode cX9_copyFrom 80 = .ok (.putfield 27, 3) := by decide +kernel
theorem dX9_copyFrom_83 : decode cX9_copyFrom 83 = .ok (.aload_n 0, 1) := by decide +kernel
theorem dX9_copyFrom_84 : decode cX9_copyFrom 84 = .ok (.aload_n 1, 1) := by decide +kernel
theorem dX9_copyFrom_85 : decode cX9_copyFrom 85 = .ok (.getfield 31, 3) := by decide +kernel
theorem dX9_copyFrom_88 : decode cX9_copyFrom 88 = .ok (.putfield 31, 3) := by decide +kernel
theorem dX9_copyFrom_91 : decode cX9_copyFrom 91 = .ok (.aload_n 0, 1) := by decide +kernel
theorem dX9_copyFrom_92 : decode cX9_copyFrom 92 = .ok (.aload_n 1, 1) := by decide +kernel
theorem dX9_copyFrom_93 : decode cX9_copyFrom 93 = .ok (.getfield 34, 3) := by decide +kernel
theorem dX9_copyFrom_96 : decode cX9_copyFrom 96 = .ok (.putfield 34, 3) := by decide +kernel
theorem dX9_copyFrom_99 : decode cX9_copyFrom 99 = .ok (.return_, 1) := by decide +kernel
theorem mw_X9_copyFrom : MW yX9_copyFrom cX9_copyFrom 2 2 1 false := ⟨tm 1042 (by decide +kernel) rfl, tm 243 (by decide +kernel) rfl, by decide, by decide, (by rw [if_neg (by decide)]; exact ⟨tm 1041 (by decide +kernel) rfl, tm 52 (by decide +kernel) rfl⟩)⟩
theorem fl_RX9_11 : FL RX9 11 8 0 := ⟨_, _, _, _, cw_8, by decide, Or.inr (Or.inr (Or.inr (by decide))), Or.inl (by decide), Or.inl (tm 498 (by decide +kernel) rfl)⟩
theorem fl_RX9_15 : FL RX9 15 8 1 := ⟨_, _, _, _, cw_8, by decide, Or.inr (Or.inr (Or.inr (by decide))), Or.inl (by decide), Or.inl (tm 500 (by decide +kernel) rfl)⟩
theorem fl_RX9_18 : FL RX9 18 8 2 := ⟨_, _, _, _, cw_8, by decide, Or.inr (Or.inr (Or.inr (by decide))), Or.inl (by decide), Or.inl (tm 502 (by decide +kernel) rfl)⟩
theorem fl_RX9_21 : FL RX9 21 8 3 := ⟨_, _, _, _, cw_8, by decide, Or.inr (Or.inr (Or.inr (by decide))), Or.inl (by decide), Or.inl (tm 504 (by decide +kernel) rfl)⟩
theorem fl_RX9_24 : FL RX9 24 8 4 := ⟨_, _, _, _, cw_8, by decide, Or.inr (Or.inr (Or.inr (by decide))), Or.inl (by decide), Or.inl (tm 506 (by decide +kernel) rfl)⟩
theorem fl_RX9_27 : FL RX9 27 8 5 := ⟨_, _, _, _, cw_8, by decide, Or.inl (by decide), Or.inr (by decide), Or.inl (tm 508 (by decide +kernel) rfl)⟩
theorem fl_RX9_31 : FL RX9 31 8 6 := ⟨_, _, _, _, cw_8, by decide, Or.inl (by decide), Or.inr (by decide), Or.inl (tm 510 (by decide +kernel) rfl)⟩
theorem fl_RX9_34 : FL RX9 34 8 7 := ⟨_, _, _, _, cw_8, by decide, Or.inr (Or.inr (Or.inl (by decide))), Or.inr (by decide), Or.inl (tm 513 (by decide +kernel) rfl)⟩
theorem cy_RX9_38 : CY RX9 38 := ⟨tm 1043 (by decide +kernel) rfl, tm 782 (by decide +kernel) rfl, tm 781 (by decide +kernel) rfl, tm 250 (by decide +kernel) rfl⟩
def Ye_copyFrom (ye0 : Nat) (ye1 : Nat) (σ : Sg) : Rs := (cpw 60 60 0 0 60 (cp_s σ (ye1 + 1) (ye0 + 1) (Int.toNat 0) (Int.toNat 0) (Int.toNat 60)) (fun s1 => (cpw 60 60 0 0 60 (cp_s s1 (ye1 + 2) (ye0 + 2) (Int.toNat 0) (Int.toNat 0) (Int.toNat 60)) (fun s2 => (cpw 60 60 0 0 60 (cp_s s2 (ye1 + 3) (ye0 + 3) (Int.toNat 0) (Int.toNat 0) (Int.toNat 60)) (fun s3 => (cpw 60 60 0 0 60 (cp_s s3 (ye1 + 4) (ye0 + 4) (Int.toNat 0) (Int.toNat 0) (Int.toNat 60)) (fun s4 => (cpw 60 60 0 0 60 (cp_s s4 (ye1 + 5) (ye0 + 5) (Int.toNat 0) (Int.toNat 0) (Int.toNat 60)) (fun s5 => (nm (up_s s5 ye0 5 (s5 ye1 5)) (fun s6 => (nm (up_s s6 ye0 6 (s6 ye1 6)) (fun s7 => (zb (s7 ye1 7) (nm (up_s s7 ye0 7 (s7 ye1 7)) (fun s8 => (some (0, s8)))))))))))))))))))
theorem ok_Ye_copyFrom (ye0 : Nat) (ye1 : Nat) (hye0 : Kh[ye0]? = some (.inl 8)) (hye1 : Kh[ye1]? = some (.inl 8)) (σ : Sg) : MC l Kh Ph yX9_copyFrom cX9_copyFrom 2 2 1 [.inr (.inr ye0), .inr (.inr ye1)] σ (Ye_copyFrom ye0 ye1 σ) := by
  refine mc_of (by decide) (Nat.le_of_ble_eq_true rfl) ?_
  change G l Kh Ph RX9 cX9_copyFrom 2 2 1 0 [some (.inr (.inr ye0)), some (.inr (.inr ye1))] [] σ (Ye_copyFrom ye0 ye1 σ)
  unfold Ye_copyFrom
  refine g_aload_n dX9_copyFrom_0 rfl rfl ?_
  refine g_getr' (q := (ye1 + 1)) fl_RX9_11 hye1 (by decide) (qy0 hye1) dX9_copyFrom_1 ?_
  refine g_iconst dX9_copyFrom_4 (by decide) ?_
  refine g_aload_n dX9_copyFrom_5 rfl rfl ?_
  refine g_getr' (q := (ye0 + 1)) fl_RX9_11 hye0 (by decide) (qy0 hye0) dX9_copyFrom_6 ?_
  refine g_iconst dX9_copyFrom_9 (by decide) ?_
  refine g_bipush dX9_copyFrom_10 (by decide) ?_
  refine g_copyi cy_RX9_38 (ky0 hye1) (ky0 hye0) (Nat.le_of_ble_eq_true rfl) (Nat.le_of_ble_eq_true rfl) dX9_copyFrom_12 ?_
  intro s1
  refine g_aload_n dX9_copyFrom_15 rfl rfl ?_
  refine g_getr' (q := (ye1 + 2)) fl_RX9_15 hye1 (by decide) (qy1 hye1) dX9_copyFrom_16 ?_
  refine g_iconst dX9_copyFrom_19 (by decide) ?_
  refine g_aload_n dX9_copyFrom_20 rfl rfl ?_
  refine g_getr' (q := (ye0 + 2)) fl_RX9_15 hye0 (by decide) (qy1 hye0) dX9_copyFrom_21 ?_
  refine g_iconst dX9_copyFrom_24 (by decide) ?_
  refine g_bipush dX9_copyFrom_25 (by decide) ?_
  refine g_copyi cy_RX9_38 (ky1 hye1) (ky1 hye0) (Nat.le_of_ble_eq_true rfl) (Nat.le_of_ble_eq_true rfl) dX9_copyFrom_27 ?_
  intro s2
  refine g_aload_n dX9_copyFrom_30 rfl rfl ?_
  refine g_getr' (q := (ye1 + 3)) fl_RX9_18 hye1 (by decide) (qy2 hye1) dX9_copyFrom_31 ?_
  refine g_iconst dX9_copyFrom_34 (by decide) ?_
  refine g_aload_n dX9_copyFrom_35 rfl rfl ?_
  refine g_getr' (q := (ye0 + 3)) fl_RX9_18 hye0 (by decide) (qy2 hye0) dX9_copyFrom_36 ?_
  refine g_iconst dX9_copyFrom_39 (by decide) ?_
  refine g_bipush dX9_copyFrom_40 (by decide) ?_
  refine g_copyi cy_RX9_38 (ky2 hye1) (ky2 hye0) (Nat.le_of_ble_eq_true rfl) (Nat.le_of_ble_eq_true rfl) dX9_copyFrom_42 ?_
  intro s3
  refine g_aload_n dX9_copyFrom_45 rfl rfl ?_
  refine g_getr' (q := (ye1 + 4)) fl_RX9_21 hye1 (by decide) (qy3 hye1) dX9_copyFrom_46 ?_
  refine g_iconst dX9_copyFrom_49 (by decide) ?_
  refine g_aload_n dX9_copyFrom_50 rfl rfl ?_
  refine g_getr' (q := (ye0 + 4)) fl_RX9_21 hye0 (by decide) (qy3 hye0) dX9_copyFrom_51 ?_
  refine g_iconst dX9_copyFrom_54 (by decide) ?_
  refine g_bipush dX9_copyFrom_55 (by decide) ?_
  refine g_copyi cy_RX9_38 (ky3 hye1) (ky3 hye0) (Nat.le_of_ble_eq_true rfl) (Nat.le_of_ble_eq_true rfl) dX9_copyFrom_57 ?_
  intro s4
  refine g_aload_n dX9_copyFrom_60 rfl rfl ?_
  refine g_getr' (q := (ye1 + 5)) fl_RX9_24 hye1 (by decide) (qy4 hye1) dX9_copyFrom_61 ?_
  refine g_iconst dX9_copyFrom_64 (by decide) ?_
  refine g_aload_n dX9_copyFrom_65 rfl rfl ?_
  refine g_getr' (q := (ye0 + 5)) fl_RX9_24 hye0 (by decide) (qy4 hye0) dX9_copyFrom_66 ?_
  refine g_iconst dX9_copyFrom_69 (by decide) ?_
  refine g_bipush dX9_copyFrom_70 (by decide) ?_
  refine g_copyi cy_RX9_38 (ky4 hye1) (ky4 hye0) (Nat.le_of_ble_eq_true rfl) (Nat.le_of_ble_eq_true rfl) dX9_copyFrom_72 ?_
  intro s5
  refine g_aload_n dX9_copyFrom_75 rfl rfl ?_
  refine g_aload_n dX9_copyFrom_76 rfl rfl ?_
  refine g_geti fl_RX9_27 hye1 (by decide) dX9_copyFrom_77 ?_
  refine g_puti fl_RX9_27 hye0 (by decide) dX9_copyFrom_80 ?_
  intro s6
  refine g_aload_n dX9_copyFrom_83 rfl rfl ?_
  refine g_aload_n dX9_copyFrom_84 rfl rfl ?_
  refine g_geti fl_RX9_31 hye1 (by decide) dX9_copyFrom_85 ?_
  refine g_puti fl_RX9_31 hye0 (by decide) dX9_copyFrom_88 ?_
  intro s7
  refine g_aload_n dX9_copyFrom_91 rfl rfl ?_
  refine g_aload_n dX9_copyFrom_92 rfl rfl ?_
  refine g_getz fl_RX9_34 hye1 (by decide) dX9_copyFrom_93 ?_
  refine g_putz fl_RX9_34 hye0 (by decide) dX9_copyFrom_96 ?_
  intro s8
  exact g_vret dX9_copyFrom_99
theorem dX11_back_0 : decode cX11_back 0 = .ok (.aload_n 0, 1) := by decide +kernel
theorem dX11_back_1 : decode cX11_back 1 = .ok (.getfield 448, 3) := by decide +kernel
theorem dX11_back_4 : decode cX11_back 4 = .ok (.ifCond .gt 10, 3) := by decide +kernel
theorem dX11_back_7 : decode cX11_back 7 = .ok (.aload_n 0, 1) := by decide +kernel
theorem dX11_back_8 : decode cX11_back 8 = .ok (.bipush 8, 2) := by decide +kernel
theorem dX11_back_10 : decode cX11_back 10 = .ok (.invokevirtual 147, 3) := by decide +kernel
theorem dX11_back_13 : decode cX11_back 13 = .ok (.ireturn, 1) := by decide +kernel
theorem dX11_back_14 : decode cX11_back 14 = .ok (.aload_n 0, 1) := by decide +kernel
theorem dX11_back_15 : decode cX11_back 15 = .ok (.dup, 1) := by decide +kernel
theorem dX11_back_16 : decode cX11_back 16 = .ok (.getfield 448, 3) := by decide +kernel
theorem dX11_back_19 : decode cX11_back 19 = .ok (.iconst 1, 1) := by decide +kernel
theorem dX11_back_20 : decode cX11_back 20 = .ok (.isub, 1) := by decide +kernel
theorem dX11_back_21 : decode cX11_back 21 = .ok (.putfield 448, 3) := by decide +kernel
theorem dX11_back_24 : decode cX11_back 24 = .ok (.aload_n 0, 1) := by decide +kernel
theorem dX11_back_25 : decode cX11_back 25 = .ok (.getfield 43, 3) := by decide +kernel
theorem dX11_back_28 : decode cX11_back 28 = .ok (.aload_n 0, 1) := by decide +kernel
theorem dX11_back_29 : decode cX11_back 29 = .ok (.getfield 60, 3) := by decide +kernel
theorem dX11_back_32 : decode cX11_back 32 = .ok (.aload_n 0, 1) := by decide +kernel
theorem dX11_back_33 : decode cX11_back 33 = .ok (.getfield 448, 3) := by decide +kernel
theorem dX11_back_36 : decode cX11_back 36 = .ok (.aaload, 1) := by decide +kernel
theorem dX11_back_37 : decode cX11_back 37 = .ok (.invokevirtual 184, 3) := by decide +kernel
theorem dX11_back_40 : decode cX11_back 40 = .ok (.aload_n 0, 1) := by decide +kernel
theorem dX11_back_41 : decode cX11_back 41 = .ok (.getfield 53, 3) := by decide +kernel
theorem dX11_back_44 : decode cX11_back 44 = .ok (.aload_n 0, 1) := by decide +kernel
theorem dX11_back_45 : decode cX11_back 45 = .ok (.getfield 64, 3) := by decide +kernel
theorem dX11_back_48 : decode cX11_back 48 = .ok (.aload_n 0, 1) := by decide +kernel
theorem dX11_back_49 : decode cX11_back 49 = .ok (.getfield 448, 3) := by decide +kernel
theorem dX11_back_52 : decode cX11_back 52 = .ok (.aaload, 1) := by decide +kernel
theorem dX11_back_53 : decode cX11_back 53 = .ok (.invokevirtual 207, 3) := by decide +kernel
theorem dX11_back_56 : decode cX11_back 56 = .ok (.aload_n 0, 1) := by decide +kernel
theorem dX11_back_57 : decode cX11_back 57 = .ok (.aload_n 0, 1) := by decide +kernel
theorem dX11_back_58 : decode cX11_back 58 = .ok (.getfield 448, 3) := by decide +kernel
theorem dX11_back_61 : decode cX11_back 61 = .ok (.invokevirtual 194, 3) := by decide +kernel
theorem dX11_back_64 : decode cX11_back 64 = .ok (.ireturn, 1) := by decide +kernel
theorem mw_X11_back : MW yX11_back cX11_back 1 0 0 false := ⟨tm 1557 (by decide +kernel) rfl, tm 235 (by decide +kernel) rfl, by decide, by decide, (by rw [if_neg (by decide)]; exact ⟨tm 1555 (by decide +kernel) rfl, tm 1556 (by decide +kernel) rfl⟩)⟩
theorem lk_RX11_184 : LK RX11 184 yX4_copyFrom := Or.inr ⟨"HairProvince", tm 955 (by decide +kernel) rfl⟩
theorem lk_RX11_207 : LK RX11 207 yX9_copyFrom := Or.inr ⟨"HairProvince", tm 1039 (by decide +kernel) rfl⟩
theorem fl_RX11_53 : FL RX11 53 9 10 := ⟨_, _, _, _, cw_9, by decide, Or.inr (Or.inr (Or.inr (by decide))), Or.inl (by decide), Or.inl (tm 632 (by decide +kernel) rfl)⟩
theorem fl_RX11_60 : FL RX11 60 9 12 := ⟨_, _, _, _, cw_9, by decide, Or.inr (Or.inr (Or.inr (by decide))), Or.inl (by decide), Or.inl (tm 634 (by decide +kernel) rfl)⟩
theorem fl_RX11_64 : FL RX11 64 9 13 := ⟨_, _, _, _, cw_9, by decide, Or.inr (Or.inr (Or.inr (by decide))), Or.inl (by decide), Or.inl (tm 635 (by decide +kernel) rfl)⟩
theorem fl_RX11_448 : FL RX11 448 9 5 := ⟨_, _, _, _, cw_9, by decide, Or.inl (by decide), Or.inr (by decide), Or.inl (tm 627 (by decide +kernel) rfl)⟩
def H_back  (σ : Sg) : Rs := (if 0 < (σ 0 5) then (nm (up_s σ 0 5 (w32 ((σ 0 5) - 1))) (fun s1 => (rd 3 (s1 0 5) 0 (fun x2 => (bd (Pr_copyFrom 8 (Ph 42 (Int.toNat (s1 0 5))) s1) (fun r4 s5 => (rd 3 (s5 0 5) 0 (fun x6 => (bd (Ye_copyFrom 30 (Ph 43 (Int.toNat (s5 0 5))) s5) (fun r8 s9 => (bd (H_give (s9 0 5) s9) (fun r10 s11 => (some (r10, s11)))))))))))))) else (bd (H_fail 8 σ) (fun r12 s13 => (some (r12, s13)))))
theorem ok_H_back (σ : Sg) : MC l Kh Ph yX11_back cX11_back 1 0 2 [.inr (.inr 0)] σ (H_back σ) := by
  refine mc_of (by decide) (Nat.le_of_ble_eq_true rfl) ?_
  change G l Kh Ph RX11 cX11_back 1 0 2 0 [some (.inr (.inr 0))] [] σ (H_back  σ)
  unfold H_back
  refine g_aload_n dX11_back_0 rfl rfl ?_
  refine g_geti fl_RX11_448 kh_0 (by decide) dX11_back_1 ?_
  refine g_ifgt (tgt := 14) dX11_back_4 (by decide) ?_ ?_
  · refine g_aload_n dX11_back_14 rfl rfl ?_
    refine g_dup dX11_back_15 rfl ?_
    refine g_geti fl_RX11_448 kh_0 (by decide) dX11_back_16 ?_
    refine g_iconst dX11_back_19 (by decide) ?_
    refine g_isub dX11_back_20 ?_
    refine g_puti fl_RX11_448 kh_0 (by decide) dX11_back_21 ?_
    intro s1
    refine g_aload_n dX11_back_24 rfl rfl ?_
    refine g_getr' (q := 8) fl_RX11_43 kh_0 (by decide) rfl dX11_back_25 ?_
    refine g_aload_n dX11_back_28 rfl rfl ?_
    refine g_getr' (q := 42) fl_RX11_60 kh_0 (by decide) rfl dX11_back_29 ?_
    refine g_aload_n dX11_back_32 rfl rfl ?_
    refine g_geti fl_RX11_448 kh_0 (by decide) dX11_back_33 ?_
    refine g_aald kh_42 (by decide) dX11_back_36 ?_
    intro hq3
    refine g_callv2 (st := []) 4 mw_X4_copyFrom lk_RX11_184 rfl kh_8 (ok_Pr_copyFrom 8 (Ph 42 (Int.toNat (s1 0 5))) kh_8 (kq4 hq3) s1) (Nat.le_of_ble_eq_true rfl) rfl rfl (Nat.le_of_ble_eq_true rfl) dX11_back_37 ?_
    intro r4 s5
    refine g_aload_n dX11_back_40 rfl rfl ?_
    refine g_getr' (q := 30) fl_RX11_53 kh_0 (by decide) rfl dX11_back_41 ?_
    refine g_aload_n dX11_back_44 rfl rfl ?_
    refine g_getr' (q := 43) fl_RX11_64 kh_0 (by decide) rfl dX11_back_45 ?_
    refine g_aload_n dX11_back_48 rfl rfl ?_
    refine g_geti fl_RX11_448 kh_0 (by decide) dX11_back_49 ?_
    refine g_aald kh_43 (by decide) dX11_back_52 ?_
    intro hq7
    refine g_callv2 (st := []) 8 mw_X9_copyFrom lk_RX11_207 rfl kh_30 (ok_Ye_copyFrom 30 (Ph 43 (Int.toNat (s5 0 5))) kh_30 (kq5 hq7) s5) (Nat.le_of_ble_eq_true rfl) rfl rfl (Nat.le_of_ble_eq_true rfl) dX11_back_53 ?_
    intro r8 s9
    refine g_aload_n dX11_back_56 rfl rfl ?_
    refine g_aload_n dX11_back_57 rfl rfl ?_
    refine g_geti fl_RX11_448 kh_0 (by decide) dX11_back_58 ?_
    refine g_callv0 (st := []) 9 mw_X11_give lk_RX11_194 rfl kh_0 (ok_H_give (s9 0 5) s9) (Nat.le_of_ble_eq_true rfl) rfl rfl (Nat.le_of_ble_eq_true rfl) dX11_back_61 ?_
    intro r10 s11
    exact g_iret dX11_back_64
  · refine g_aload_n dX11_back_7 rfl rfl ?_
    refine g_bipush dX11_back_8 (by decide) ?_
    refine g_callv0 (st := []) 9 mw_X11_fail lk_RX11_147 rfl kh_0 (ok_H_fail 8 σ) (Nat.le_of_ble_eq_true rfl) rfl rfl (Nat.le_of_ble_eq_true rfl) dX11_back_10 ?_
    intro r12 s13
    exact g_iret dX11_back_13
theorem dX11_bottom_0 : decode cX11_bottom 0 = .ok (.aload_n 0, 1) := by decide +kernel
theorem dX11_bottom_1 : decode cX11_bottom 1 = .ok (.getfield 17, 3) := by decide +kernel
theorem dX11_bottom_4 : decode cX11_bottom 4 = .ok (.lreturn, 1) := by decide +kernel
theorem mw_X11_bottom : MW yX11_bottom cX11_bottom 1 1 0 false := ⟨tm 694 (by decide +kernel) rfl, tm 235 (by decide +kernel) rfl, by decide, by decide, (by rw [if_neg (by decide)]; exact ⟨tm 692 (by decide +kernel) rfl, tm 693 (by decide +kernel) rfl⟩)⟩
theorem fl_RX11_17 : FL RX11 17 9 2 := ⟨_, _, _, _, cw_9, by decide, Or.inr (Or.inl (by decide)), Or.inr (by decide), Or.inl (tm 624 (by decide +kernel) rfl)⟩
def H_bottom  (σ : Sg) : Rs := (some ((σ 0 2), σ))
theorem ok_H_bottom (σ : Sg) : MC l Kh Ph yX11_bottom cX11_bottom 1 1 1 [.inr (.inr 0)] σ (H_bottom σ) := by
  refine mc_of (by decide) (Nat.le_of_ble_eq_true rfl) ?_
  change G l Kh Ph RX11 cX11_bottom 1 1 1 0 [some (.inr (.inr 0))] [] σ (H_bottom  σ)
  unfold H_bottom
  refine g_aload_n dX11_bottom_0 rfl rfl ?_
  refine g_getl fl_RX11_17 kh_0 (by decide) dX11_bottom_1 ?_
  exact g_lret dX11_bottom_4
theorem dX11_cancel_0 : decode cX11_cancel 0 = .ok (.aload_n 0, 1) := by decide +kernel
theorem dX11_cancel_1 : decode cX11_cancel 1 = .ok (.getfield 43, 3) := by decide +kernel
theorem dX11_cancel_4 : decode cX11_cancel 4 = .ok (.getfield 220, 3) := by decide +kernel
theorem dX11_cancel_7 : decode cX11_cancel 7 = .ok (.ifCond .gt 10, 3) := by decide +kernel
theorem dX11_cancel_10 : decode cX11_cancel 10 = .ok (.aload_n 0, 1) := by decide +kernel
theorem dX11_cancel_11 : decode cX11_cancel 11 = .ok (.bipush 8, 2) := by decide +kernel
theorem dX11_cancel_13 : decode cX11_cancel 13 = .ok (.invokevirtual 147, 3) := by decide +kernel
theorem dX11_cancel_16 : decode cX11_cancel 16 = .ok (.ireturn, 1) := by decide +kernel
theorem dX11_cancel_17 : decode cX11_cancel 17 = .ok (.aload_n 0, 1) := by decide +kernel
theorem dX11_cancel_18 : decode cX11_cancel 18 = .ok (.getfield 43, 3) := by decide +kernel
theorem dX11_cancel_21 : decode cX11_cancel 21 = .ok (.dup, 1) := by decide +kernel
theorem dX11_cancel_22 : decode cX11_cancel 22 = .ok (.getfield 220, 3) := by decide +kernel
theorem dX11_cancel_25 : decode cX11_cancel 25 = .ok (.iconst 1, 1) := by decide +kernel
theorem dX11_cancel_26 : decode cX11_cancel 26 = .ok (.isub, 1) := by decide +kernel
theorem dX11_cancel_27 : decode cX11_cancel 27 = .ok (.putfield 220, 3) := by decide +kernel
theorem dX11_cancel_30 : decode cX11_cancel 30 = .ok (.aload_n 0, 1) := by decide +kernel
theorem dX11_cancel_31 : decode cX11_cancel 31 = .ok (.aload_n 0, 1) := by decide +kernel
theorem dX11_cancel_32 : decode cX11_cancel 32 = .ok (.getfield 43, 3) := by decide +kernel
theorem dX11_cancel_35 : decode cX11_cancel 35 = .ok (.getfield 220, 3) := by decide +kernel
theorem dX11_cancel_38 : decode cX11_cancel 38 = .ok (.invokevirtual 194, 3) := by decide +kernel
theorem dX11_cancel_41 : decode cX11_cancel 41 = .ok (.ireturn, 1) := by decide +kernel
theorem mw_X11_cancel : MW yX11_cancel cX11_cancel 1 0 0 false := ⟨tm 1228 (by decide +kernel) rfl, tm 235 (by decide +kernel) rfl, by decide, by decide, (by rw [if_neg (by decide)]; exact ⟨tm 1226 (by decide +kernel) rfl, tm 1227 (by decide +kernel) rfl⟩)⟩
theorem fl_RX11_220 : FL RX11 220 4 12 := ⟨_, _, _, _, cw_4, by decide, Or.inl (by decide), Or.inr (by decide), Or.inr ⟨"HairProvince", tm 431 (by decide +kernel) rfl⟩⟩
def H_cancel  (σ : Sg) : Rs := (if 0 < (σ 8 12) then (nm (up_s σ 8 12 (w32 ((σ 8 12) - 1))) (fun s1 => (bd (H_give (s1 8 12) s1) (fun r2 s3 => (some (r2, s3)))))) else (bd (H_fail 8 σ) (fun r4 s5 => (some (r4, s5)))))
theorem ok_H_cancel (σ : Sg) : MC l Kh Ph yX11_cancel cX11_cancel 1 0 2 [.inr (.inr 0)] σ (H_cancel σ) := by
  refine mc_of (by decide) (Nat.le_of_ble_eq_true rfl) ?_
  change G l Kh Ph RX11 cX11_cancel 1 0 2 0 [some (.inr (.inr 0))] [] σ (H_cancel  σ)
  unfold H_cancel
  refine g_aload_n dX11_cancel_0 rfl rfl ?_
  refine g_getr' (q := 8) fl_RX11_43 kh_0 (by decide) rfl dX11_cancel_1 ?_
  refine g_geti fl_RX11_220 kh_8 (by decide) dX11_cancel_4 ?_
  refine g_ifgt (tgt := 17) dX11_cancel_7 (by decide) ?_ ?_
  · refine g_aload_n dX11_cancel_17 rfl rfl ?_
    refine g_getr' (q := 8) fl_RX11_43 kh_0 (by decide) rfl dX11_cancel_18 ?_
    refine g_dup dX11_cancel_21 rfl ?_
    refine g_geti fl_RX11_220 kh_8 (by decide) dX11_cancel_22 ?_
    refine g_iconst dX11_cancel_25 (by decide) ?_
    refine g_isub dX11_cancel_26 ?_
    refine g_puti fl_RX11_220 kh_8 (by decide) dX11_cancel_27 ?_
    intro s1
    refine g_aload_n dX11_cancel_30 rfl rfl ?_
    refine g_aload_n dX11_cancel_31 rfl rfl ?_
    refine g_getr' (q := 8) fl_RX11_43 kh_0 (by decide) rfl dX11_cancel_32 ?_
    refine g_geti fl_RX11_220 kh_8 (by decide) dX11_cancel_35 ?_
    refine g_callv0 (st := []) 9 mw_X11_give lk_RX11_194 rfl kh_0 (ok_H_give (s1 8 12) s1) (Nat.le_of_ble_eq_true rfl) rfl rfl (Nat.le_of_ble_eq_true rfl) dX11_cancel_38 ?_
    intro r2 s3
    exact g_iret dX11_cancel_41
  · refine g_aload_n dX11_cancel_10 rfl rfl ?_
    refine g_bipush dX11_cancel_11 (by decide) ?_
    refine g_callv0 (st := []) 9 mw_X11_fail lk_RX11_147 rfl kh_0 (ok_H_fail 8 σ) (Nat.le_of_ble_eq_true rfl) rfl rfl (Nat.le_of_ble_eq_true rfl) dX11_cancel_13 ?_
    intro r4 s5
    exact g_iret dX11_cancel_16
theorem dX11_closeText_0 : decode cX11_closeText 0 = .ok (.aload_n 0, 1) := by decide +kernel
theorem dX11_closeText_1 : decode cX11_closeText 1 = .ok (.getfield 36, 3) := by decide +kernel
theorem dX11_closeText_4 : decode cX11_closeText 4 = .ok (.iconst 0, 1) := by decide +kernel
theorem dX11_closeText_5 : decode cX11_closeText 5 = .ok (.putfield 164, 3) := by decide +kernel
theorem dX11_closeText_8 : decode cX11_closeText 8 = .ok (.aload_n 0, 1) := by decide +kernel
theorem dX11_closeText_9 : decode cX11_closeText 9 = .ok (.iload_n 1, 1) := by decide +kernel
theorem dX11_closeText_10 : decode cX11_closeText 10 = .ok (.ifCond .eq 7, 3) := by decide +kernel
theorem dX11_closeText_13 : decode cX11_closeText 13 = .ok (.iconst 0, 1) := by decide +kernel
theorem dX11_closeText_14 : decode cX11_closeText 14 = .ok (.goto 10, 3) := by decide +kernel
theorem dX11_closeText_17 : decode cX11_closeText 17 = .ok (.aload_n 0, 1) := by decide +kernel
theorem dX11_closeText_18 : decode cX11_closeText 18 = .ok (.getfield 36, 3) := by decide +kernel
theorem dX11_closeText_21 : decode cX11_closeText 21 = .ok (.getfield 213, 3) := by decide +kernel
theorem dX11_closeText_24 : decode cX11_closeText 24 = .ok (.putfield 20, 3) := by decide +kernel
theorem dX11_closeText_27 : decode cX11_closeText 27 = .ok (.aload_n 0, 1) := by decide +kernel
theorem dX11_closeText_28 : decode cX11_closeText 28 = .ok (.iload_n 1, 1) := by decide +kernel
theorem dX11_closeText_29 : decode cX11_closeText 29 = .ok (.ifCond .eq 7, 3) := by decide +kernel
theorem dX11_closeText_32 : decode cX11_closeText 32 = .ok (.iconst (-1), 1) := by decide +kernel
theorem dX11_closeText_33 : decode cX11_closeText 33 = .ok (.goto 10, 3) := by decide +kernel
theorem dX11_closeText_36 : decode cX11_closeText 36 = .ok (.aload_n 0, 1) := by decide +kernel
theorem dX11_closeText_37 : decode cX11_closeText 37 = .ok (.getfield 36, 3) := by decide +kernel
theorem dX11_closeText_40 : decode cX11_closeText 40 = .ok (.getfield 216, 3) := by decide +kernel
theorem dX11_closeText_43 : decode cX11_closeText 43 = .ok (.putfield 23, 3) := by decide +kernel
theorem dX11_closeText_46 : decode cX11_closeText 46 = .ok (.return_, 1) := by decide +kernel
theorem mw_X11_closeText : MW yX11_closeText cX11_closeText 2 2 1 false := ⟨tm 954 (by decide +kernel) rfl, tm 235 (by decide +kernel) rfl, by decide, by decide, (by rw [if_neg (by decide)]; exact ⟨tm 953 (by decide +kernel) rfl, tm 43 (by decide +kernel) rfl⟩)⟩
theorem fl_RX11_20 : FL RX11 20 9 3 := ⟨_, _, _, _, cw_9, by decide, Or.inl (by decide), Or.inr (by decide), Or.inl (tm 625 (by decide +kernel) rfl)⟩
theorem fl_RX11_23 : FL RX11 23 9 4 := ⟨_, _, _, _, cw_9, by decide, Or.inl (by decide), Or.inr (by decide), Or.inl (tm 626 (by decide +kernel) rfl)⟩
theorem fl_RX11_36 : FL RX11 36 9 7 := ⟨_, _, _, _, cw_9, by decide, Or.inr (Or.inr (Or.inr (by decide))), Or.inl (by decide), Or.inl (tm 629 (by decide +kernel) rfl)⟩
theorem fl_RX11_164 : FL RX11 164 6 1 := ⟨_, _, _, _, cw_6, by decide, Or.inl (by decide), Or.inr (by decide), Or.inr ⟨"HairProvince", tm 344 (by decide +kernel) rfl⟩⟩
theorem fl_RX11_213 : FL RX11 213 6 11 := ⟨_, _, _, _, cw_6, by decide, Or.inl (by decide), Or.inr (by decide), Or.inr ⟨"HairProvince", tm 357 (by decide +kernel) rfl⟩⟩
theorem fl_RX11_216 : FL RX11 216 6 12 := ⟨_, _, _, _, cw_6, by decide, Or.inl (by decide), Or.inr (by decide), Or.inr ⟨"HairProvince", tm 359 (by decide +kernel) rfl⟩⟩
def H_closeText_J24 (a1 : Int) (t1 : Int) (σ : Sg) : Rs := (nm (up_s σ 0 3 t1) (fun s2 => (if a1 = 0 then (nm (up_s s2 0 4 (s2 5 12)) (fun s3 => (some (0, s3)))) else (nm (up_s s2 0 4 (-1)) (fun s4 => (some (0, s4)))))))
theorem ok_H_closeText_J24 (a1 : Int) : ∀ (t1 : Int) (σ : Sg), G l Kh Ph RX11 cX11_closeText 2 2 1 24 [some (.inr (.inr 0)), some (.inl a1)] [.inl t1, .inr (.inr 0)] σ (H_closeText_J24 a1 t1 σ) := by
  intro t1 σ
  unfold H_closeText_J24
  refine g_puti fl_RX11_20 kh_0 (by decide) dX11_closeText_24 ?_
  intro s2
  refine g_aload_n dX11_closeText_27 rfl rfl ?_
  refine g_iload_n dX11_closeText_28 rfl rfl ?_
  refine g_ifeq (tgt := 36) dX11_closeText_29 (by decide) ?_ ?_
  · refine g_aload_n dX11_closeText_36 rfl rfl ?_
    refine g_getr' (q := 5) fl_RX11_36 kh_0 (by decide) rfl dX11_closeText_37 ?_
    refine g_geti fl_RX11_216 kh_5 (by decide) dX11_closeText_40 ?_
    refine g_puti fl_RX11_23 kh_0 (by decide) dX11_closeText_43 ?_
    intro s3
    exact g_vret dX11_closeText_46
  · refine g_iconst dX11_closeText_32 (by decide) ?_
    refine g_goto (tgt := 43) dX11_closeText_33 (by decide) ?_
    refine g_puti fl_RX11_23 kh_0 (by decide) dX11_closeText_43 ?_
    intro s4
    exact g_vret dX11_closeText_46
def H_closeText (a1 : Int) (σ : Sg) : Rs := (nm (up_s σ 5 1 0) (fun s1 => (if a1 = 0 then (H_closeText_J24 a1 (s1 5 11) s1) else (H_closeText_J24 a1 0 s1))))
theorem ok_H_closeText (a1 : Int) (σ : Sg) : MC l Kh Ph yX11_closeText cX11_closeText 2 2 1 [.inr (.inr 0), .inl a1] σ (H_closeText a1 σ) := by
  refine mc_of (by decide) (Nat.le_of_ble_eq_true rfl) ?_
  change G l Kh Ph RX11 cX11_closeText 2 2 1 0 [some (.inr (.inr 0)), some (.inl a1)] [] σ (H_closeText a1 σ)
  unfold H_closeText
  refine g_aload_n dX11_closeText_0 rfl rfl ?_
  refine g_getr' (q := 5) fl_RX11_36 kh_0 (by decide) rfl dX11_closeText_1 ?_
  refine g_iconst dX11_closeText_4 (by decide) ?_
  refine g_puti fl_RX11_164 kh_5 (by decide) dX11_closeText_5 ?_
  intro s1
  refine g_aload_n dX11_closeText_8 rfl rfl ?_
  refine g_iload_n dX11_closeText_9 rfl rfl ?_
  refine g_ifeq (tgt := 17) dX11_closeText_10 (by decide) ?_ ?_
  · refine g_aload_n dX11_closeText_17 rfl rfl ?_
    refine g_getr' (q := 5) fl_RX11_36 kh_0 (by decide) rfl dX11_closeText_18 ?_
    refine g_geti fl_RX11_213 kh_5 (by decide) dX11_closeText_21 ?_
    refine (ok_H_closeText_J24 a1 (s1 5 11) s1)
  · refine g_iconst dX11_closeText_13 (by decide) ?_
    refine g_goto (tgt := 24) dX11_closeText_14 (by decide) ?_
    refine (ok_H_closeText_J24 a1 0 s1)
theorem dX4_isKept_0 : decode cX4_isKept 0 = .ok (.iload_n 1, 1) := by decide +kernel
theorem dX4_isKept_1 : decode cX4_isKept 1 = .ok (.ifCond .lt 47, 3) := by decide +kernel
theorem dX4_isKept_4 : decode cX4_isKept 4 = .ok (.iload_n 1, 1) := by decide +kernel
theorem dX4_isKept_5 : decode cX4_isKept 5 = .ok (.aload_n 0, 1) := by decide +kernel
theorem dX4_isKept_6 : decode cX4_isKept 6 = .ok (.getfield 53, 3) := by decide +kernel
theorem dX4_isKept_9 : decode cX4_isKept 9 = .ok (.if_icmp .ge 39, 3) := by decide +kernel
theorem dX4_isKept_12 : decode cX4_isKept 12 = .ok (.iload_n 1, 1) := by decide +kernel
theorem dX4_isKept_13 : decode cX4_isKept 13 = .ok (.bipush 6, 2) := by decide +kernel
theorem dX4_isKept_15 : decode cX4_isKept 15 = .ok (.if_icmp .ge 33, 3) := by decide +kernel
theorem dX4_isKept_18 : decode cX4_isKept 18 = .ok (.iload_n 2, 1) := by decide +kernel
theorem dX4_isKept_19 : decode cX4_isKept 19 = .ok (.ifCond .lt 29, 3) := by decide +kernel
theorem dX4_isKept_22 : decode cX4_isKept 22 = .ok (.iload_n 2, 1) := by decide +kernel
theorem dX4_isKept_23 : decode cX4_isKept 23 = .ok (.aload_n 0, 1) := by decide +kernel
theorem dX4_isKept_24 : decode cX4_isKept 24 = .ok (.getfield 50, 3) := by decide +kernel
theorem dX4_isKept_27 : decode cX4_isKept 27 = .ok (.if_icmp .ge 21, 3) := by decide +kernel
theorem dX4_isKept_30 : decode cX4_isKept 30 = .ok (.aload_n 0, 1) := by decide +kernel
theorem dX4_isKept_31 : decode cX4_isKept 31 = .ok (.getfield 31, 3) := by decide +kernel
theorem dX4_isKept_34 : decode cX4_isKept 34 = .ok (.iload_n 1, 1) := by decide +kernel
theorem dX4_isKept_35 : decode cX4_isKept 35 = .ok (.iaload, 1) := by decide +kernel
theorem dX4_isKept_36 : decode cX4_isKept 36 = .ok (.iload_n 2, 1) := by decide +kernel
theorem dX4_isKept_37 : decode cX4_isKept 37 = .ok (.ishr, 1) := by decide +kernel
theorem dX4_isKept_38 : decode cX4_isKept 38 = .ok (.iconst 1, 1) := by decide +kernel
theorem dX4_isKept_39 : decode cX4_isKept 39 = .ok (.iand, 1) := by decide +kernel
theorem dX4_isKept_40 : decode cX4_isKept 40 = .ok (.iconst 1, 1) := by decide +kernel
theorem dX4_isKept_41 : decode cX4_isKept 41 = .ok (.if_icmp .ne 7, 3) := by decide +kernel
theorem dX4_isKept_44 : decode cX4_isKept 44 = .ok (.iconst 1, 1) := by decide +kernel
theorem dX4_isKept_45 : decode cX4_isKept 45 = .ok (.goto 4, 3) := by decide +kernel
theorem dX4_isKept_48 : decode cX4_isKept 48 = .ok (.iconst 0, 1) := by decide +kernel
theorem dX4_isKept_49 : decode cX4_isKept 49 = .ok (.ireturn, 1) := by decide +kernel
theorem mw_X4_isKept : MW yX4_isKept cX4_isKept 3 3 2 false := ⟨tm 1071 (by decide +kernel) rfl, tm 242 (by decide +kernel) rfl, by decide, by decide, (by rw [if_neg (by decide)]; exact ⟨tm 1070 (by decide +kernel) rfl, tm 57 (by decide +kernel) rfl⟩)⟩
def Pr_isKept (pr0 : Nat) (a1 : Int) (a2 : Int) (σ : Sg) : Rs := (if a1 < 0 then (some (0, σ)) else (if a1 < (σ pr0 11) then (if a1 < 6 then (if a2 < 0 then (some (0, σ)) else (if a2 < (σ pr0 10) then (rd 6 a1 (σ (pr0 + 7) (Int.toNat a1)) (fun x1 => (if (an32 (sr32 x1 a2) 1) = 1 then (some (1, σ)) else (some (0, σ))))) else (some (0, σ)))) else (some (0, σ))) else (some (0, σ))))
theorem ok_Pr_isKept (pr0 : Nat) (a1 : Int) (a2 : Int) (hpr0 : Kh[pr0]? = some (.inl 4)) (σ : Sg) : MC l Kh Ph yX4_isKept cX4_isKept 3 3 1 [.inr (.inr pr0), .inl a1, .inl a2] σ (Pr_isKept pr0 a1 a2 σ) := by
  refine mc_of (by decide) (Nat.le_of_ble_eq_true rfl) ?_
  change G l Kh Ph RX4 cX4_isKept 3 3 1 0 [some (.inr (.inr pr0)), some (.inl a1), some (.inl a2)] [] σ (Pr_isKept pr0 a1 a2 σ)
  unfold Pr_isKept
  refine g_iload_n dX4_isKept_0 rfl rfl ?_
  refine g_iflt (tgt := 48) dX4_isKept_1 (by decide) ?_ ?_
  · refine g_iconst dX4_isKept_48 (by decide) ?_
    exact g_zret0 dX4_isKept_49
  · refine g_iload_n dX4_isKept_4 rfl rfl ?_
    refine g_aload_n dX4_isKept_5 rfl rfl ?_
    refine g_geti fl_RX4_53 hpr0 (by decide) dX4_isKept_6 ?_
    refine g_icmpge (tgt := 48) dX4_isKept_9 (by decide) ?_ ?_
    · refine g_iload_n dX4_isKept_12 rfl rfl ?_
      refine g_bipush dX4_isKept_13 (by decide) ?_
      refine g_icmpge (tgt := 48) dX4_isKept_15 (by decide) ?_ ?_
      · refine g_iload_n dX4_isKept_18 rfl rfl ?_
        refine g_iflt (tgt := 48) dX4_isKept_19 (by decide) ?_ ?_
        · refine g_iconst dX4_isKept_48 (by decide) ?_
          exact g_zret0 dX4_isKept_49
        · refine g_iload_n dX4_isKept_22 rfl rfl ?_
          refine g_aload_n dX4_isKept_23 rfl rfl ?_
          refine g_geti fl_RX4_50 hpr0 (by decide) dX4_isKept_24 ?_
          refine g_icmpge (tgt := 48) dX4_isKept_27 (by decide) ?_ ?_
          · refine g_aload_n dX4_isKept_30 rfl rfl ?_
            refine g_getr' (q := (pr0 + 7)) fl_RX4_31 hpr0 (by decide) (qp6 hpr0) dX4_isKept_31 ?_
            refine g_iload_n dX4_isKept_34 rfl rfl ?_
            refine g_iald (kp6 hpr0) dX4_isKept_35 ?_
            intro x1
            refine g_iload_n dX4_isKept_36 rfl rfl ?_
            refine g_ishr dX4_isKept_37 ?_
            refine g_iconst dX4_isKept_38 (by decide) ?_
            refine g_iand dX4_isKept_39 ?_
            refine g_iconst dX4_isKept_40 (by decide) ?_
            refine g_icmpne (tgt := 48) dX4_isKept_41 (by decide) ?_ ?_
            · refine g_iconst dX4_isKept_44 (by decide) ?_
              refine g_goto (tgt := 49) dX4_isKept_45 (by decide) ?_
              exact g_zret1 dX4_isKept_49
            · refine g_iconst dX4_isKept_48 (by decide) ?_
              exact g_zret0 dX4_isKept_49
          · refine g_iconst dX4_isKept_48 (by decide) ?_
            exact g_zret0 dX4_isKept_49
      · refine g_iconst dX4_isKept_48 (by decide) ?_
        exact g_zret0 dX4_isKept_49
    · refine g_iconst dX4_isKept_48 (by decide) ?_
      exact g_zret0 dX4_isKept_49
theorem dX4_hairKept_0 : decode cX4_hairKept 0 = .ok (.iconst 0, 1) := by decide +kernel
theorem dX4_hairKept_1 : decode cX4_hairKept 1 = .ok (.istore 4, 2) := by decide +kernel
theorem dX4_hairKept_3 : decode cX4_hairKept 3 = .ok (.iconst 0, 1) := by decide +kernel
theorem dX4_hairKept_4 : decode cX4_hairKept 4 = .ok (.istore 5, 2) := by decide +kernel
theorem dX4_hairKept_6 : decode cX4_hairKept 6 = .ok (.iload 5, 2) := by decide +kernel
theorem dX4_hairKept_8 : decode cX4_hairKept 8 = .ok (.aload_n 0, 1) := by decide +kernel
theorem dX4_hairKept_9 : decode cX4_hairKept 9 = .ok (.getfield 50, 3) := by decide +kernel
theorem dX4_hairKept_12 : decode cX4_hairKept 12 = .ok (.if_icmp .ge 76, 3) := by decide +kernel
theorem dX4_hairKept_15 : decode cX4_hairKept 15 = .ok (.iload 5, 2) := by decide +kernel
theorem dX4_hairKept_17 : decode cX4_hairKept 17 = .ok (.bipush 8, 2) := by decide +kernel
theorem dX4_hairKept_19 : decode cX4_hairKept 19 = .ok (.if_icmp .ge 69, 3) := by decide +kernel
theorem dX4_hairKept_22 : decode cX4_hairKept 22 = .ok (.iload_n 2, 1) := by decide +kernel
theorem dX4_hairKept_23 : decode cX4_hairKept 23 = .ok (.iload 5, 2) := by decide +kernel
theorem dX4_hairKept_25 : decode cX4_hairKept 25 = .ok (.ishr, 1) := by decide +kernel
theorem dX4_hairKept_26 : decode cX4_hairKept 26 = .ok (.iconst 1, 1) := by decide +kernel
theorem dX4_hairKept_27 : decode cX4_hairKept 27 = .ok (.iand, 1) := by decide +kernel
theorem dX4_hairKept_28 : decode cX4_hairKept 28 = .ok (.iconst 1, 1) := by decide +kernel
theorem dX4_hairKept_29 : decode cX4_hairKept 29 = .ok (.if_icmp .ne 53, 3) := by decide +kernel
theorem dX4_hairKept_32 : decode cX4_hairKept 32 = .ok (.aload_n 0, 1) := by decide +kernel
theorem dX4_hairKept_33 : decode cX4_hairKept 33 = .ok (.iload_n 1, 1) := by decide +kernel
theorem dX4_hairKept_34 : decode cX4_hairKept 34 = .ok (.iload 5, 2) := by decide +kernel
theorem dX4_hairKept_36 : decode cX4_hairKept 36 = .ok (.invokevirtual 90, 3) := by decide +kernel
theorem dX4_hairKept_39 : decode cX4_hairKept 39 = .ok (.ifCond .eq 43, 3) := by decide +kernel
theorem dX4_hairKept_42 : decode cX4_hairKept 42 = .ok (.iload_n 1, 1) := by decide +kernel
theorem dX4_hairKept_43 : decode cX4_hairKept 43 = .ok (.bipush 8, 2) := by decide +kernel
theorem dX4_hairKept_45 : decode cX4_hairKept 45 = .ok (.imul, 1) := by decide +kernel
theorem dX4_hairKept_46 : decode cX4_hairKept 46 = .ok (.iload 5, 2) := by decide +kernel
theorem dX4_hairKept_48 : decode cX4_hairKept 48 = .ok (.iadd, 1) := by decide +kernel
theorem dX4_hairKept_49 : decode cX4_hairKept 49 = .ok (.istore 6, 2) := by decide +kernel
theorem dX4_hairKept_51 : decode cX4_hairKept 51 = .ok (.iload 4, 2) := by decide +kernel
theorem dX4_hairKept_53 : decode cX4_hairKept 53 = .ok (.aload_n 0, 1) := by decide +kernel
theorem dX4_hairKept_54 : decode cX4_hairKept 54 = .ok (.aload_n 0, 1) := by decide +kernel
theorem dX4_hairKept_55 : decode cX4_hairKept 55 = .ok (.getfield 62, 3) := by decide +kernel
theorem dX4_hairKept_58 : decode cX4_hairKept 58 = .ok (.iload_n 3, 1) := by decide +kernel
theorem dX4_hairKept_59 : decode cX4_hairKept 59 = .ok (.iadd, 1) := by decide +kernel
theorem dX4_hairKept_60 : decode cX4_hairKept 60 = .ok (.iload 5, 2) := by decide +kernel
theorem dX4_hairKept_62 : decode cX4_hairKept 62 = .ok (.aload_n 0, 1) := by decide +kernel
theorem dX4_hairKept_63 : decode cX4_hairKept 63 = .ok (.getfield 34, 3) := by decide +kernel
theorem dX4_hairKept_66 : decode cX4_hairKept 66 = .ok (.iload 6, 2) := by decide +kernel
theorem dX4_hairKept_68 : decode cX4_hairKept 68 = .ok (.iaload, 1) := by decide +kernel
theorem dX4_hairKept_69 : decode cX4_hairKept 69 = .ok (.aload_n 0, 1) := by decide +kernel
theorem dX4_hairKept_70 : decode cX4_hairKept 70 = .ok (.getfield 37, 3) := by decide +kernel
theorem dX4_hairKept_73 : decode cX4_hairKept 73 = .ok (.iload 6, 2) := by decide +kernel
theorem dX4_hairKept_75 : decode cX4_hairKept 75 = .ok (.iaload, 1) := by decide +kernel
theorem dX4_hairKept_76 : decode cX4_hairKept 76 = .ok (.invokevirtual 94, 3) := by decide +kernel
theorem dX4_hairKept_79 : decode cX4_hairKept 79 = .ok (.iadd, 1) := by decide +kernel
theorem dX4_hairKept_80 : decode cX4_hairKept 80 = .ok (.istore 4, 2) := by decide +kernel
theorem dX4_hairKept_82 : decode cX4_hairKept 82 = .ok (.iinc 5 1, 3) := by decide +kernel
theorem dX4_hairKept_85 : decode cX4_hairKept 85 = .ok (.goto (-79), 3) := by decide +kernel
theorem dX4_hairKept_88 : decode cX4_hairKept 88 = .ok (.iload 4, 2) := by decide +kernel
theorem dX4_hairKept_90 : decode cX4_hairKept 90 = .ok (.ireturn, 1) := by decide +kernel
theorem mw_X4_hairKept : MW yX4_hairKept cX4_hairKept 7 0 3 false := ⟨tm 1067 (by decide +kernel) rfl, tm 242 (by decide +kernel) rfl, by decide, by decide, (by rw [if_neg (by decide)]; exact ⟨tm 1066 (by decide +kernel) rfl, tm 56 (by decide +kernel) rfl⟩)⟩
theorem lk_RX4_90 : LK RX4 90 yX4_isKept := Or.inl (tm 1068 (by decide +kernel) rfl)
theorem lk_RX4_94 : LK RX4 94 yX4_lengthOn := Or.inl (tm 1072 (by decide +kernel) rfl)
def Pr_hairKept_L6 (pr0 : Nat) (a1 : Int) (a2 : Int) (a3 : Int) : Nat → Int → Int → Sg → Rs
  | 0, _, _, _ => none
  | n + 1, v4, v5, σ => (if v5 < (σ pr0 10) then (if v5 < 8 then (if (an32 (sr32 a2 v5) 1) = 1 then (bd (Pr_isKept pr0 a1 v5 σ) (fun r1 s2 => (if r1 = 0 then (nm (w32 (v5 + 1)) (fun x3 => (Pr_hairKept_L6 pr0 a1 a2 a3 n v4 x3 s2))) else (nm (w32 ((w32 (a1 * 8)) + v5)) (fun x4 => (rd 48 x4 (s2 (pr0 + 8) (Int.toNat x4)) (fun x5 => (rd 48 x4 (s2 (pr0 + 9) (Int.toNat x4)) (fun x6 => (bd (Pr_lengthOn pr0 (w32 ((s2 pr0 16) + a3)) v5 x5 x6 s2) (fun r7 s8 => (nm (w32 (v4 + r7)) (fun x9 => (nm (w32 (v5 + 1)) (fun x10 => (Pr_hairKept_L6 pr0 a1 a2 a3 n x9 x10 s8)))))))))))))))) else (nm (w32 (v5 + 1)) (fun x11 => (Pr_hairKept_L6 pr0 a1 a2 a3 n v4 x11 σ)))) else (some (v4, σ))) else (some (v4, σ)))
theorem ok_Pr_hairKept_L6 (pr0 : Nat) (a1 : Int) (a2 : Int) (a3 : Int) (hpr0 : Kh[pr0]? = some (.inl 4)) : ∀ (n : Nat) (v4 v5 : Int) (σ : Sg), G l Kh Ph RX4 cX4_hairKept 7 0 2 6 [some (.inr (.inr pr0)), some (.inl a1), some (.inl a2), some (.inl a3), some (.inl v4), some (.inl v5), none] [] σ (Pr_hairKept_L6 pr0 a1 a2 a3 n v4 v5 σ) := by
  intro n
  induction n with
  | zero => intros; exact G.none_
  | succ n ih =>
    intro v4 v5 σ
    rw [Pr_hairKept_L6]
    refine g_iload dX4_hairKept_6 rfl ?_
    refine g_aload_n dX4_hairKept_8 rfl rfl ?_
    refine g_geti fl_RX4_50 hpr0 (by decide) dX4_hairKept_9 ?_
    refine g_icmpge (tgt := 88) dX4_hairKept_12 (by decide) ?_ ?_
    · refine g_iload dX4_hairKept_15 rfl ?_
      refine g_bipush dX4_hairKept_17 (by decide) ?_
      refine g_icmpge (tgt := 88) dX4_hairKept_19 (by decide) ?_ ?_
      · refine g_iload_n dX4_hairKept_22 rfl rfl ?_
        refine g_iload dX4_hairKept_23 rfl ?_
        refine g_ishr dX4_hairKept_25 ?_
        refine g_iconst dX4_hairKept_26 (by decide) ?_
        refine g_iand dX4_hairKept_27 ?_
        refine g_iconst dX4_hairKept_28 (by decide) ?_
        refine g_icmpne (tgt := 82) dX4_hairKept_29 (by decide) ?_ ?_
        · refine g_aload_n dX4_hairKept_32 rfl rfl ?_
          refine g_iload_n dX4_hairKept_33 rfl rfl ?_
          refine g_iload dX4_hairKept_34 rfl ?_
          refine g_callv3 (st := []) 4 mw_X4_isKept lk_RX4_90 rfl hpr0 (ok_Pr_isKept pr0 a1 v5 hpr0 σ) (Nat.le_of_ble_eq_true rfl) rfl rfl (Nat.le_of_ble_eq_true rfl) dX4_hairKept_36 ?_
          intro r1 s2
          refine g_ifeq (tgt := 82) dX4_hairKept_39 (by decide) ?_ ?_
          · refine n_iinc (fun x3 => [some (.inr (.inr pr0)), some (.inl a1), some (.inl a2), some (.inl a3), some (.inl v4), some (.inl x3), none]) dX4_hairKept_82 rfl (Nat.le_of_ble_eq_true rfl) (fun _ => rfl) ?_
            intro x3
            refine g_goto (tgt := 6) dX4_hairKept_85 (by decide) ?_
            exact (ih v4 x3 s2)
          · refine g_iload_n dX4_hairKept_42 rfl rfl ?_
            refine g_bipush dX4_hairKept_43 (by decide) ?_
            refine g_imul dX4_hairKept_45 ?_
            refine g_iload dX4_hairKept_46 rfl ?_
            refine g_iadd dX4_hairKept_48 ?_
            refine n_istore (fun x4 => [some (.inr (.inr pr0)), some (.inl a1), some (.inl a2), some (.inl a3), some (.inl v4), some (.inl v5), some (.inl x4)]) dX4_hairKept_49 (Nat.le_of_ble_eq_true rfl) (fun _ => rfl) ?_
            intro x4
            refine g_iload dX4_hairKept_51 rfl ?_
            refine g_aload_n dX4_hairKept_53 rfl rfl ?_
            refine g_aload_n dX4_hairKept_54 rfl rfl ?_
            refine g_geti fl_RX4_62 hpr0 (by decide) dX4_hairKept_55 ?_
            refine g_iload_n dX4_hairKept_58 rfl rfl ?_
            refine g_iadd dX4_hairKept_59 ?_
            refine g_iload dX4_hairKept_60 rfl ?_
            refine g_aload_n dX4_hairKept_62 rfl rfl ?_
            refine g_getr' (q := (pr0 + 8)) fl_RX4_34 hpr0 (by decide) (qp7 hpr0) dX4_hairKept_63 ?_
            refine g_iload dX4_hairKept_66 rfl ?_
            refine g_iald (kp7 hpr0) dX4_hairKept_68 ?_
            intro x5
            refine g_aload_n dX4_hairKept_69 rfl rfl ?_
            refine g_getr' (q := (pr0 + 9)) fl_RX4_37 hpr0 (by decide) (qp8 hpr0) dX4_hairKept_70 ?_
            refine g_iload dX4_hairKept_73 rfl ?_
            refine g_iald (kp8 hpr0) dX4_hairKept_75 ?_
            intro x6
            refine g_callv0 (st := [.inl v4]) 4 mw_X4_lengthOn lk_RX4_94 rfl hpr0 (ok_Pr_lengthOn pr0 (w32 ((s2 pr0 16) + a3)) v5 x5 x6 hpr0 s2) (Nat.le_of_ble_eq_true rfl) rfl rfl (Nat.le_of_ble_eq_true rfl) dX4_hairKept_76 ?_
            intro r7 s8
            refine g_iadd dX4_hairKept_79 ?_
            refine n_istore (fun x9 => [some (.inr (.inr pr0)), some (.inl a1), some (.inl a2), some (.inl a3), some (.inl x9), some (.inl v5), some (.inl x4)]) dX4_hairKept_80 (Nat.le_of_ble_eq_true rfl) (fun _ => rfl) ?_
            intro x9
            refine n_iinc (fun x10 => [some (.inr (.inr pr0)), some (.inl a1), some (.inl a2), some (.inl a3), some (.inl x9), some (.inl x10), some (.inl x4)]) dX4_hairKept_82 rfl (Nat.le_of_ble_eq_true rfl) (fun _ => rfl) ?_
            intro x10
            refine g_goto (tgt := 6) dX4_hairKept_85 (by decide) ?_
            exact (g_weak [true, true, true, true, true, true, false] (ih x9 x10 s8))
        · refine n_iinc (fun x11 => [some (.inr (.inr pr0)), some (.inl a1), some (.inl a2), some (.inl a3), some (.inl v4), some (.inl x11), none]) dX4_hairKept_82 rfl (Nat.le_of_ble_eq_true rfl) (fun _ => rfl) ?_
          intro x11
          refine g_goto (tgt := 6) dX4_hairKept_85 (by decide) ?_
          exact (ih v4 x11 σ)
      · refine g_iload dX4_hairKept_88 rfl ?_
        exact g_iret dX4_hairKept_90
    · refine g_iload dX4_hairKept_88 rfl ?_
      exact g_iret dX4_hairKept_90
def Pr_hairKept (pr0 : Nat) (a1 : Int) (a2 : Int) (a3 : Int) (σ : Sg) : Rs := (Pr_hairKept_L6 pr0 a1 a2 a3 fu 0 0 σ)
theorem ok_Pr_hairKept (pr0 : Nat) (a1 : Int) (a2 : Int) (a3 : Int) (hpr0 : Kh[pr0]? = some (.inl 4)) (σ : Sg) : MC l Kh Ph yX4_hairKept cX4_hairKept 7 0 2 [.inr (.inr pr0), .inl a1, .inl a2, .inl a3] σ (Pr_hairKept pr0 a1 a2 a3 σ) := by
  refine mc_of (by decide) (Nat.le_of_ble_eq_true rfl) ?_
  change G l Kh Ph RX4 cX4_hairKept 7 0 2 0 [some (.inr (.inr pr0)), some (.inl a1), some (.inl a2), some (.inl a3), none, none, none] [] σ (Pr_hairKept pr0 a1 a2 a3 σ)
  unfold Pr_hairKept
  refine g_iconst dX4_hairKept_0 (by decide) ?_
  refine g_istore (lv' := [some (.inr (.inr pr0)), some (.inl a1), some (.inl a2), some (.inl a3), some (.inl 0), none, none]) dX4_hairKept_1 (Nat.le_of_ble_eq_true rfl) rfl ?_
  refine g_iconst dX4_hairKept_3 (by decide) ?_
  refine g_istore (lv' := [some (.inr (.inr pr0)), some (.inl a1), some (.inl a2), some (.inl a3), some (.inl 0), some (.inl 0), none]) dX4_hairKept_4 (Nat.le_of_ble_eq_true rfl) rfl ?_
  refine (ok_Pr_hairKept_L6 pr0 a1 a2 a3 hpr0 fu 0 0 σ)
theorem dX4_hairOf_0 : decode cX4_hairOf 0 = .ok (.aload_n 0, 1) := by decide +kernel
theorem dX4_hairOf_1 : decode cX4_hairOf 1 = .ok (.iload_n 1, 1) := by decide +kernel
theorem dX4_hairOf_2 : decode cX4_hairOf 2 = .ok (.invokevirtual 87, 3) := by decide +kernel
theorem dX4_hairOf_5 : decode cX4_hairOf 5 = .ok (.ifCond .eq 18, 3) := by decide +kernel
theorem dX4_hairOf_8 : decode cX4_hairOf 8 = .ok (.aload_n 0, 1) := by decide +kernel
theorem dX4_hairOf_9 : decode cX4_hairOf 9 = .ok (.iload_n 1, 1) := by decide +kernel
theorem dX4_hairOf_10 : decode cX4_hairOf 10 = .ok (.aload_n 0, 1) := by decide +kernel
theorem dX4_hairOf_11 : decode cX4_hairOf 11 = .ok (.getfield 31, 3) := by decide +kernel
theorem dX4_hairOf_14 : decode cX4_hairOf 14 = .ok (.iload_n 1, 1) := by decide +kernel
theorem dX4_hairOf_15 : decode cX4_hairOf 15 = .ok (.iaload, 1) := by decide +kernel
theorem dX4_hairOf_16 : decode cX4_hairOf 16 = .ok (.iconst 0, 1) := by decide +kernel
theorem dX4_hairOf_17 : decode cX4_hairOf 17 = .ok (.invokevirtual 104, 3) := by decide +kernel
theorem dX4_hairOf_20 : decode cX4_hairOf 20 = .ok (.goto 4, 3) := by decide +kernel
theorem dX4_hairOf_23 : decode cX4_hairOf 23 = .ok (.iconst 0, 1) := by decide +kernel
theorem dX4_hairOf_24 : decode cX4_hairOf 24 = .ok (.ireturn, 1) := by decide +kernel
theorem mw_X4_hairOf : MW yX4_hairOf cX4_hairOf 2 0 1 false := ⟨tm 1059 (by decide +kernel) rfl, tm 242 (by decide +kernel) rfl, by decide, by decide, (by rw [if_neg (by decide)]; exact ⟨tm 1058 (by decide +kernel) rfl, tm 54 (by decide +kernel) rfl⟩)⟩
theorem lk_RX4_87 : LK RX4 87 yX4_isPerson := Or.inl (tm 1060 (by decide +kernel) rfl)
theorem lk_RX4_104 : LK RX4 104 yX4_hairKept := Or.inl (tm 1064 (by decide +kernel) rfl)
def Pr_hairOf (pr0 : Nat) (a1 : Int) (σ : Sg) : Rs := (bd (Pr_isPerson pr0 a1 σ) (fun r1 s2 => (if r1 = 0 then (some (0, s2)) else (rd 6 a1 (s2 (pr0 + 7) (Int.toNat a1)) (fun x3 => (bd (Pr_hairKept pr0 a1 x3 0 s2) (fun r4 s5 => (some (r4, s5)))))))))
theorem ok_Pr_hairOf (pr0 : Nat) (a1 : Int) (hpr0 : Kh[pr0]? = some (.inl 4)) (σ : Sg) : MC l Kh Ph yX4_hairOf cX4_hairOf 2 0 3 [.inr (.inr pr0), .inl a1] σ (Pr_hairOf pr0 a1 σ) := by
  refine mc_of (by decide) (Nat.le_of_ble_eq_true rfl) ?_
  change G l Kh Ph RX4 cX4_hairOf 2 0 3 0 [some (.inr (.inr pr0)), some (.inl a1)] [] σ (Pr_hairOf pr0 a1 σ)
  unfold Pr_hairOf
  refine g_aload_n dX4_hairOf_0 rfl rfl ?_
  refine g_iload_n dX4_hairOf_1 rfl rfl ?_
  refine g_callv3 (st := []) 4 mw_X4_isPerson lk_RX4_87 rfl hpr0 (ok_Pr_isPerson pr0 a1 hpr0 σ) (Nat.le_of_ble_eq_true rfl) rfl rfl (Nat.le_of_ble_eq_true rfl) dX4_hairOf_2 ?_
  intro r1 s2
  refine g_ifeq (tgt := 23) dX4_hairOf_5 (by decide) ?_ ?_
  · refine g_iconst dX4_hairOf_23 (by decide) ?_
    exact g_iret dX4_hairOf_24
  · refine g_aload_n dX4_hairOf_8 rfl rfl ?_
    refine g_iload_n dX4_hairOf_9 rfl rfl ?_
    refine g_aload_n dX4_hairOf_10 rfl rfl ?_
    refine g_getr' (q := (pr0 + 7)) fl_RX4_31 hpr0 (by decide) (qp6 hpr0) dX4_hairOf_11 ?_
    refine g_iload_n dX4_hairOf_14 rfl rfl ?_
    refine g_iald (kp6 hpr0) dX4_hairOf_15 ?_
    intro x3
    refine g_iconst dX4_hairOf_16 (by decide) ?_
    refine g_callv0 (st := []) 4 mw_X4_hairKept lk_RX4_104 rfl hpr0 (ok_Pr_hairKept pr0 a1 x3 0 hpr0 s2) (Nat.le_of_ble_eq_true rfl) rfl rfl (Nat.le_of_ble_eq_true rfl) dX4_hairOf_17 ?_
    intro r4 s5
    refine g_goto (tgt := 24) dX4_hairOf_20 (by decide) ?_
    exact g_iret dX4_hairOf_24
theorem dX8_cutTo_0 : decode cX8_cutTo 0 = .ok (.iload_n 0, 1) := by decide +kernel
theorem dX8_cutTo_1 : decode cX8_cutTo 1 = .ok (.tableswitch 41 0 2 #[27, 32, 37], 27) := by decide +kernel
theorem dX8_cutTo_28 : decode cX8_cutTo 28 = .ok (.lload_n 1, 1) := by decide +kernel
theorem dX8_cutTo_29 : decode cX8_cutTo 29 = .ok (.l2i, 1) := by decide +kernel
theorem dX8_cutTo_30 : decode cX8_cutTo 30 = .ok (.i2b, 1) := by decide +kernel
theorem dX8_cutTo_31 : decode cX8_cutTo 31 = .ok (.i2l, 1) := by decide +kernel
theorem dX8_cutTo_32 : decode cX8_cutTo 32 = .ok (.lreturn, 1) := by decide +kernel
theorem dX8_cutTo_33 : decode cX8_cutTo 33 = .ok (.lload_n 1, 1) := by decide +kernel
theorem dX8_cutTo_34 : decode cX8_cutTo 34 = .ok (.l2i, 1) := by decide +kernel
theorem dX8_cutTo_35 : decode cX8_cutTo 35 = .ok (.i2s, 1) := by decide +kernel
theorem dX8_cutTo_36 : decode cX8_cutTo 36 = .ok (.i2l, 1) := by decide +kernel
theorem dX8_cutTo_37 : decode cX8_cutTo 37 = .ok (.lreturn, 1) := by decide +kernel
theorem dX8_cutTo_38 : decode cX8_cutTo 38 = .ok (.lload_n 1, 1) := by decide +kernel
theorem dX8_cutTo_39 : decode cX8_cutTo 39 = .ok (.l2i, 1) := by decide +kernel
theorem dX8_cutTo_40 : decode cX8_cutTo 40 = .ok (.i2l, 1) := by decide +kernel
theorem dX8_cutTo_41 : decode cX8_cutTo 41 = .ok (.lreturn, 1) := by decide +kernel
theorem dX8_cutTo_42 : decode cX8_cutTo 42 = .ok (.lload_n 1, 1) := by decide +kernel
theorem dX8_cutTo_43 : decode cX8_cutTo 43 = .ok (.lreturn, 1) := by decide +kernel
theorem mw_X8_cutTo : MW yX8_cutTo cX8_cutTo 3 1 2 true := ⟨tm 754 (by decide +kernel) rfl, tm 236 (by decide +kernel) rfl, by decide, by decide, (by rw [if_pos rfl]; exact tm 753 (by decide +kernel) rfl)⟩
def Tr_cutTo (a0 : Int) (a1 : Int) (σ : Sg) : Rs := (sw a0 0 [(some ((b32 (w32 a1)), σ)), (some ((s32 (w32 a1)), σ)), (some ((w32 a1), σ))] (some (a1, σ)))
theorem ok_Tr_cutTo (a0 : Int) (a1 : Int) (σ : Sg) : MC l Kh Ph yX8_cutTo cX8_cutTo 3 1 1 [.inl a0, .inr (.inl a1)] σ (Tr_cutTo a0 a1 σ) := by
  refine mc_of (by decide) (Nat.le_of_ble_eq_true rfl) ?_
  change G l Kh Ph RX8 cX8_cutTo 3 1 1 0 [some (.inl a0), some (.inr (.inl a1)), none] [] σ (Tr_cutTo a0 a1 σ)
  unfold Tr_cutTo
  refine g_iload_n dX8_cutTo_0 rfl rfl ?_
  refine g_tsw (td := 42) [28, 33, 38] dX8_cutTo_1 (by decide) rfl (And.intro ?_ (And.intro ?_ (And.intro ?_ trivial))) ?_
  · refine g_lload_n dX8_cutTo_28 rfl rfl ?_
    refine g_l2i dX8_cutTo_29 ?_
    refine g_i2b dX8_cutTo_30 ?_
    refine g_i2l dX8_cutTo_31 ?_
    exact g_lret dX8_cutTo_32
  · refine g_lload_n dX8_cutTo_33 rfl rfl ?_
    refine g_l2i dX8_cutTo_34 ?_
    refine g_i2s dX8_cutTo_35 ?_
    refine g_i2l dX8_cutTo_36 ?_
    exact g_lret dX8_cutTo_37
  · refine g_lload_n dX8_cutTo_38 rfl rfl ?_
    refine g_l2i dX8_cutTo_39 ?_
    refine g_i2l dX8_cutTo_40 ?_
    exact g_lret dX8_cutTo_41
  · refine g_lload_n dX8_cutTo_42 rfl rfl ?_
    exact g_lret dX8_cutTo_43
theorem dX8_put_0 : decode cX8_put 0 = .ok (.aload_n 0, 1) := by decide +kernel
theorem dX8_put_1 : decode cX8_put 1 = .ok (.iload_n 1, 1) := by decide +kernel
theorem dX8_put_2 : decode cX8_put 2 = .ok (.iload_n 2, 1) := by decide +kernel
theorem dX8_put_3 : decode cX8_put 3 = .ok (.iconst 1, 1) := by decide +kernel
theorem dX8_put_4 : decode cX8_put 4 = .ok (.invokevirtual 30, 3) := by decide +kernel
theorem dX8_put_7 : decode cX8_put 7 = .ok (.ifCond .eq 24, 3) := by decide +kernel
theorem dX8_put_10 : decode cX8_put 10 = .ok (.aload_n 0, 1) := by decide +kernel
theorem dX8_put_11 : decode cX8_put 11 = .ok (.getfield 18, 3) := by decide +kernel
theorem dX8_put_14 : decode cX8_put 14 = .ok (.iload_n 1, 1) := by decide +kernel
theorem dX8_put_15 : decode cX8_put 15 = .ok (.bipush 60, 2) := by decide +kernel
theorem dX8_put_17 : decode cX8_put 17 = .ok (.imul, 1) := by decide +kernel
theorem dX8_put_18 : decode cX8_put 18 = .ok (.iload_n 2, 1) := by decide +kernel
theorem dX8_put_19 : decode cX8_put 19 = .ok (.iadd, 1) := by decide +kernel
theorem dX8_put_20 : decode cX8_put 20 = .ok (.aload_n 0, 1) := by decide +kernel
theorem dX8_put_21 : decode cX8_put 21 = .ok (.getfield 11, 3) := by decide +kernel
theorem dX8_put_24 : decode cX8_put 24 = .ok (.iload_n 1, 1) := by decide +kernel
theorem dX8_put_25 : decode cX8_put 25 = .ok (.iaload, 1) := by decide +kernel
theorem dX8_put_26 : decode cX8_put 26 = .ok (.lload_n 3, 1) := by decide +kernel
theorem dX8_put_27 : decode cX8_put 27 = .ok (.invokestatic 34, 3) := by decide +kernel
theorem dX8_put_30 : decode cX8_put 30 = .ok (.lastore, 1) := by decide +kernel
theorem dX8_put_31 : decode cX8_put 31 = .ok (.return_, 1) := by decide +kernel
theorem mw_X8_put : MW yX8_put cX8_put 5 2 3 false := ⟨tm 746 (by decide +kernel) rfl, tm 236 (by decide +kernel) rfl, by decide, by decide, (by rw [if_neg (by decide)]; exact ⟨tm 745 (by decide +kernel) rfl, tm 9 (by decide +kernel) rfl⟩)⟩
theorem lk_RX8_34 : LK RX8 34 yX8_cutTo := Or.inl (tm 752 (by decide +kernel) rfl)
def Tr_put (a1 : Int) (a2 : Int) (a3 : Int) (σ : Sg) : Rs := (bd (Tr_hasRow a1 a2 1 σ) (fun r1 s2 => (if r1 = 0 then (some (0, s2)) else (rd 4 a1 (s2 2 (Int.toNat a1)) (fun x3 => (bd (Tr_cutTo x3 a3 s2) (fun r4 s5 => (wr 240 (w32 ((w32 (a1 * 60)) + a2)) (up_s s5 4 (Int.toNat (w32 ((w32 (a1 * 60)) + a2))) r4) (fun s6 => (some (0, s6)))))))))))
theorem ok_Tr_put (a1 : Int) (a2 : Int) (a3 : Int) (σ : Sg) : MC l Kh Ph yX8_put cX8_put 5 2 4 [.inr (.inr 1), .inl a1, .inl a2, .inr (.inl a3)] σ (Tr_put a1 a2 a3 σ) := by
  refine mc_of (by decide) (Nat.le_of_ble_eq_true rfl) ?_
  change G l Kh Ph RX8 cX8_put 5 2 4 0 [some (.inr (.inr 1)), some (.inl a1), some (.inl a2), some (.inr (.inl a3)), none] [] σ (Tr_put a1 a2 a3 σ)
  unfold Tr_put
  refine g_aload_n dX8_put_0 rfl rfl ?_
  refine g_iload_n dX8_put_1 rfl rfl ?_
  refine g_iload_n dX8_put_2 rfl rfl ?_
  refine g_iconst dX8_put_3 (by decide) ?_
  refine g_callv3 (st := []) 7 mw_X8_hasRow lk_RX8_30 rfl kh_1 (ok_Tr_hasRow a1 a2 1 σ) (Nat.le_of_ble_eq_true rfl) rfl rfl (Nat.le_of_ble_eq_true rfl) dX8_put_4 ?_
  intro r1 s2
  refine g_ifeq (tgt := 31) dX8_put_7 (by decide) ?_ ?_
  · exact g_vret dX8_put_31
  · refine g_aload_n dX8_put_10 rfl rfl ?_
    refine g_getr' (q := 4) fl_RX8_18 kh_1 (by decide) rfl dX8_put_11 ?_
    refine g_iload_n dX8_put_14 rfl rfl ?_
    refine g_bipush dX8_put_15 (by decide) ?_
    refine g_imul dX8_put_17 ?_
    refine g_iload_n dX8_put_18 rfl rfl ?_
    refine g_iadd dX8_put_19 ?_
    refine g_aload_n dX8_put_20 rfl rfl ?_
    refine g_getr' (q := 2) fl_RX8_11 kh_1 (by decide) rfl dX8_put_21 ?_
    refine g_iload_n dX8_put_24 rfl rfl ?_
    refine g_iald kh_2 dX8_put_25 ?_
    intro x3
    refine g_lload_n dX8_put_26 rfl rfl ?_
    refine g_calls1 (st := [.inl (w32 ((w32 (a1 * 60)) + a2)), .inr (.inr 4)]) mw_X8_cutTo lk_RX8_34 (ok_Tr_cutTo x3 a3 s2) (Nat.le_of_ble_eq_true rfl) rfl rfl (Nat.le_of_ble_eq_true rfl) dX8_put_27 ?_
    intro r4 s5
    refine g_last kh_4 dX8_put_30 ?_
    intro s6
    exact g_vret dX8_put_31
theorem dX11_copyHair_0 : decode cX11_copyHair 0 = .ok (.aload_n 0, 1) := by decide +kernel
theorem dX11_copyHair_1 : decode cX11_copyHair 1 = .ok (.iload_n 1, 1) := by decide +kernel
theorem dX11_copyHair_2 : decode cX11_copyHair 2 = .ok (.invokevirtual 128, 3) := by decide +kernel
theorem dX11_copyHair_5 : decode cX11_copyHair 5 = .ok (.istore_n 2, 1) := by decide +kernel
theorem dX11_copyHair_6 : decode cX11_copyHair 6 = .ok (.iload_n 2, 1) := by decide +kernel
theorem dX11_copyHair_7 : decode cX11_copyHair 7 = .ok (.ifCond .eq 9, 3) := by decide +kernel
theorem dX11_copyHair_10 : decode cX11_copyHair 10 = .ok (.aload_n 0, 1) := by decide +kernel
theorem dX11_copyHair_11 : decode cX11_copyHair 11 = .ok (.iload_n 2, 1) := by decide +kernel
theorem dX11_copyHair_12 : decode cX11_copyHair 12 = .ok (.invokevirtual 147, 3) := by decide +kernel
theorem dX11_copyHair_15 : decode cX11_copyHair 15 = .ok (.ireturn, 1) := by decide +kernel
theorem dX11_copyHair_16 : decode cX11_copyHair 16 = .ok (.aload_n 0, 1) := by decide +kernel
theorem dX11_copyHair_17 : decode cX11_copyHair 17 = .ok (.getfield 29, 3) := by decide +kernel
theorem dX11_copyHair_20 : decode cX11_copyHair 20 = .ok (.iload_n 1, 1) := by decide +kernel
theorem dX11_copyHair_21 : decode cX11_copyHair 21 = .ok (.invokevirtual 132, 3) := by decide +kernel
theorem dX11_copyHair_24 : decode cX11_copyHair 24 = .ok (.aload_n 0, 1) := by decide +kernel
theorem dX11_copyHair_25 : decode cX11_copyHair 25 = .ok (.getfield 43, 3) := by decide +kernel
theorem dX11_copyHair_28 : decode cX11_copyHair 28 = .ok (.getfield 191, 3) := by decide +kernel
theorem dX11_copyHair_31 : decode cX11_copyHair 31 = .ok (.if_icmp .ge 9, 3) := by decide +kernel
theorem dX11_copyHair_34 : decode cX11_copyHair 34 = .ok (.aload_n 0, 1) := by decide +kernel
theorem dX11_copyHair_35 : decode cX11_copyHair 35 = .ok (.iconst 4, 1) := by decide +kernel
theorem dX11_copyHair_36 : decode cX11_copyHair 36 = .ok (.invokevirtual 147, 3) := by decide +kernel
theorem dX11_copyHair_39 : decode cX11_copyHair 39 = .ok (.ireturn, 1) := by decide +kernel
theorem dX11_copyHair_40 : decode cX11_copyHair 40 = .ok (.iconst 0, 1) := by decide +kernel
theorem dX11_copyHair_41 : decode cX11_copyHair 41 = .ok (.istore_n 3, 1) := by decide +kernel
theorem dX11_copyHair_42 : decode cX11_copyHair 42 = .ok (.iload_n 3, 1) := by decide +kernel
theorem dX11_copyHair_43 : decode cX11_copyHair 43 = .ok (.aload_n 0, 1) := by decide +kernel
theorem dX11_copyHair_44 : decode cX11_copyHair 44 = .ok (.getfield 43, 3) := by decide +kernel
theorem dX11_copyHair_47 : decode cX11_copyHair 47 = .ok (.getfield 191, 3) := by decide +kernel
theorem dX11_copyHair_50 : decode cX11_copyHair 50 = .ok (.if_icmp .ge 27, 3) := by decide +kernel
theorem dX11_copyHair_53 : decode cX11_copyHair 53 = .ok (.aload_n 0, 1) := by decide +kernel
theorem dX11_copyHair_54 : decode cX11_copyHair 54 = .ok (.getfield 29, 3) := by decide +kernel
theorem dX11_copyHair_57 : decode cX11_copyHair 57 = .ok (.iload_n 1, 1) := by decide +kernel
theorem dX11_copyHair_58 : decode cX11_copyHair 58 = .ok (.iload_n 3, 1) := by decide +kernel
theorem dX11_copyHair_59 : decode cX11_copyHair 59 = .ok (.aload_n 0, 1) := by decide +kernel
theorem dX11_copyHair_60 : decode cX11_copyHair 60 = .ok (.getfield 43, 3) := by decide +kernel
theorem dX11_copyHair_63 : decode cX11_copyHair 63 = .ok (.iload_n 3, 1) := by decide +kernel
theorem dX11_copyHair_64 : decode cX11_copyHair 64 = .ok (.invokevirtual 281, 3) := by decide +kernel
theorem dX11_copyHair_67 : decode cX11_copyHair 67 = .ok (.i2l, 1) := by decide +kernel
theorem dX11_copyHair_68 : decode cX11_copyHair 68 = .ok (.invokevirtual 143, 3) := by decide +kernel
theorem dX11_copyHair_71 : decode cX11_copyHair 71 = .ok (.iinc 3 1, 3) := by decide +kernel
theorem dX11_copyHair_74 : decode cX11_copyHair 74 = .ok (.goto (-32), 3) := by decide +kernel
theorem dX11_copyHair_77 : decode cX11_copyHair 77 = .ok (.aload_n 0, 1) := by decide +kernel
theorem dX11_copyHair_78 : decode cX11_copyHair 78 = .ok (.aload_n 0, 1) := by decide +kernel
theorem dX11_copyHair_79 : decode cX11_copyHair 79 = .ok (.getfield 43, 3) := by decide +kernel
theorem dX11_copyHair_82 : decode cX11_copyHair 82 = .ok (.getfield 191, 3) := by decide +kernel
theorem dX11_copyHair_85 : decode cX11_copyHair 85 = .ok (.invokevirtual 194, 3) := by decide +kernel
theorem dX11_copyHair_88 : decode cX11_copyHair 88 = .ok (.ireturn, 1) := by decide +kernel
theorem mw_X11_copyHair : MW yX11_copyHair cX11_copyHair 4 0 1 false := ⟨tm 1139 (by decide +kernel) rfl, tm 235 (by decide +kernel) rfl, by decide, by decide, (by rw [if_neg (by decide)]; exact ⟨tm 1137 (by decide +kernel) rfl, tm 1138 (by decide +kernel) rfl⟩)⟩
theorem lk_RX11_143 : LK RX11 143 yX8_put := Or.inr ⟨"HairProvince", tm 743 (by decide +kernel) rfl⟩
theorem lk_RX11_281 : LK RX11 281 yX4_hairOf := Or.inr ⟨"HairProvince", tm 1098 (by decide +kernel) rfl⟩
theorem fl_RX11_191 : FL RX11 191 4 11 := ⟨_, _, _, _, cw_4, by decide, Or.inl (by decide), Or.inr (by decide), Or.inr ⟨"HairProvince", tm 428 (by decide +kernel) rfl⟩⟩
def H_copyHair_L42 (a1 : Int) : Nat → Int → Sg → Rs
  | 0, _, _ => none
  | n + 1, v3, σ => (if v3 < (σ 8 11) then (bd (Pr_hairOf 8 v3 σ) (fun r7 s8 => (bd (Tr_put a1 v3 r7 s8) (fun r9 s10 => (nm (w32 (v3 + 1)) (fun x11 => (H_copyHair_L42 a1 n x11 s10))))))) else (bd (H_give (σ 8 11) σ) (fun r12 s13 => (some (r12, s13)))))
theorem ok_H_copyHair_L42 (a1 : Int) : ∀ (n : Nat) (v3 : Int) (σ : Sg), G l Kh Ph RX11 cX11_copyHair 4 0 5 42 [some (.inr (.inr 0)), some (.inl a1), none, some (.inl v3)] [] σ (H_copyHair_L42 a1 n v3 σ) := by
  intro n
  induction n with
  | zero => intros; exact G.none_
  | succ n ih =>
    intro v3 σ
    rw [H_copyHair_L42]
    refine g_iload_n dX11_copyHair_42 rfl rfl ?_
    refine g_aload_n dX11_copyHair_43 rfl rfl ?_
    refine g_getr' (q := 8) fl_RX11_43 kh_0 (by decide) rfl dX11_copyHair_44 ?_
    refine g_geti fl_RX11_191 kh_8 (by decide) dX11_copyHair_47 ?_
    refine g_icmpge (tgt := 77) dX11_copyHair_50 (by decide) ?_ ?_
    · refine g_aload_n dX11_copyHair_53 rfl rfl ?_
      refine g_getr' (q := 1) fl_RX11_29 kh_0 (by decide) rfl dX11_copyHair_54 ?_
      refine g_iload_n dX11_copyHair_57 rfl rfl ?_
      refine g_iload_n dX11_copyHair_58 rfl rfl ?_
      refine g_aload_n dX11_copyHair_59 rfl rfl ?_
      refine g_getr' (q := 8) fl_RX11_43 kh_0 (by decide) rfl dX11_copyHair_60 ?_
      refine g_iload_n dX11_copyHair_63 rfl rfl ?_
      refine g_callv0 (st := [.inl v3, .inl a1, .inr (.inr 1)]) 4 mw_X4_hairOf lk_RX11_281 rfl kh_8 (ok_Pr_hairOf 8 v3 kh_8 σ) (Nat.le_of_ble_eq_true rfl) rfl rfl (Nat.le_of_ble_eq_true rfl) dX11_copyHair_64 ?_
      intro r7 s8
      refine g_i2l dX11_copyHair_67 ?_
      refine g_callv2 (st := []) 7 mw_X8_put lk_RX11_143 rfl kh_1 (ok_Tr_put a1 v3 r7 s8) (Nat.le_of_ble_eq_true rfl) rfl rfl (Nat.le_of_ble_eq_true rfl) dX11_copyHair_68 ?_
      intro r9 s10
      refine n_iinc (fun x11 => [some (.inr (.inr 0)), some (.inl a1), none, some (.inl x11)]) dX11_copyHair_71 rfl (Nat.le_of_ble_eq_true rfl) (fun _ => rfl) ?_
      intro x11
      refine g_goto (tgt := 42) dX11_copyHair_74 (by decide) ?_
      exact (ih x11 s10)
    · refine g_aload_n dX11_copyHair_77 rfl rfl ?_
      refine g_aload_n dX11_copyHair_78 rfl rfl ?_
      refine g_getr' (q := 8) fl_RX11_43 kh_0 (by decide) rfl dX11_copyHair_79 ?_
      refine g_geti fl_RX11_191 kh_8 (by decide) dX11_copyHair_82 ?_
      refine g_callv0 (st := []) 9 mw_X11_give lk_RX11_194 rfl kh_0 (ok_H_give (σ 8 11) σ) (Nat.le_of_ble_eq_true rfl) rfl rfl (Nat.le_of_ble_eq_true rfl) dX11_copyHair_85 ?_
      intro r12 s13
      exact g_iret dX11_copyHair_88
def H_copyHair (a1 : Int) (σ : Sg) : Rs := (bd (H_trayStatus a1 σ) (fun r1 s2 => (if r1 = 0 then (bd (Tr_sizeOf a1 s2) (fun r3 s4 => (if r3 < (s4 8 11) then (bd (H_fail 4 s4) (fun r5 s6 => (some (r5, s6)))) else (H_copyHair_L42 a1 fu 0 s4)))) else (bd (H_fail r1 s2) (fun r14 s15 => (some (r14, s15)))))))
theorem ok_H_copyHair (a1 : Int) (σ : Sg) : MC l Kh Ph yX11_copyHair cX11_copyHair 4 0 5 [.inr (.inr 0), .inl a1] σ (H_copyHair a1 σ) := by
  refine mc_of (by decide) (Nat.le_of_ble_eq_true rfl) ?_
  change G l Kh Ph RX11 cX11_copyHair 4 0 5 0 [some (.inr (.inr 0)), some (.inl a1), none, none] [] σ (H_copyHair a1 σ)
  unfold H_copyHair
  refine g_aload_n dX11_copyHair_0 rfl rfl ?_
  refine g_iload_n dX11_copyHair_1 rfl rfl ?_
  refine g_callv0 (st := []) 9 mw_X11_trayStatus lk_RX11_128 rfl kh_0 (ok_H_trayStatus a1 σ) (Nat.le_of_ble_eq_true rfl) rfl rfl (Nat.le_of_ble_eq_true rfl) dX11_copyHair_2 ?_
  intro r1 s2
  refine g_istore_n (lv' := [some (.inr (.inr 0)), some (.inl a1), some (.inl r1), none]) dX11_copyHair_5 rfl (Nat.le_of_ble_eq_true rfl) rfl ?_
  refine g_iload_n dX11_copyHair_6 rfl rfl ?_
  refine g_ifeq (tgt := 16) dX11_copyHair_7 (by decide) ?_ ?_
  · refine g_aload_n dX11_copyHair_16 rfl rfl ?_
    refine g_getr' (q := 1) fl_RX11_29 kh_0 (by decide) rfl dX11_copyHair_17 ?_
    refine g_iload_n dX11_copyHair_20 rfl rfl ?_
    refine g_callv0 (st := []) 7 mw_X8_sizeOf lk_RX11_132 rfl kh_1 (ok_Tr_sizeOf a1 s2) (Nat.le_of_ble_eq_true rfl) rfl rfl (Nat.le_of_ble_eq_true rfl) dX11_copyHair_21 ?_
    intro r3 s4
    refine g_aload_n dX11_copyHair_24 rfl rfl ?_
    refine g_getr' (q := 8) fl_RX11_43 kh_0 (by decide) rfl dX11_copyHair_25 ?_
    refine g_geti fl_RX11_191 kh_8 (by decide) dX11_copyHair_28 ?_
    refine g_icmpge (tgt := 40) dX11_copyHair_31 (by decide) ?_ ?_
    · refine g_aload_n dX11_copyHair_34 rfl rfl ?_
      refine g_iconst dX11_copyHair_35 (by decide) ?_
      refine g_callv0 (st := []) 9 mw_X11_fail lk_RX11_147 rfl kh_0 (ok_H_fail 4 s4) (Nat.le_of_ble_eq_true rfl) rfl rfl (Nat.le_of_ble_eq_true rfl) dX11_copyHair_36 ?_
      intro r5 s6
      exact g_iret dX11_copyHair_39
    · refine g_iconst dX11_copyHair_40 (by decide) ?_
      refine g_istore_n (lv' := [some (.inr (.inr 0)), some (.inl a1), some (.inl r1), some (.inl 0)]) dX11_copyHair_41 rfl (Nat.le_of_ble_eq_true rfl) rfl ?_
      refine (g_weak [true, true, false, true] (ok_H_copyHair_L42 a1 fu 0 s4))
  · refine g_aload_n dX11_copyHair_10 rfl rfl ?_
    refine g_iload_n dX11_copyHair_11 rfl rfl ?_
    refine g_callv0 (st := []) 9 mw_X11_fail lk_RX11_147 rfl kh_0 (ok_H_fail r1 s2) (Nat.le_of_ble_eq_true rfl) rfl rfl (Nat.le_of_ble_eq_true rfl) dX11_copyHair_12 ?_
    intro r14 s15
    exact g_iret dX11_copyHair_15
theorem dX4_isBarber_0 : decode cX4_isBarber 0 = .ok (.aload_n 0, 1) := by decide +kernel
theorem dX4_isBarber_1 : decode cX4_isBarber 1 = .ok (.iload_n 1, 1) := by decide +kernel
theorem dX4_isBarber_2 : decode cX4_isBarber 2 = .ok (.invokevirtual 87, 3) := by decide +kernel
theorem dX4_isBarber_5 : decode cX4_isBarber 5 = .ok (.ifCond .eq 19, 3) := by decide +kernel
theorem dX4_isBarber_8 : decode cX4_isBarber 8 = .ok (.aload_n 0, 1) := by decide +kernel
theorem dX4_isBarber_9 : decode cX4_isBarber 9 = .ok (.getfield 65, 3) := by decide +kernel
theorem dX4_isBarber_12 : decode cX4_isBarber 12 = .ok (.iload_n 1, 1) := by decide +kernel
theorem dX4_isBarber_13 : decode cX4_isBarber 13 = .ok (.ishr, 1) := by decide +kernel
theorem dX4_isBarber_14 : decode cX4_isBarber 14 = .ok (.iconst 1, 1) := by decide +kernel
theorem dX4_isBarber_15 : decode cX4_isBarber 15 = .ok (.iand, 1) := by decide +kernel
theorem dX4_isBarber_16 : decode cX4_isBarber 16 = .ok (.iconst 1, 1) := by decide +kernel
theorem dX4_isBarber_17 : decode cX4_isBarber 17 = .ok (.if_icmp .ne 7, 3) := by decide +kernel
theorem dX4_isBarber_20 : decode cX4_isBarber 20 = .ok (.iconst 1, 1) := by decide +kernel
theorem dX4_isBarber_21 : decode cX4_isBarber 21 = .ok (.goto 4, 3) := by decide +kernel
theorem dX4_isBarber_24 : decode cX4_isBarber 24 = .ok (.iconst 0, 1) := by decide +kernel
theorem dX4_isBarber_25 : decode cX4_isBarber 25 = .ok (.ireturn, 1) := by decide +kernel
theorem mw_X4_isBarber : MW yX4_isBarber cX4_isBarber 2 3 1 false := ⟨tm 1097 (by decide +kernel) rfl, tm 242 (by decide +kernel) rfl, by decide, by decide, (by rw [if_neg (by decide)]; exact ⟨tm 1096 (by decide +kernel) rfl, tm 61 (by decide +kernel) rfl⟩)⟩
def Pr_isBarber (pr0 : Nat) (a1 : Int) (σ : Sg) : Rs := (bd (Pr_isPerson pr0 a1 σ) (fun r1 s2 => (if r1 = 0 then (some (0, s2)) else (if (an32 (sr32 (s2 pr0 17) a1) 1) = 1 then (some (1, s2)) else (some (0, s2))))))
theorem ok_Pr_isBarber (pr0 : Nat) (a1 : Int) (hpr0 : Kh[pr0]? = some (.inl 4)) (σ : Sg) : MC l Kh Ph yX4_isBarber cX4_isBarber 2 3 2 [.inr (.inr pr0), .inl a1] σ (Pr_isBarber pr0 a1 σ) := by
  refine mc_of (by decide) (Nat.le_of_ble_eq_true rfl) ?_
  change G l Kh Ph RX4 cX4_isBarber 2 3 2 0 [some (.inr (.inr pr0)), some (.inl a1)] [] σ (Pr_isBarber pr0 a1 σ)
  unfold Pr_isBarber
  refine g_aload_n dX4_isBarber_0 rfl rfl ?_
  refine g_iload_n dX4_isBarber_1 rfl rfl ?_
  refine g_callv3 (st := []) 4 mw_X4_isPerson lk_RX4_87 rfl hpr0 (ok_Pr_isPerson pr0 a1 hpr0 σ) (Nat.le_of_ble_eq_true rfl) rfl rfl (Nat.le_of_ble_eq_true rfl) dX4_isBarber_2 ?_
  intro r1 s2
  refine g_ifeq (tgt := 24) dX4_isBarber_5 (by decide) ?_ ?_
  · refine g_iconst dX4_isBarber_24 (by decide) ?_
    exact g_zret0 dX4_isBarber_25
  · refine g_aload_n dX4_isBarber_8 rfl rfl ?_
    refine g_geti fl_RX4_65 hpr0 (by decide) dX4_isBarber_9 ?_
    refine g_iload_n dX4_isBarber_12 rfl rfl ?_
    refine g_ishr dX4_isBarber_13 ?_
    refine g_iconst dX4_isBarber_14 (by decide) ?_
    refine g_iand dX4_isBarber_15 ?_
    refine g_iconst dX4_isBarber_16 (by decide) ?_
    refine g_icmpne (tgt := 24) dX4_isBarber_17 (by decide) ?_ ?_
    · refine g_iconst dX4_isBarber_20 (by decide) ?_
      refine g_goto (tgt := 25) dX4_isBarber_21 (by decide) ?_
      exact g_zret1 dX4_isBarber_25
    · refine g_iconst dX4_isBarber_24 (by decide) ?_
      exact g_zret0 dX4_isBarber_25
theorem dX4_canTrim_0 : decode cX4_canTrim 0 = .ok (.aload_n 0, 1) := by decide +kernel
theorem dX4_canTrim_1 : decode cX4_canTrim 1 = .ok (.iload_n 1, 1) := by decide +kernel
theorem dX4_canTrim_2 : decode cX4_canTrim 2 = .ok (.invokevirtual 87, 3) := by decide +kernel
theorem dX4_canTrim_5 : decode cX4_canTrim 5 = .ok (.ifCond .eq 20, 3) := by decide +kernel
theorem dX4_canTrim_8 : decode cX4_canTrim 8 = .ok (.aload_n 0, 1) := by decide +kernel
theorem dX4_canTrim_9 : decode cX4_canTrim 9 = .ok (.iload_n 2, 1) := by decide +kernel
theorem dX4_canTrim_10 : decode cX4_canTrim 10 = .ok (.invokevirtual 118, 3) := by decide +kernel
theorem dX4_canTrim_13 : decode cX4_canTrim 13 = .ok (.ifCond .eq 12, 3) := by decide +kernel
theorem dX4_canTrim_16 : decode cX4_canTrim 16 = .ok (.iload_n 1, 1) := by decide +kernel
theorem dX4_canTrim_17 : decode cX4_canTrim 17 = .ok (.iload_n 2, 1) := by decide +kernel
theorem dX4_canTrim_18 : decode cX4_canTrim 18 = .ok (.if_icmp .eq 7, 3) := by decide +kernel
theorem dX4_canTrim_21 : decode cX4_canTrim 21 = .ok (.iconst 1, 1) := by decide +kernel
theorem dX4_canTrim_22 : decode cX4_canTrim 22 = .ok (.goto 4, 3) := by decide +kernel
theorem dX4_canTrim_25 : decode cX4_canTrim 25 = .ok (.iconst 0, 1) := by decide +kernel
theorem dX4_canTrim_26 : decode cX4_canTrim 26 = .ok (.ireturn, 1) := by decide +kernel
theorem mw_X4_canTrim : MW yX4_canTrim cX4_canTrim 3 3 2 false := ⟨tm 1200 (by decide +kernel) rfl, tm 242 (by decide +kernel) rfl, by decide, by decide, (by rw [if_neg (by decide)]; exact ⟨tm 1199 (by decide +kernel) rfl, tm 74 (by decide +kernel) rfl⟩)⟩
theorem lk_RX4_118 : LK RX4 118 yX4_isBarber := Or.inl (tm 1201 (by decide +kernel) rfl)
def Pr_canTrim (pr0 : Nat) (a1 : Int) (a2 : Int) (σ : Sg) : Rs := (bd (Pr_isPerson pr0 a1 σ) (fun r1 s2 => (if r1 = 0 then (some (0, s2)) else (bd (Pr_isBarber pr0 a2 s2) (fun r3 s4 => (if r3 = 0 then (some (0, s4)) else (if a1 = a2 then (some (0, s4)) else (some (1, s4)))))))))
theorem ok_Pr_canTrim (pr0 : Nat) (a1 : Int) (a2 : Int) (hpr0 : Kh[pr0]? = some (.inl 4)) (σ : Sg) : MC l Kh Ph yX4_canTrim cX4_canTrim 3 3 3 [.inr (.inr pr0), .inl a1, .inl a2] σ (Pr_canTrim pr0 a1 a2 σ) := by
  refine mc_of (by decide) (Nat.le_of_ble_eq_true rfl) ?_
  change G l Kh Ph RX4 cX4_canTrim 3 3 3 0 [some (.inr (.inr pr0)), some (.inl a1), some (.inl a2)] [] σ (Pr_canTrim pr0 a1 a2 σ)
  unfold Pr_canTrim
  refine g_aload_n dX4_canTrim_0 rfl rfl ?_
  refine g_iload_n dX4_canTrim_1 rfl rfl ?_
  refine g_callv3 (st := []) 4 mw_X4_isPerson lk_RX4_87 rfl hpr0 (ok_Pr_isPerson pr0 a1 hpr0 σ) (Nat.le_of_ble_eq_true rfl) rfl rfl (Nat.le_of_ble_eq_true rfl) dX4_canTrim_2 ?_
  intro r1 s2
  refine g_ifeq (tgt := 25) dX4_canTrim_5 (by decide) ?_ ?_
  · refine g_iconst dX4_canTrim_25 (by decide) ?_
    exact g_zret0 dX4_canTrim_26
  · refine g_aload_n dX4_canTrim_8 rfl rfl ?_
    refine g_iload_n dX4_canTrim_9 rfl rfl ?_
    refine g_callv3 (st := []) 4 mw_X4_isBarber lk_RX4_118 rfl hpr0 (ok_Pr_isBarber pr0 a2 hpr0 s2) (Nat.le_of_ble_eq_true rfl) rfl rfl (Nat.le_of_ble_eq_true rfl) dX4_canTrim_10 ?_
    intro r3 s4
    refine g_ifeq (tgt := 25) dX4_canTrim_13 (by decide) ?_ ?_
    · refine g_iconst dX4_canTrim_25 (by decide) ?_
      exact g_zret0 dX4_canTrim_26
    · refine g_iload_n dX4_canTrim_16 rfl rfl ?_
      refine g_iload_n dX4_canTrim_17 rfl rfl ?_
      refine g_icmpeq (tgt := 25) dX4_canTrim_18 (by decide) ?_ ?_
      · refine g_iconst dX4_canTrim_25 (by decide) ?_
        exact g_zret0 dX4_canTrim_26
      · refine g_iconst dX4_canTrim_21 (by decide) ?_
        refine g_goto (tgt := 26) dX4_canTrim_22 (by decide) ?_
        exact g_zret1 dX4_canTrim_26
theorem dX4_isKnown_0 : decode cX4_isKnown 0 = .ok (.iload_n 1, 1) := by decide +kernel
theorem dX4_isKnown_1 : decode cX4_isKnown 1 = .ok (.ifCond .lt 47, 3) := by decide +kernel
theorem dX4_isKnown_4 : decode cX4_isKnown 4 = .ok (.iload_n 1, 1) := by decide +kernel
theorem dX4_isKnown_5 : decode cX4_isKnown 5 = .ok (.aload_n 0, 1) := by decide +kernel
theorem dX4_isKnown_6 : decode cX4_isKnown 6 = .ok (.getfield 53, 3) := by decide +kernel
theorem dX4_isKnown_9 : decode cX4_isKnown 9 = .ok (.if_icmp .ge 39, 3) := by decide +kernel
theorem dX4_isKnown_12 : decode cX4_isKnown 12 = .ok (.iload_n 1, 1) := by decide +kernel
theorem dX4_isKnown_13 : decode cX4_isKnown 13 = .ok (.bipush 6, 2) := by decide +kernel
theorem dX4_isKnown_15 : decode cX4_isKnown 15 = .ok (.if_icmp .ge 33, 3) := by decide +kernel
theorem dX4_isKnown_18 : decode cX4_isKnown 18 = .ok (.iload_n 2, 1) := by decide +kernel
theorem dX4_isKnown_19 : decode cX4_isKnown 19 = .ok (.ifCond .lt 29, 3) := by decide +kernel
theorem dX4_isKnown_22 : decode cX4_isKnown 22 = .ok (.iload_n 2, 1) := by decide +kernel
theorem dX4_isKnown_23 : decode cX4_isKnown 23 = .ok (.aload_n 0, 1) := by decide +kernel
theorem dX4_isKnown_24 : decode cX4_isKnown 24 = .ok (.getfield 50, 3) := by decide +kernel
theorem dX4_isKnown_27 : decode cX4_isKnown 27 = .ok (.if_icmp .ge 21, 3) := by decide +kernel
theorem dX4_isKnown_30 : decode cX4_isKnown 30 = .ok (.aload_n 0, 1) := by decide +kernel
theorem dX4_isKnown_31 : decode cX4_isKnown 31 = .ok (.getfield 28, 3) := by decide +kernel
theorem dX4_isKnown_34 : decode cX4_isKnown 34 = .ok (.iload_n 1, 1) := by decide +kernel
theorem dX4_isKnown_35 : decode cX4_isKnown 35 = .ok (.iaload, 1) := by decide +kernel
theorem dX4_isKnown_36 : decode cX4_isKnown 36 = .ok (.iload_n 2, 1) := by decide +kernel
theorem dX4_isKnown_37 : decode cX4_isKnown 37 = .ok (.ishr, 1) := by decide +kernel
theorem dX4_isKnown_38 : decode cX4_isKnown 38 = .ok (.iconst 1, 1) := by decide +kernel
theorem dX4_isKnown_39 : decode cX4_isKnown 39 = .ok (.iand, 1) := by decide +kernel
theorem dX4_isKnown_40 : decode cX4_isKnown 40 = .ok (.iconst 1, 1) := by decide +kernel
theorem dX4_isKnown_41 : decode cX4_isKnown 41 = .ok (.if_icmp .ne 7, 3) := by decide +kernel
theorem dX4_isKnown_44 : decode cX4_isKnown 44 = .ok (.iconst 1, 1) := by decide +kernel
theorem dX4_isKnown_45 : decode cX4_isKnown 45 = .ok (.goto 4, 3) := by decide +kernel
theorem dX4_isKnown_48 : decode cX4_isKnown 48 = .ok (.iconst 0, 1) := by decide +kernel
theorem dX4_isKnown_49 : decode cX4_isKnown 49 = .ok (.ireturn, 1) := by decide +kernel
theorem mw_X4_isKnown : MW yX4_isKnown cX4_isKnown 3 3 2 false := ⟨tm 1168 (by decide +kernel) rfl, tm 242 (by decide +kernel) rfl, by decide, by decide, (by rw [if_neg (by decide)]; exact ⟨tm 1167 (by decide +kernel) rfl, tm 71 (by decide +kernel) rfl⟩)⟩
def Pr_isKnown (pr0 : Nat) (a1 : Int) (a2 : Int) (σ : Sg) : Rs := (if a1 < 0 then (some (0, σ)) else (if a1 < (σ pr0 11) then (if a1 < 6 then (if a2 < 0 then (some (0, σ)) else (if a2 < (σ pr0 10) then (rd 6 a1 (σ (pr0 + 6) (Int.toNat a1)) (fun x1 => (if (an32 (sr32 x1 a2) 1) = 1 then (some (1, σ)) else (some (0, σ))))) else (some (0, σ)))) else (some (0, σ))) else (some (0, σ))))
theorem ok_Pr_isKnown (pr0 : Nat) (a1 : Int) (a2 : Int) (hpr0 : Kh[pr0]? = some (.inl 4)) (σ : Sg) : MC l Kh Ph yX4_isKnown cX4_isKnown 3 3 1 [.inr (.inr pr0), .inl a1, .inl a2] σ (Pr_isKnown pr0 a1 a2 σ) := by
  refine mc_of (by decide) (Nat.le_of_ble_eq_true rfl) ?_
  change G l Kh Ph RX4 cX4_isKnown 3 3 1 0 [some (.inr (.inr pr0)), some (.inl a1), some (.inl a2)] [] σ (Pr_isKnown pr0 a1 a2 σ)
  unfold Pr_isKnown
  refine g_iload_n dX4_isKnown_0 rfl rfl ?_
  refine g_iflt (tgt := 48) dX4_isKnown_1 (by decide) ?_ ?_
  · refine g_iconst dX4_isKnown_48 (by decide) ?_
    exact g_zret0 dX4_isKnown_49
  · refine g_iload_n dX4_isKnown_4 rfl rfl ?_
    refine g_aload_n dX4_isKnown_5 rfl rfl ?_
    refine g_geti fl_RX4_53 hpr0 (by decide) dX4_isKnown_6 ?_
    refine g_icmpge (tgt := 48) dX4_isKnown_9 (by decide) ?_ ?_
    · refine g_iload_n dX4_isKnown_12 rfl rfl ?_
      refine g_bipush dX4_isKnown_13 (by decide) ?_
      refine g_icmpge (tgt := 48) dX4_isKnown_15 (by decide) ?_ ?_
      · refine g_iload_n dX4_isKnown_18 rfl rfl ?_
        refine g_iflt (tgt := 48) dX4_isKnown_19 (by decide) ?_ ?_
        · refine g_iconst dX4_isKnown_48 (by decide) ?_
          exact g_zret0 dX4_isKnown_49
        · refine g_iload_n dX4_isKnown_22 rfl rfl ?_
          refine g_aload_n dX4_isKnown_23 rfl rfl ?_
          refine g_geti fl_RX4_50 hpr0 (by decide) dX4_isKnown_24 ?_
          refine g_icmpge (tgt := 48) dX4_isKnown_27 (by decide) ?_ ?_
          · refine g_aload_n dX4_isKnown_30 rfl rfl ?_
            refine g_getr' (q := (pr0 + 6)) fl_RX4_28 hpr0 (by decide) (qp5 hpr0) dX4_isKnown_31 ?_
            refine g_iload_n dX4_isKnown_34 rfl rfl ?_
            refine g_iald (kp5 hpr0) dX4_isKnown_35 ?_
            intro x1
            refine g_iload_n dX4_isKnown_36 rfl rfl ?_
            refine g_ishr dX4_isKnown_37 ?_
            refine g_iconst dX4_isKnown_38 (by decide) ?_
            refine g_iand dX4_isKnown_39 ?_
            refine g_iconst dX4_isKnown_40 (by decide) ?_
            refine g_icmpne (tgt := 48) dX4_isKnown_41 (by decide) ?_ ?_
            · refine g_iconst dX4_isKnown_44 (by decide) ?_
              refine g_goto (tgt := 49) dX4_isKnown_45 (by decide) ?_
              exact g_zret1 dX4_isKnown_49
            · refine g_iconst dX4_isKnown_48 (by decide) ?_
              exact g_zret0 dX4_isKnown_49
          · refine g_iconst dX4_isKnown_48 (by decide) ?_
            exact g_zret0 dX4_isKnown_49
      · refine g_iconst dX4_isKnown_48 (by decide) ?_
        exact g_zret0 dX4_isKnown_49
    · refine g_iconst dX4_isKnown_48 (by decide) ?_
      exact g_zret0 dX4_isKnown_49
theorem dX4_isWord_0 : decode cX4_isWord 0 = .ok (.iload_n 1, 1) := by decide +kernel
theorem dX4_isWord_1 : decode cX4_isWord 1 = .ok (.ifCond .lt 21, 3) := by decide +kernel
theorem dX4_isWord_4 : decode cX4_isWord 4 = .ok (.iload_n 1, 1) := by decide +kernel
theorem dX4_isWord_5 : decode cX4_isWord 5 = .ok (.aload_n 0, 1) := by decide +kernel
theorem dX4_isWord_6 : decode cX4_isWord 6 = .ok (.getfield 50, 3) := by decide +kernel
theorem dX4_isWord_9 : decode cX4_isWord 9 = .ok (.if_icmp .ge 13, 3) := by decide +kernel
theorem dX4_isWord_12 : decode cX4_isWord 12 = .ok (.iload_n 1, 1) := by decide +kernel
theorem dX4_isWord_13 : decode cX4_isWord 13 = .ok (.bipush 8, 2) := by decide +kernel
theorem dX4_isWord_15 : decode cX4_isWord 15 = .ok (.if_icmp .ge 7, 3) := by decide +kernel
theorem dX4_isWord_18 : decode cX4_isWord 18 = .ok (.iconst 1, 1) := by decide +kernel
theorem dX4_isWord_19 : decode cX4_isWord 19 = .ok (.goto 4, 3) := by decide +kernel
theorem dX4_isWord_22 : decode cX4_isWord 22 = .ok (.iconst 0, 1) := by decide +kernel
theorem dX4_isWord_23 : decode cX4_isWord 23 = .ok (.ireturn, 1) := by decide +kernel
theorem mw_X4_isWord : MW yX4_isWord cX4_isWord 2 3 1 false := ⟨tm 949 (by decide +kernel) rfl, tm 242 (by decide +kernel) rfl, by decide, by decide, (by rw [if_neg (by decide)]; exact ⟨tm 948 (by decide +kernel) rfl, tm 42 (by decide +kernel) rfl⟩)⟩
def Pr_isWord (pr0 : Nat) (a1 : Int) (σ : Sg) : Rs := (if a1 < 0 then (some (0, σ)) else (if a1 < (σ pr0 10) then (if a1 < 8 then (some (1, σ)) else (some (0, σ))) else (some (0, σ))))
theorem ok_Pr_isWord (pr0 : Nat) (a1 : Int) (hpr0 : Kh[pr0]? = some (.inl 4)) (σ : Sg) : MC l Kh Ph yX4_isWord cX4_isWord 2 3 1 [.inr (.inr pr0), .inl a1] σ (Pr_isWord pr0 a1 σ) := by
  refine mc_of (by decide) (Nat.le_of_ble_eq_true rfl) ?_
  change G l Kh Ph RX4 cX4_isWord 2 3 1 0 [some (.inr (.inr pr0)), some (.inl a1)] [] σ (Pr_isWord pr0 a1 σ)
  unfold Pr_isWord
  refine g_iload_n dX4_isWord_0 rfl rfl ?_
  refine g_iflt (tgt := 22) dX4_isWord_1 (by decide) ?_ ?_
  · refine g_iconst dX4_isWord_22 (by decide) ?_
    exact g_zret0 dX4_isWord_23
  · refine g_iload_n dX4_isWord_4 rfl rfl ?_
    refine g_aload_n dX4_isWord_5 rfl rfl ?_
    refine g_geti fl_RX4_50 hpr0 (by decide) dX4_isWord_6 ?_
    refine g_icmpge (tgt := 22) dX4_isWord_9 (by decide) ?_ ?_
    · refine g_iload_n dX4_isWord_12 rfl rfl ?_
      refine g_bipush dX4_isWord_13 (by decide) ?_
      refine g_icmpge (tgt := 22) dX4_isWord_15 (by decide) ?_ ?_
      · refine g_iconst dX4_isWord_18 (by decide) ?_
        refine g_goto (tgt := 23) dX4_isWord_19 (by decide) ?_
        exact g_zret1 dX4_isWord_23
      · refine g_iconst dX4_isWord_22 (by decide) ?_
        exact g_zret0 dX4_isWord_23
    · refine g_iconst dX4_isWord_22 (by decide) ?_
      exact g_zret0 dX4_isWord_23
theorem dX4_startStrand_0 : decode cX4_startStrand 0 = .ok (.aload_n 0, 1) := by decide +kernel
theorem dX4_startStrand_1 : decode cX4_startStrand 1 = .ok (.iload_n 1, 1) := by decide +kernel
theorem dX4_startStrand_2 : decode cX4_startStrand 2 = .ok (.invokevirtual 87, 3) := by decide +kernel
theorem dX4_startStrand_5 : decode cX4_startStrand 5 = .ok (.ifCond .eq 53, 3) := by decide +kernel
theorem dX4_startStrand_8 : decode cX4_startStrand 8 = .ok (.aload_n 0, 1) := by decide +kernel
theorem dX4_startStrand_9 : decode cX4_startStrand 9 = .ok (.iload_n 2, 1) := by decide +kernel
theorem dX4_startStrand_10 : decode cX4_startStrand 10 = .ok (.invokevirtual 80, 3) := by decide +kernel
theorem dX4_startStrand_13 : decode cX4_startStrand 13 = .ok (.ifCond .eq 45, 3) := by decide +kernel
theorem dX4_startStrand_16 : decode cX4_startStrand 16 = .ok (.aload_n 0, 1) := by decide +kernel
theorem dX4_startStrand_17 : decode cX4_startStrand 17 = .ok (.getfield 31, 3) := by decide +kernel
theorem dX4_startStrand_20 : decode cX4_startStrand 20 = .ok (.iload_n 1, 1) := by decide +kernel
theorem dX4_startStrand_21 : decode cX4_startStrand 21 = .ok (.dup2, 1) := by decide +kernel
theorem dX4_startStrand_22 : decode cX4_startStrand 22 = .ok (.iaload, 1) := by decide +kernel
theorem dX4_startStrand_23 : decode cX4_startStrand 23 = .ok (.iconst 1, 1) := by decide +kernel
theorem dX4_startStrand_24 : decode cX4_startStrand 24 = .ok (.iload_n 2, 1) := by decide +kernel
theorem dX4_startStrand_25 : decode cX4_startStrand 25 = .ok (.ishl, 1) := by decide +kernel
theorem dX4_startStrand_26 : decode cX4_startStrand 26 = .ok (.ior, 1) := by decide +kernel
theorem dX4_startStrand_27 : decode cX4_startStrand 27 = .ok (.iastore, 1) := by decide +kernel
theorem dX4_startStrand_28 : decode cX4_startStrand 28 = .ok (.aload_n 0, 1) := by decide +kernel
theorem dX4_startStrand_29 : decode cX4_startStrand 29 = .ok (.getfield 34, 3) := by decide +kernel
theorem dX4_startStrand_32 : decode cX4_startStrand 32 = .ok (.iload_n 1, 1) := by decide +kernel
theorem dX4_startStrand_33 : decode cX4_startStrand 33 = .ok (.bipush 8, 2) := by decide +kernel
theorem dX4_startStrand_35 : decode cX4_startStrand 35 = .ok (.imul, 1) := by decide +kernel
theorem dX4_startStrand_36 : decode cX4_startStrand 36 = .ok (.iload_n 2, 1) := by decide +kernel
theorem dX4_startStrand_37 : decode cX4_startStrand 37 = .ok (.iadd, 1) := by decide +kernel
theorem dX4_startStrand_38 : decode cX4_startStrand 38 = .ok (.aload_n 0, 1) := by decide +kernel
theorem dX4_startStrand_39 : decode cX4_startStrand 39 = .ok (.getfield 62, 3) := by decide +kernel
theorem dX4_startStrand_42 : decode cX4_startStrand 42 = .ok (.iastore, 1) := by decide +kernel
theorem dX4_startStrand_43 : decode cX4_startStrand 43 = .ok (.aload_n 0, 1) := by decide +kernel
theorem dX4_startStrand_44 : decode cX4_startStrand 44 = .ok (.getfield 37, 3) := by decide +kernel
theorem dX4_startStrand_47 : decode cX4_startStrand 47 = .ok (.iload_n 1, 1) := by decide +kernel
theorem dX4_startStrand_48 : decode cX4_startStrand 48 = .ok (.bipush 8, 2) := by decide +kernel
theorem dX4_startStrand_50 : decode cX4_startStrand 50 = .ok (.imul, 1) := by decide +kernel
theorem dX4_startStrand_51 : decode cX4_startStrand 51 = .ok (.iload_n 2, 1) := by decide +kernel
theorem dX4_startStrand_52 : decode cX4_startStrand 52 = .ok (.iadd, 1) := by decide +kernel
theorem dX4_startStrand_53 : decode cX4_startStrand 53 = .ok (.aload_n 0, 1) := by decide +kernel
theorem dX4_startStrand_54 : decode cX4_startStrand 54 = .ok (.getfield 62, 3) := by decide +kernel
theorem dX4_startStrand_57 : decode cX4_startStrand 57 = .ok (.iastore, 1) := by decide +kernel
theorem dX4_startStrand_58 : decode cX4_startStrand 58 = .ok (.return_, 1) := by decide +kernel
theorem mw_X4_startStrand : MW yX4_startStrand cX4_startStrand 3 2 2 false := ⟨tm 1181 (by decide +kernel) rfl, tm 242 (by decide +kernel) rfl, by decide, by decide, (by rw [if_neg (by decide)]; exact ⟨tm 1180 (by decide +kernel) rfl, tm 73 (by decide +kernel) rfl⟩)⟩
theorem lk_RX4_80 : LK RX4 80 yX4_isWord := Or.inl (tm 946 (by decide +kernel) rfl)
def Pr_startStrand (pr0 : Nat) (a1 : Int) (a2 : Int) (σ : Sg) : Rs := (bd (Pr_isPerson pr0 a1 σ) (fun r1 s2 => (if r1 = 0 then (some (0, s2)) else (bd (Pr_isWord pr0 a2 s2) (fun r3 s4 => (if r3 = 0 then (some (0, s4)) else (rd 6 a1 (s4 (pr0 + 7) (Int.toNat a1)) (fun x5 => (wr 6 a1 (up_s s4 (pr0 + 7) (Int.toNat a1) (or32 x5 (sl32 1 a2))) (fun s6 => (wr 48 (w32 ((w32 (a1 * 8)) + a2)) (up_s s6 (pr0 + 8) (Int.toNat (w32 ((w32 (a1 * 8)) + a2))) (s6 pr0 16)) (fun s7 => (wr 48 (w32 ((w32 (a1 * 8)) + a2)) (up_s s7 (pr0 + 9) (Int.toNat (w32 ((w32 (a1 * 8)) + a2))) (s7 pr0 16)) (fun s8 => (some (0, s8))))))))))))))))
theorem ok_Pr_startStrand (pr0 : Nat) (a1 : Int) (a2 : Int) (hpr0 : Kh[pr0]? = some (.inl 4)) (σ : Sg) : MC l Kh Ph yX4_startStrand cX4_startStrand 3 2 2 [.inr (.inr pr0), .inl a1, .inl a2] σ (Pr_startStrand pr0 a1 a2 σ) := by
  refine mc_of (by decide) (Nat.le_of_ble_eq_true rfl) ?_
  change G l Kh Ph RX4 cX4_startStrand 3 2 2 0 [some (.inr (.inr pr0)), some (.inl a1), some (.inl a2)] [] σ (Pr_startStrand pr0 a1 a2 σ)
  unfold Pr_startStrand
  refine g_aload_n dX4_startStrand_0 rfl rfl ?_
  refine g_iload_n dX4_startStrand_1 rfl rfl ?_
  refine g_callv3 (st := []) 4 mw_X4_isPerson lk_RX4_87 rfl hpr0 (ok_Pr_isPerson pr0 a1 hpr0 σ) (Nat.le_of_ble_eq_true rfl) rfl rfl (Nat.le_of_ble_eq_true rfl) dX4_startStrand_2 ?_
  intro r1 s2
  refine g_ifeq (tgt := 58) dX4_startStrand_5 (by decide) ?_ ?_
  · exact g_vret dX4_startStrand_58
  · refine g_aload_n dX4_startStrand_8 rfl rfl ?_
    refine g_iload_n dX4_startStrand_9 rfl rfl ?_
    refine g_callv3 (st := []) 4 mw_X4_isWord lk_RX4_80 rfl hpr0 (ok_Pr_isWord pr0 a2 hpr0 s2) (Nat.le_of_ble_eq_true rfl) rfl rfl (Nat.le_of_ble_eq_true rfl) dX4_startStrand_10 ?_
    intro r3 s4
    refine g_ifeq (tgt := 58) dX4_startStrand_13 (by decide) ?_ ?_
    · exact g_vret dX4_startStrand_58
    · refine g_aload_n dX4_startStrand_16 rfl rfl ?_
      refine g_getr' (q := (pr0 + 7)) fl_RX4_31 hpr0 (by decide) (qp6 hpr0) dX4_startStrand_17 ?_
      refine g_iload_n dX4_startStrand_20 rfl rfl ?_
      refine g_dup2 dX4_startStrand_21 rfl rfl ?_
      refine g_iald (kp6 hpr0) dX4_startStrand_22 ?_
      intro x5
      refine g_iconst dX4_startStrand_23 (by decide) ?_
      refine g_iload_n dX4_startStrand_24 rfl rfl ?_
      refine g_ishl dX4_startStrand_25 ?_
      refine g_ior dX4_startStrand_26 ?_
      refine g_iast (kp6 hpr0) dX4_startStrand_27 ?_
      intro s6
      refine g_aload_n dX4_startStrand_28 rfl rfl ?_
      refine g_getr' (q := (pr0 + 8)) fl_RX4_34 hpr0 (by decide) (qp7 hpr0) dX4_startStrand_29 ?_
      refine g_iload_n dX4_startStrand_32 rfl rfl ?_
      refine g_bipush dX4_startStrand_33 (by decide) ?_
      refine g_imul dX4_startStrand_35 ?_
      refine g_iload_n dX4_startStrand_36 rfl rfl ?_
      refine g_iadd dX4_startStrand_37 ?_
      refine g_aload_n dX4_startStrand_38 rfl rfl ?_
      refine g_geti fl_RX4_62 hpr0 (by decide) dX4_startStrand_39 ?_
      refine g_iast (kp7 hpr0) dX4_startStrand_42 ?_
      intro s7
      refine g_aload_n dX4_startStrand_43 rfl rfl ?_
      refine g_getr' (q := (pr0 + 9)) fl_RX4_37 hpr0 (by decide) (qp8 hpr0) dX4_startStrand_44 ?_
      refine g_iload_n dX4_startStrand_47 rfl rfl ?_
      refine g_bipush dX4_startStrand_48 (by decide) ?_
      refine g_imul dX4_startStrand_50 ?_
      refine g_iload_n dX4_startStrand_51 rfl rfl ?_
      refine g_iadd dX4_startStrand_52 ?_
      refine g_aload_n dX4_startStrand_53 rfl rfl ?_
      refine g_geti fl_RX4_62 hpr0 (by decide) dX4_startStrand_54 ?_
      refine g_iast (kp8 hpr0) dX4_startStrand_57 ?_
      intro s8
      exact g_vret dX4_startStrand_58
theorem dX4_strandLength_0 : decode cX4_strandLength 0 = .ok (.iload_n 1, 1) := by decide +kernel
theorem dX4_strandLength_1 : decode cX4_strandLength 1 = .ok (.bipush 8, 2) := by decide +kernel
theorem dX4_strandLength_3 : decode cX4_strandLength 3 = .ok (.imul, 1) := by decide +kernel
theorem dX4_strandLength_4 : decode cX4_strandLength 4 = .ok (.iload_n 2, 1) := by decide +kernel
theorem dX4_strandLength_5 : decode cX4_strandLength 5 = .ok (.iadd, 1) := by decide +kernel
theorem dX4_strandLength_6 : decode cX4_strandLength 6 = .ok (.istore_n 3, 1) := by decide +kernel
theorem dX4_strandLength_7 : decode cX4_strandLength 7 = .ok (.aload_n 0, 1) := by decide +kernel
theorem dX4_strandLength_8 : decode cX4_strandLength 8 = .ok (.iload_n 1, 1) := by decide +kernel
theorem dX4_strandLength_9 : decode cX4_strandLength 9 = .ok (.iload_n 2, 1) := by decide +kernel
theorem dX4_strandLength_10 : decode cX4_strandLength 10 = .ok (.invokevirtual 90, 3) := by decide +kernel
theorem dX4_strandLength_13 : decode cX4_strandLength 13 = .ok (.ifCond .eq 27, 3) := by decide +kernel
theorem dX4_strandLength_16 : decode cX4_strandLength 16 = .ok (.aload_n 0, 1) := by decide +kernel
theorem dX4_strandLength_17 : decode cX4_strandLength 17 = .ok (.aload_n 0, 1) := by decide +kernel
theorem dX4_strandLength_18 : decode cX4_strandLength 18 = .ok (.getfield 62, 3) := by decide +kernel
theorem dX4_strandLength_21 : decode cX4_strandLength 21 = .ok (.iload_n 2, 1) := by decide +kernel
theorem dX4_strandLength_22 : decode cX4_strandLength 22 = .ok (.aload_n 0, 1) := by decide +kernel
theorem dX4_strandLength_23 : decode cX4_strandLength 23 = .ok (.getfield 34, 3) := by decide +kernel
theorem dX4_strandLength_26 : decode cX4_strandLength 26 = .ok (.iload_n 3, 1) := by decide +kernel
theorem dX4_strandLength_27 : decode cX4_strandLength 27 = .ok (.iaload, 1) := by decide +kernel
theorem dX4_strandLength_28 : decode cX4_strandLength 28 = .ok (.aload_n 0, 1) := by decide +kernel
theorem dX4_strandLength_29 : decode cX4_strandLength 29 = .ok (.getfield 37, 3) := by decide +kernel
theorem dX4_strandLength_32 : decode cX4_strandLength 32 = .ok (.iload_n 3, 1) := by decide +kernel
theorem dX4_strandLength_33 : decode cX4_strandLength 33 = .ok (.iaload, 1) := by decide +kernel
theorem dX4_strandLength_34 : decode cX4_strandLength 34 = .ok (.invokevirtual 94, 3) := by decide +kernel
theorem dX4_strandLength_37 : decode cX4_strandLength 37 = .ok (.goto 4, 3) := by decide +kernel
theorem dX4_strandLength_40 : decode cX4_strandLength 40 = .ok (.iconst 0, 1) := by decide +kernel
theorem dX4_strandLength_41 : decode cX4_strandLength 41 = .ok (.ireturn, 1) := by decide +kernel
theorem mw_X4_strandLength : MW yX4_strandLength cX4_strandLength 4 0 2 false := ⟨tm 1107 (by decide +kernel) rfl, tm 242 (by decide +kernel) rfl, by decide, by decide, (by rw [if_neg (by decide)]; exact ⟨tm 1106 (by decide +kernel) rfl, tm 62 (by decide +kernel) rfl⟩)⟩
def Pr_strandLength (pr0 : Nat) (a1 : Int) (a2 : Int) (σ : Sg) : Rs := (nm (w32 ((w32 (a1 * 8)) + a2)) (fun x1 => (bd (Pr_isKept pr0 a1 a2 σ) (fun r2 s3 => (if r2 = 0 then (some (0, s3)) else (rd 48 x1 (s3 (pr0 + 8) (Int.toNat x1)) (fun x4 => (rd 48 x1 (s3 (pr0 + 9) (Int.toNat x1)) (fun x5 => (bd (Pr_lengthOn pr0 (s3 pr0 16) a2 x4 x5 s3) (fun r6 s7 => (some (r6, s7)))))))))))))
theorem ok_Pr_strandLength (pr0 : Nat) (a1 : Int) (a2 : Int) (hpr0 : Kh[pr0]? = some (.inl 4)) (σ : Sg) : MC l Kh Ph yX4_strandLength cX4_strandLength 4 0 2 [.inr (.inr pr0), .inl a1, .inl a2] σ (Pr_strandLength pr0 a1 a2 σ) := by
  refine mc_of (by decide) (Nat.le_of_ble_eq_true rfl) ?_
  change G l Kh Ph RX4 cX4_strandLength 4 0 2 0 [some (.inr (.inr pr0)), some (.inl a1), some (.inl a2), none] [] σ (Pr_strandLength pr0 a1 a2 σ)
  unfold Pr_strandLength
  refine g_iload_n dX4_strandLength_0 rfl rfl ?_
  refine g_bipush dX4_strandLength_1 (by decide) ?_
  refine g_imul dX4_strandLength_3 ?_
  refine g_iload_n dX4_strandLength_4 rfl rfl ?_
  refine g_iadd dX4_strandLength_5 ?_
  refine n_istore_n (fun x1 => [some (.inr (.inr pr0)), some (.inl a1), some (.inl a2), some (.inl x1)]) dX4_strandLength_6 rfl (Nat.le_of_ble_eq_true rfl) (fun _ => rfl) ?_
  intro x1
  refine g_aload_n dX4_strandLength_7 rfl rfl ?_
  refine g_iload_n dX4_strandLength_8 rfl rfl ?_
  refine g_iload_n dX4_strandLength_9 rfl rfl ?_
  refine g_callv3 (st := []) 4 mw_X4_isKept lk_RX4_90 rfl hpr0 (ok_Pr_isKept pr0 a1 a2 hpr0 σ) (Nat.le_of_ble_eq_true rfl) rfl rfl (Nat.le_of_ble_eq_true rfl) dX4_strandLength_10 ?_
  intro r2 s3
  refine g_ifeq (tgt := 40) dX4_strandLength_13 (by decide) ?_ ?_
  · refine g_iconst dX4_strandLength_40 (by decide) ?_
    exact g_iret dX4_strandLength_41
  · refine g_aload_n dX4_strandLength_16 rfl rfl ?_
    refine g_aload_n dX4_strandLength_17 rfl rfl ?_
    refine g_geti fl_RX4_62 hpr0 (by decide) dX4_strandLength_18 ?_
    refine g_iload_n dX4_strandLength_21 rfl rfl ?_
    refine g_aload_n dX4_strandLength_22 rfl rfl ?_
    refine g_getr' (q := (pr0 + 8)) fl_RX4_34 hpr0 (by decide) (qp7 hpr0) dX4_strandLength_23 ?_
    refine g_iload_n dX4_strandLength_26 rfl rfl ?_
    refine g_iald (kp7 hpr0) dX4_strandLength_27 ?_
    intro x4
    refine g_aload_n dX4_strandLength_28 rfl rfl ?_
    refine g_getr' (q := (pr0 + 9)) fl_RX4_37 hpr0 (by decide) (qp8 hpr0) dX4_strandLength_29 ?_
    refine g_iload_n dX4_strandLength_32 rfl rfl ?_
    refine g_iald (kp8 hpr0) dX4_strandLength_33 ?_
    intro x5
    refine g_callv0 (st := []) 4 mw_X4_lengthOn lk_RX4_94 rfl hpr0 (ok_Pr_lengthOn pr0 (s3 pr0 16) a2 x4 x5 hpr0 s3) (Nat.le_of_ble_eq_true rfl) rfl rfl (Nat.le_of_ble_eq_true rfl) dX4_strandLength_34 ?_
    intro r6 s7
    refine g_goto (tgt := 41) dX4_strandLength_37 (by decide) ?_
    exact g_iret dX4_strandLength_41
theorem dX4_trim_0 : decode cX4_trim 0 = .ok (.aload_n 0, 1) := by decide +kernel
theorem dX4_trim_1 : decode cX4_trim 1 = .ok (.iload_n 1, 1) := by decide +kernel
theorem dX4_trim_2 : decode cX4_trim 2 = .ok (.invokevirtual 87, 3) := by decide +kernel
theorem dX4_trim_5 : decode cX4_trim 5 = .ok (.ifCond .eq 11, 3) := by decide +kernel
theorem dX4_trim_8 : decode cX4_trim 8 = .ok (.aload_n 0, 1) := by decide +kernel
theorem dX4_trim_9 : decode cX4_trim 9 = .ok (.iload_n 2, 1) := by decide +kernel
theorem dX4_trim_10 : decode cX4_trim 10 = .ok (.invokevirtual 87, 3) := by decide +kernel
theorem dX4_trim_13 : decode cX4_trim 13 = .ok (.ifCond .ne 5, 3) := by decide +kernel
theorem dX4_trim_16 : decode cX4_trim 16 = .ok (.iconst 0, 1) := by decide +kernel
theorem dX4_trim_17 : decode cX4_trim 17 = .ok (.ireturn, 1) := by decide +kernel
theorem dX4_trim_18 : decode cX4_trim 18 = .ok (.iconst 0, 1) := by decide +kernel
theorem dX4_trim_19 : decode cX4_trim 19 = .ok (.istore_n 3, 1) := by decide +kernel
theorem dX4_trim_20 : decode cX4_trim 20 = .ok (.iconst 0, 1) := by decide +kernel
theorem dX4_trim_21 : decode cX4_trim 21 = .ok (.istore 4, 2) := by decide +kernel
theorem dX4_trim_23 : decode cX4_trim 23 = .ok (.iload 4, 2) := by decide +kernel
theorem dX4_trim_25 : decode cX4_trim 25 = .ok (.aload_n 0, 1) := by decide +kernel
theorem dX4_trim_26 : decode cX4_trim 26 = .ok (.getfield 50, 3) := by decide +kernel
theorem dX4_trim_29 : decode cX4_trim 29 = .ok (.if_icmp .ge 93, 3) := by decide +kernel
theorem dX4_trim_32 : decode cX4_trim 32 = .ok (.iload 4, 2) := by decide +kernel
theorem dX4_trim_34 : decode cX4_trim 34 = .ok (.bipush 8, 2) := by decide +kernel
theorem dX4_trim_36 : decode cX4_trim 36 = .ok (.if_icmp .ge 86, 3) := by decide +kernel
theorem dX4_trim_39 : decode cX4_trim 39 = .ok (.aload_n 0, 1) := by decide +kernel
theorem dX4_trim_40 : decode cX4_trim 40 = .ok (.iload_n 1, 1) := by decide +kernel
theorem dX4_trim_41 : decode cX4_trim 41 = .ok (.iload 4, 2) := by decide +kernel
theorem dX4_trim_43 : decode cX4_trim 43 = .ok (.invokevirtual 90, 3) := by decide +kernel
theorem dX4_trim_46 : decode cX4_trim 46 = .ok (.ifCond .eq 70, 3) := by decide +kernel
theorem dX4_trim_49 : decode cX4_trim 49 = .ok (.aload_n 0, 1) := by decide +kernel
theorem dX4_trim_50 : decode cX4_trim 50 = .ok (.iload_n 1, 1) := by decide +kernel
theorem dX4_trim_51 : decode cX4_trim 51 = .ok (.iload 4, 2) := by decide +kernel
theorem dX4_trim_53 : decode cX4_trim 53 = .ok (.invokevirtual 121, 3) := by decide +kernel
theorem dX4_trim_56 : decode cX4_trim 56 = .ok (.aload_n 0, 1) := by decide +kernel
theorem dX4_trim_57 : decode cX4_trim 57 = .ok (.getfield 43, 3) := by decide +kernel
theorem dX4_trim_60 : decode cX4_trim 60 = .ok (.if_icmp .lt 40, 3) := by decide +kernel
theorem dX4_trim_63 : decode cX4_trim 63 = .ok (.aload_n 0, 1) := by decide +kernel
theorem dX4_trim_64 : decode cX4_trim 64 = .ok (.iload_n 2, 1) := by decide +kernel
theorem dX4_trim_65 : decode cX4_trim 65 = .ok (.iload 4, 2) := by decide +kernel
theorem dX4_trim_67 : decode cX4_trim 67 = .ok (.invokevirtual 115, 3) := by decide +kernel
theorem dX4_trim_70 : decode cX4_trim 70 = .ok (.ifCond .ne 30, 3) := by decide +kernel
theorem dX4_trim_73 : decode cX4_trim 73 = .ok (.iload_n 3, 1) := by decide +kernel
theorem dX4_trim_74 : decode cX4_trim 74 = .ok (.iconst 1, 1) := by decide +kernel
theorem dX4_trim_75 : decode cX4_trim 75 = .ok (.iload 4, 2) := by decide +kernel
theorem dX4_trim_77 : decode cX4_trim 77 = .ok (.ishl, 1) := by decide +kernel
theorem dX4_trim_78 : decode cX4_trim 78 = .ok (.ior, 1) := by decide +kernel
theorem dX4_trim_79 : decode cX4_trim 79 = .ok (.istore_n 3, 1) := by decide +kernel
theorem dX4_trim_80 : decode cX4_trim 80 = .ok (.aload_n 0, 1) := by decide +kernel
theorem dX4_trim_81 : decode cX4_trim 81 = .ok (.getfield 28, 3) := by decide +kernel
theorem dX4_trim_84 : decode cX4_trim 84 = .ok (.iload_n 2, 1) := by decide +kernel
theorem dX4_trim_85 : decode cX4_trim 85 = .ok (.dup2, 1) := by decide +kernel
theorem dX4_trim_86 : decode cX4_trim 86 = .ok (.iaload, 1) := by decide +kernel
theorem dX4_trim_87 : decode cX4_trim 87 = .ok (.iconst 1, 1) := by decide +kernel
theorem dX4_trim_88 : decode cX4_trim 88 = .ok (.iload 4, 2) := by decide +kernel
theorem dX4_trim_90 : decode cX4_trim 90 = .ok (.ishl, 1) := by decide +kernel
theorem dX4_trim_91 : decode cX4_trim 91 = .ok (.ior, 1) := by decide +kernel
theorem dX4_trim_92 : decode cX4_trim 92 = .ok (.iastore, 1) := by decide +kernel
theorem dX4_trim_93 : decode cX4_trim 93 = .ok (.aload_n 0, 1) := by decide +kernel
theorem dX4_trim_94 : decode cX4_trim 94 = .ok (.iload_n 2, 1) := by decide +kernel
theorem dX4_trim_95 : decode cX4_trim 95 = .ok (.iload 4, 2) := by decide +kernel
theorem dX4_trim_97 : decode cX4_trim 97 = .ok (.invokevirtual 124, 3) := by decide +kernel
theorem dX4_trim_100 : decode cX4_trim 100 = .ok (.aload_n 0, 1) := by decide +kernel
theorem dX4_trim_101 : decode cX4_trim 101 = .ok (.getfield 37, 3) := by decide +kernel
theorem dX4_trim_104 : decode cX4_trim 104 = .ok (.iload_n 1, 1) := by decide +kernel
theorem dX4_trim_105 : decode cX4_trim 105 = .ok (.bipush 8, 2) := by decide +kernel
theorem dX4_trim_107 : decode cX4_trim 107 = .ok (.imul, 1) := by decide +kernel
theorem dX4_trim_108 : decode cX4_trim 108 = .ok (.iload 4, 2) := by decide +kernel
theorem dX4_trim_110 : decode cX4_trim 110 = .ok (.iadd, 1) := by decide +kernel
theorem dX4_trim_111 : decode cX4_trim 111 = .ok (.aload_n 0, 1) := by decide +kernel
theorem dX4_trim_112 : decode cX4_trim 112 = .ok (.getfield 62, 3) := by decide +kernel
theorem dX4_trim_115 : decode cX4_trim 115 = .ok (.iastore, 1) := by decide +kernel
theorem dX4_trim_116 : decode cX4_trim 116 = .ok (.iinc 4 1, 3) := by decide +kernel
theorem dX4_trim_119 : decode cX4_trim 119 = .ok (.goto (-96), 3) := by decide +kernel
theorem dX4_trim_122 : decode cX4_trim 122 = .ok (.aload_n 0, 1) := by decide +kernel
theorem dX4_trim_123 : decode cX4_trim 123 = .ok (.dup, 1) := by decide +kernel
theorem dX4_trim_124 : decode cX4_trim 124 = .ok (.getfield 71, 3) := by decide +kernel
theorem dX4_trim_127 : decode cX4_trim 127 = .ok (.iconst 1, 1) := by decide +kernel
theorem dX4_trim_128 : decode cX4_trim 128 = .ok (.iadd, 1) := by decide +kernel
theorem dX4_trim_129 : decode cX4_trim 129 = .ok (.putfield 71, 3) := by decide +kernel
theorem dX4_trim_132 : decode cX4_trim 132 = .ok (.iload_n 3, 1) := by decide +kernel
theorem dX4_trim_133 : decode cX4_trim 133 = .ok (.ireturn, 1) := by decide +kernel
theorem mw_X4_trim : MW yX4_trim cX4_trim 5 0 2 false := ⟨tm 1205 (by decide +kernel) rfl, tm 242 (by decide +kernel) rfl, by decide, by decide, (by rw [if_neg (by decide)]; exact ⟨tm 1204 (by decide +kernel) rfl, tm 75 (by decide +kernel) rfl⟩)⟩
theorem lk_RX4_115 : LK RX4 115 yX4_isKnown := Or.inl (tm 1165 (by decide +kernel) rfl)
theorem lk_RX4_121 : LK RX4 121 yX4_strandLength := Or.inl (tm 1206 (by decide +kernel) rfl)
theorem lk_RX4_124 : LK RX4 124 yX4_startStrand := Or.inl (tm 1207 (by decide +kernel) rfl)
def Pr_trim_L23 (pr0 : Nat) (a1 : Int) (a2 : Int) : Nat → Int → Int → Sg → Rs
  | 0, _, _, _ => none
  | n + 1, v3, v4, σ => (if v4 < (σ pr0 10) then (if v4 < 8 then (bd (Pr_isKept pr0 a1 v4 σ) (fun r5 s6 => (if r5 = 0 then (nm (w32 (v4 + 1)) (fun x7 => (Pr_trim_L23 pr0 a1 a2 n v3 x7 s6))) else (bd (Pr_strandLength pr0 a1 v4 s6) (fun r8 s9 => (if r8 < (s9 pr0 14) then (wr 48 (w32 ((w32 (a1 * 8)) + v4)) (up_s s9 (pr0 + 9) (Int.toNat (w32 ((w32 (a1 * 8)) + v4))) (s9 pr0 16)) (fun s10 => (nm (w32 (v4 + 1)) (fun x11 => (Pr_trim_L23 pr0 a1 a2 n v3 x11 s10))))) else (bd (Pr_isKnown pr0 a2 v4 s9) (fun r12 s13 => (if r12 = 0 then (nm (or32 v3 (sl32 1 v4)) (fun x14 => (rd 6 a2 (s13 (pr0 + 6) (Int.toNat a2)) (fun x15 => (wr 6 a2 (up_s s13 (pr0 + 6) (Int.toNat a2) (or32 x15 (sl32 1 v4))) (fun s16 => (bd (Pr_startStrand pr0 a2 v4 s16) (fun r17 s18 => (wr 48 (w32 ((w32 (a1 * 8)) + v4)) (up_s s18 (pr0 + 9) (Int.toNat (w32 ((w32 (a1 * 8)) + v4))) (s18 pr0 16)) (fun s19 => (nm (w32 (v4 + 1)) (fun x20 => (Pr_trim_L23 pr0 a1 a2 n x14 x20 s19))))))))))))) else (wr 48 (w32 ((w32 (a1 * 8)) + v4)) (up_s s13 (pr0 + 9) (Int.toNat (w32 ((w32 (a1 * 8)) + v4))) (s13 pr0 16)) (fun s21 => (nm (w32 (v4 + 1)) (fun x22 => (Pr_trim_L23 pr0 a1 a2 n v3 x22 s21)))))))))))))) else (nm (up_s σ pr0 19 (w32 ((σ pr0 19) + 1))) (fun s23 => (some (v3, s23))))) else (nm (up_s σ pr0 19 (w32 ((σ pr0 19) + 1))) (fun s24 => (some (v3, s24)))))
theorem ok_Pr_trim_L23 (pr0 : Nat) (a1 : Int) (a2 : Int) (hpr0 : Kh[pr0]? = some (.inl 4)) : ∀ (n : Nat) (v3 v4 : Int) (σ : Sg), G l Kh Ph RX4 cX4_trim 5 0 3 23 [some (.inr (.inr pr0)), some (.inl a1), some (.inl a2), some (.inl v3), some (.inl v4)] [] σ (Pr_trim_L23 pr0 a1 a2 n v3 v4 σ) := by
  intro n
  induction n with
  | zero => intros; exact G.none_
  | succ n ih =>
    intro v3 v4 σ
    rw [Pr_trim_L23]
    refine g_iload dX4_trim_23 rfl ?_
    refine g_aload_n dX4_trim_25 rfl rfl ?_
    refine g_geti fl_RX4_50 hpr0 (by decide) dX4_trim_26 ?_
    refine g_icmpge (tgt := 122) dX4_trim_29 (by decide) ?_ ?_
    · refine g_iload dX4_trim_32 rfl ?_
      refine g_bipush dX4_trim_34 (by decide) ?_
      refine g_icmpge (tgt := 122) dX4_trim_36 (by decide) ?_ ?_
      · refine g_aload_n dX4_trim_39 rfl rfl ?_
        refine g_iload_n dX4_trim_40 rfl rfl ?_
        refine g_iload dX4_trim_41 rfl ?_
        refine g_callv3 (st := []) 4 mw_X4_isKept lk_RX4_90 rfl hpr0 (ok_Pr_isKept pr0 a1 v4 hpr0 σ) (Nat.le_of_ble_eq_true rfl) rfl rfl (Nat.le_of_ble_eq_true rfl) dX4_trim_43 ?_
        intro r5 s6
        refine g_ifeq (tgt := 116) dX4_trim_46 (by decide) ?_ ?_
        · refine n_iinc (fun x7 => [some (.inr (.inr pr0)), some (.inl a1), some (.inl a2), some (.inl v3), some (.inl x7)]) dX4_trim_116 rfl (Nat.le_of_ble_eq_true rfl) (fun _ => rfl) ?_
          intro x7
          refine g_goto (tgt := 23) dX4_trim_119 (by decide) ?_
          exact (ih v3 x7 s6)
        · refine g_aload_n dX4_trim_49 rfl rfl ?_
          refine g_iload_n dX4_trim_50 rfl rfl ?_
          refine g_iload dX4_trim_51 rfl ?_
          refine g_callv0 (st := []) 4 mw_X4_strandLength lk_RX4_121 rfl hpr0 (ok_Pr_strandLength pr0 a1 v4 hpr0 s6) (Nat.le_of_ble_eq_true rfl) rfl rfl (Nat.le_of_ble_eq_true rfl) dX4_trim_53 ?_
          intro r8 s9
          refine g_aload_n dX4_trim_56 rfl rfl ?_
          refine g_geti fl_RX4_43 hpr0 (by decide) dX4_trim_57 ?_
          refine g_icmplt (tgt := 100) dX4_trim_60 (by decide) ?_ ?_
          · refine g_aload_n dX4_trim_100 rfl rfl ?_
            refine g_getr' (q := (pr0 + 9)) fl_RX4_37 hpr0 (by decide) (qp8 hpr0) dX4_trim_101 ?_
            refine g_iload_n dX4_trim_104 rfl rfl ?_
            refine g_bipush dX4_trim_105 (by decide) ?_
            refine g_imul dX4_trim_107 ?_
            refine g_iload dX4_trim_108 rfl ?_
            refine g_iadd dX4_trim_110 ?_
            refine g_aload_n dX4_trim_111 rfl rfl ?_
            refine g_geti fl_RX4_62 hpr0 (by decide) dX4_trim_112 ?_
            refine g_iast (kp8 hpr0) dX4_trim_115 ?_
            intro s10
            refine n_iinc (fun x11 => [some (.inr (.inr pr0)), some (.inl a1), some (.inl a2), some (.inl v3), some (.inl x11)]) dX4_trim_116 rfl (Nat.le_of_ble_eq_true rfl) (fun _ => rfl) ?_
            intro x11
            refine g_goto (tgt := 23) dX4_trim_119 (by decide) ?_
            exact (ih v3 x11 s10)
          · refine g_aload_n dX4_trim_63 rfl rfl ?_
            refine g_iload_n dX4_trim_64 rfl rfl ?_
            refine g_iload dX4_trim_65 rfl ?_
            refine g_callv3 (st := []) 4 mw_X4_isKnown lk_RX4_115 rfl hpr0 (ok_Pr_isKnown pr0 a2 v4 hpr0 s9) (Nat.le_of_ble_eq_true rfl) rfl rfl (Nat.le_of_ble_eq_true rfl) dX4_trim_67 ?_
            intro r12 s13
            refine g_ifne (tgt := 100) dX4_trim_70 (by decide) ?_ ?_
            · refine g_iload_n dX4_trim_73 rfl rfl ?_
              refine g_iconst dX4_trim_74 (by decide) ?_
              refine g_iload dX4_trim_75 rfl ?_
              refine g_ishl dX4_trim_77 ?_
              refine g_ior dX4_trim_78 ?_
              refine n_istore_n (fun x14 => [some (.inr (.inr pr0)), some (.inl a1), some (.inl a2), some (.inl x14), some (.inl v4)]) dX4_trim_79 rfl (Nat.le_of_ble_eq_true rfl) (fun _ => rfl) ?_
              intro x14
              refine g_aload_n dX4_trim_80 rfl rfl ?_
              refine g_getr' (q := (pr0 + 6)) fl_RX4_28 hpr0 (by decide) (qp5 hpr0) dX4_trim_81 ?_
              refine g_iload_n dX4_trim_84 rfl rfl ?_
              refine g_dup2 dX4_trim_85 rfl rfl ?_
              refine g_iald (kp5 hpr0) dX4_trim_86 ?_
              intro x15
              refine g_iconst dX4_trim_87 (by decide) ?_
              refine g_iload dX4_trim_88 rfl ?_
              refine g_ishl dX4_trim_90 ?_
              refine g_ior dX4_trim_91 ?_
              refine g_iast (kp5 hpr0) dX4_trim_92 ?_
              intro s16
              refine g_aload_n dX4_trim_93 rfl rfl ?_
              refine g_iload_n dX4_trim_94 rfl rfl ?_
              refine g_iload dX4_trim_95 rfl ?_
              refine g_callv2 (st := []) 4 mw_X4_startStrand lk_RX4_124 rfl hpr0 (ok_Pr_startStrand pr0 a2 v4 hpr0 s16) (Nat.le_of_ble_eq_true rfl) rfl rfl (Nat.le_of_ble_eq_true rfl) dX4_trim_97 ?_
              intro r17 s18
              refine g_aload_n dX4_trim_100 rfl rfl ?_
              refine g_getr' (q := (pr0 + 9)) fl_RX4_37 hpr0 (by decide) (qp8 hpr0) dX4_trim_101 ?_
              refine g_iload_n dX4_trim_104 rfl rfl ?_
              refine g_bipush dX4_trim_105 (by decide) ?_
              refine g_imul dX4_trim_107 ?_
              refine g_iload dX4_trim_108 rfl ?_
              refine g_iadd dX4_trim_110 ?_
              refine g_aload_n dX4_trim_111 rfl rfl ?_
              refine g_geti fl_RX4_62 hpr0 (by decide) dX4_trim_112 ?_
              refine g_iast (kp8 hpr0) dX4_trim_115 ?_
              intro s19
              refine n_iinc (fun x20 => [some (.inr (.inr pr0)), some (.inl a1), some (.inl a2), some (.inl x14), some (.inl x20)]) dX4_trim_116 rfl (Nat.le_of_ble_eq_true rfl) (fun _ => rfl) ?_
              intro x20
              refine g_goto (tgt := 23) dX4_trim_119 (by decide) ?_
              exact (ih x14 x20 s19)
            · refine g_aload_n dX4_trim_100 rfl rfl ?_
              refine g_getr' (q := (pr0 + 9)) fl_RX4_37 hpr0 (by decide) (qp8 hpr0) dX4_trim_101 ?_
              refine g_iload_n dX4_trim_104 rfl rfl ?_
              refine g_bipush dX4_trim_105 (by decide) ?_
              refine g_imul dX4_trim_107 ?_
              refine g_iload dX4_trim_108 rfl ?_
              refine g_iadd dX4_trim_110 ?_
              refine g_aload_n dX4_trim_111 rfl rfl ?_
              refine g_geti fl_RX4_62 hpr0 (by decide) dX4_trim_112 ?_
              refine g_iast (kp8 hpr0) dX4_trim_115 ?_
              intro s21
              refine n_iinc (fun x22 => [some (.inr (.inr pr0)), some (.inl a1), some (.inl a2), some (.inl v3), some (.inl x22)]) dX4_trim_116 rfl (Nat.le_of_ble_eq_true rfl) (fun _ => rfl) ?_
              intro x22
              refine g_goto (tgt := 23) dX4_trim_119 (by decide) ?_
              exact (ih v3 x22 s21)
      · refine g_aload_n dX4_trim_122 rfl rfl ?_
        refine g_dup dX4_trim_123 rfl ?_
        refine g_geti fl_RX4_71 hpr0 (by decide) dX4_trim_124 ?_
        refine g_iconst dX4_trim_127 (by decide) ?_
        refine g_iadd dX4_trim_128 ?_
        refine g_puti fl_RX4_71 hpr0 (by decide) dX4_trim_129 ?_
        intro s23
        refine g_iload_n dX4_trim_132 rfl rfl ?_
        exact g_iret dX4_trim_133
    · refine g_aload_n dX4_trim_122 rfl rfl ?_
      refine g_dup dX4_trim_123 rfl ?_
      refine g_geti fl_RX4_71 hpr0 (by decide) dX4_trim_124 ?_
      refine g_iconst dX4_trim_127 (by decide) ?_
      refine g_iadd dX4_trim_128 ?_
      refine g_puti fl_RX4_71 hpr0 (by decide) dX4_trim_129 ?_
      intro s24
      refine g_iload_n dX4_trim_132 rfl rfl ?_
      exact g_iret dX4_trim_133
def Pr_trim (pr0 : Nat) (a1 : Int) (a2 : Int) (σ : Sg) : Rs := (bd (Pr_isPerson pr0 a1 σ) (fun r1 s2 => (if r1 = 0 then (some (0, s2)) else (bd (Pr_isPerson pr0 a2 s2) (fun r3 s4 => (if r3 = 0 then (some (0, s4)) else (Pr_trim_L23 pr0 a1 a2 fu 0 0 s4)))))))
theorem ok_Pr_trim (pr0 : Nat) (a1 : Int) (a2 : Int) (hpr0 : Kh[pr0]? = some (.inl 4)) (σ : Sg) : MC l Kh Ph yX4_trim cX4_trim 5 0 3 [.inr (.inr pr0), .inl a1, .inl a2] σ (Pr_trim pr0 a1 a2 σ) := by
  refine mc_of (by decide) (Nat.le_of_ble_eq_true rfl) ?_
  change G l Kh Ph RX4 cX4_trim 5 0 3 0 [some (.inr (.inr pr0)), some (.inl a1), some (.inl a2), none, none] [] σ (Pr_trim pr0 a1 a2 σ)
  unfold Pr_trim
  refine g_aload_n dX4_trim_0 rfl rfl ?_
  refine g_iload_n dX4_trim_1 rfl rfl ?_
  refine g_callv3 (st := []) 4 mw_X4_isPerson lk_RX4_87 rfl hpr0 (ok_Pr_isPerson pr0 a1 hpr0 σ) (Nat.le_of_ble_eq_true rfl) rfl rfl (Nat.le_of_ble_eq_true rfl) dX4_trim_2 ?_
  intro r1 s2
  refine g_ifeq (tgt := 16) dX4_trim_5 (by decide) ?_ ?_
  · refine g_iconst dX4_trim_16 (by decide) ?_
    exact g_iret dX4_trim_17
  · refine g_aload_n dX4_trim_8 rfl rfl ?_
    refine g_iload_n dX4_trim_9 rfl rfl ?_
    refine g_callv3 (st := []) 4 mw_X4_isPerson lk_RX4_87 rfl hpr0 (ok_Pr_isPerson pr0 a2 hpr0 s2) (Nat.le_of_ble_eq_true rfl) rfl rfl (Nat.le_of_ble_eq_true rfl) dX4_trim_10 ?_
    intro r3 s4
    refine g_ifne (tgt := 18) dX4_trim_13 (by decide) ?_ ?_
    · refine g_iconst dX4_trim_16 (by decide) ?_
      exact g_iret dX4_trim_17
    · refine g_iconst dX4_trim_18 (by decide) ?_
      refine g_istore_n (lv' := [some (.inr (.inr pr0)), some (.inl a1), some (.inl a2), some (.inl 0), none]) dX4_trim_19 rfl (Nat.le_of_ble_eq_true rfl) rfl ?_
      refine g_iconst dX4_trim_20 (by decide) ?_
      refine g_istore (lv' := [some (.inr (.inr pr0)), some (.inl a1), some (.inl a2), some (.inl 0), some (.inl 0)]) dX4_trim_21 (Nat.le_of_ble_eq_true rfl) rfl ?_
      refine (ok_Pr_trim_L23 pr0 a1 a2 hpr0 fu 0 0 s4)
theorem dX11_cut_0 : decode cX11_cut 0 = .ok (.aload_n 0, 1) := by decide +kernel
theorem dX11_cut_1 : decode cX11_cut 1 = .ok (.getfield 43, 3) := by decide +kernel
theorem dX11_cut_4 : decode cX11_cut 4 = .ok (.iload_n 1, 1) := by decide +kernel
theorem dX11_cut_5 : decode cX11_cut 5 = .ok (.invokevirtual 266, 3) := by decide +kernel
theorem dX11_cut_8 : decode cX11_cut 8 = .ok (.ifCond .eq 14, 3) := by decide +kernel
theorem dX11_cut_11 : decode cX11_cut 11 = .ok (.aload_n 0, 1) := by decide +kernel
theorem dX11_cut_12 : decode cX11_cut 12 = .ok (.getfield 43, 3) := by decide +kernel
theorem dX11_cut_15 : decode cX11_cut 15 = .ok (.iload_n 2, 1) := by decide +kernel
theorem dX11_cut_16 : decode cX11_cut 16 = .ok (.invokevirtual 266, 3) := by decide +kernel
theorem dX11_cut_19 : decode cX11_cut 19 = .ok (.ifCond .ne 9, 3) := by decide +kernel
theorem dX11_cut_22 : decode cX11_cut 22 = .ok (.aload_n 0, 1) := by decide +kernel
theorem dX11_cut_23 : decode cX11_cut 23 = .ok (.iconst 2, 1) := by decide +kernel
theorem dX11_cut_24 : decode cX11_cut 24 = .ok (.invokevirtual 147, 3) := by decide +kernel
theorem dX11_cut_27 : decode cX11_cut 27 = .ok (.ireturn, 1) := by decide +kernel
theorem dX11_cut_28 : decode cX11_cut 28 = .ok (.aload_n 0, 1) := by decide +kernel
theorem dX11_cut_29 : decode cX11_cut 29 = .ok (.getfield 43, 3) := by decide +kernel
theorem dX11_cut_32 : decode cX11_cut 32 = .ok (.iload_n 1, 1) := by decide +kernel
theorem dX11_cut_33 : decode cX11_cut 33 = .ok (.iload_n 2, 1) := by decide +kernel
theorem dX11_cut_34 : decode cX11_cut 34 = .ok (.invokevirtual 324, 3) := by decide +kernel
theorem dX11_cut_37 : decode cX11_cut 37 = .ok (.ifCond .ne 10, 3) := by decide +kernel
theorem dX11_cut_40 : decode cX11_cut 40 = .ok (.aload_n 0, 1) := by decide +kernel
theorem dX11_cut_41 : decode cX11_cut 41 = .ok (.bipush 9, 2) := by decide +kernel
theorem dX11_cut_43 : decode cX11_cut 43 = .ok (.invokevirtual 147, 3) := by decide +kernel
theorem dX11_cut_46 : decode cX11_cut 46 = .ok (.ireturn, 1) := by decide +kernel
theorem dX11_cut_47 : decode cX11_cut 47 = .ok (.aload_n 0, 1) := by decide +kernel
theorem dX11_cut_48 : decode cX11_cut 48 = .ok (.aload_n 0, 1) := by decide +kernel
theorem dX11_cut_49 : decode cX11_cut 49 = .ok (.getfield 43, 3) := by decide +kernel
theorem dX11_cut_52 : decode cX11_cut 52 = .ok (.iload_n 1, 1) := by decide +kernel
theorem dX11_cut_53 : decode cX11_cut 53 = .ok (.iload_n 2, 1) := by decide +kernel
theorem dX11_cut_54 : decode cX11_cut 54 = .ok (.invokevirtual 327, 3) := by decide +kernel
theorem dX11_cut_57 : decode cX11_cut 57 = .ok (.invokevirtual 194, 3) := by decide +kernel
theorem dX11_cut_60 : decode cX11_cut 60 = .ok (.ireturn, 1) := by decide +kernel
theorem mw_X11_cut : MW yX11_cut cX11_cut 3 0 2 false := ⟨tm 1196 (by decide +kernel) rfl, tm 235 (by decide +kernel) rfl, by decide, by decide, (by rw [if_neg (by decide)]; exact ⟨tm 1194 (by decide +kernel) rfl, tm 1195 (by decide +kernel) rfl⟩)⟩
theorem lk_RX11_324 : LK RX11 324 yX4_canTrim := Or.inr ⟨"HairProvince", tm 1197 (by decide +kernel) rfl⟩
theorem lk_RX11_327 : LK RX11 327 yX4_trim := Or.inr ⟨"HairProvince", tm 1202 (by decide +kernel) rfl⟩
def H_cut (a1 : Int) (a2 : Int) (σ : Sg) : Rs := (bd (Pr_isPerson 8 a1 σ) (fun r1 s2 => (if r1 = 0 then (bd (H_fail 2 s2) (fun r3 s4 => (some (r3, s4)))) else (bd (Pr_isPerson 8 a2 s2) (fun r5 s6 => (if r5 = 0 then (bd (H_fail 2 s6) (fun r7 s8 => (some (r7, s8)))) else (bd (Pr_canTrim 8 a1 a2 s6) (fun r9 s10 => (if r9 = 0 then (bd (H_fail 9 s10) (fun r11 s12 => (some (r11, s12)))) else (bd (Pr_trim 8 a1 a2 s10) (fun r13 s14 => (bd (H_give r13 s14) (fun r15 s16 => (some (r15, s16)))))))))))))))
theorem ok_H_cut (a1 : Int) (a2 : Int) (σ : Sg) : MC l Kh Ph yX11_cut cX11_cut 3 0 4 [.inr (.inr 0), .inl a1, .inl a2] σ (H_cut a1 a2 σ) := by
  refine mc_of (by decide) (Nat.le_of_ble_eq_true rfl) ?_
  change G l Kh Ph RX11 cX11_cut 3 0 4 0 [some (.inr (.inr 0)), some (.inl a1), some (.inl a2)] [] σ (H_cut a1 a2 σ)
  unfold H_cut
  refine g_aload_n dX11_cut_0 rfl rfl ?_
  refine g_getr' (q := 8) fl_RX11_43 kh_0 (by decide) rfl dX11_cut_1 ?_
  refine g_iload_n dX11_cut_4 rfl rfl ?_
  refine g_callv3 (st := []) 4 mw_X4_isPerson lk_RX11_266 rfl kh_8 (ok_Pr_isPerson 8 a1 kh_8 σ) (Nat.le_of_ble_eq_true rfl) rfl rfl (Nat.le_of_ble_eq_true rfl) dX11_cut_5 ?_
  intro r1 s2
  refine g_ifeq (tgt := 22) dX11_cut_8 (by decide) ?_ ?_
  · refine g_aload_n dX11_cut_22 rfl rfl ?_
    refine g_iconst dX11_cut_23 (by decide) ?_
    refine g_callv0 (st := []) 9 mw_X11_fail lk_RX11_147 rfl kh_0 (ok_H_fail 2 s2) (Nat.le_of_ble_eq_true rfl) rfl rfl (Nat.le_of_ble_eq_true rfl) dX11_cut_24 ?_
    intro r3 s4
    exact g_iret dX11_cut_27
  · refine g_aload_n dX11_cut_11 rfl rfl ?_
    refine g_getr' (q := 8) fl_RX11_43 kh_0 (by decide) rfl dX11_cut_12 ?_
    refine g_iload_n dX11_cut_15 rfl rfl ?_
    refine g_callv3 (st := []) 4 mw_X4_isPerson lk_RX11_266 rfl kh_8 (ok_Pr_isPerson 8 a2 kh_8 s2) (Nat.le_of_ble_eq_true rfl) rfl rfl (Nat.le_of_ble_eq_true rfl) dX11_cut_16 ?_
    intro r5 s6
    refine g_ifne (tgt := 28) dX11_cut_19 (by decide) ?_ ?_
    · refine g_aload_n dX11_cut_22 rfl rfl ?_
      refine g_iconst dX11_cut_23 (by decide) ?_
      refine g_callv0 (st := []) 9 mw_X11_fail lk_RX11_147 rfl kh_0 (ok_H_fail 2 s6) (Nat.le_of_ble_eq_true rfl) rfl rfl (Nat.le_of_ble_eq_true rfl) dX11_cut_24 ?_
      intro r7 s8
      exact g_iret dX11_cut_27
    · refine g_aload_n dX11_cut_28 rfl rfl ?_
      refine g_getr' (q := 8) fl_RX11_43 kh_0 (by decide) rfl dX11_cut_29 ?_
      refine g_iload_n dX11_cut_32 rfl rfl ?_
      refine g_iload_n dX11_cut_33 rfl rfl ?_
      refine g_callv3 (st := []) 4 mw_X4_canTrim lk_RX11_324 rfl kh_8 (ok_Pr_canTrim 8 a1 a2 kh_8 s6) (Nat.le_of_ble_eq_true rfl) rfl rfl (Nat.le_of_ble_eq_true rfl) dX11_cut_34 ?_
      intro r9 s10
      refine g_ifne (tgt := 47) dX11_cut_37 (by decide) ?_ ?_
      · refine g_aload_n dX11_cut_40 rfl rfl ?_
        refine g_bipush dX11_cut_41 (by decide) ?_
        refine g_callv0 (st := []) 9 mw_X11_fail lk_RX11_147 rfl kh_0 (ok_H_fail 9 s10) (Nat.le_of_ble_eq_true rfl) rfl rfl (Nat.le_of_ble_eq_true rfl) dX11_cut_43 ?_
        intro r11 s12
        exact g_iret dX11_cut_46
      · refine g_aload_n dX11_cut_47 rfl rfl ?_
        refine g_aload_n dX11_cut_48 rfl rfl ?_
        refine g_getr' (q := 8) fl_RX11_43 kh_0 (by decide) rfl dX11_cut_49 ?_
        refine g_iload_n dX11_cut_52 rfl rfl ?_
        refine g_iload_n dX11_cut_53 rfl rfl ?_
        refine g_callv0 (st := [.inr (.inr 0)]) 4 mw_X4_trim lk_RX11_327 rfl kh_8 (ok_Pr_trim 8 a1 a2 kh_8 s10) (Nat.le_of_ble_eq_true rfl) rfl rfl (Nat.le_of_ble_eq_true rfl) dX11_cut_54 ?_
        intro r13 s14
        refine g_callv0 (st := []) 9 mw_X11_give lk_RX11_194 rfl kh_0 (ok_H_give r13 s14) (Nat.le_of_ble_eq_true rfl) rfl rfl (Nat.le_of_ble_eq_true rfl) dX11_cut_57 ?_
        intro r15 s16
        exact g_iret dX11_cut_60
theorem dX4_longestOf_0 : decode cX4_longestOf 0 = .ok (.iconst (-1), 1) := by decide +kernel
theorem dX4_longestOf_1 : decode cX4_longestOf 1 = .ok (.istore_n 3, 1) := by decide +kernel
theorem dX4_longestOf_2 : decode cX4_longestOf 2 = .ok (.iconst (-1), 1) := by decide +kernel
theorem dX4_longestOf_3 : decode cX4_longestOf 3 = .ok (.istore 4, 2) := by decide +kernel
theorem dX4_longestOf_5 : decode cX4_longestOf 5 = .ok (.iconst 0, 1) := by decide +kernel
theorem dX4_longestOf_6 : decode cX4_longestOf 6 = .ok (.istore 5, 2) := by decide +kernel
theorem dX4_longestOf_8 : decode cX4_longestOf 8 = .ok (.iload 5, 2) := by decide +kernel
theorem dX4_longestOf_10 : decode cX4_longestOf 10 = .ok (.aload_n 0, 1) := by decide +kernel
theorem dX4_longestOf_11 : decode cX4_longestOf 11 = .ok (.getfield 50, 3) := by decide +kernel
theorem dX4_longestOf_14 : decode cX4_longestOf 14 = .ok (.if_icmp .ge 94, 3) := by decide +kernel
theorem dX4_longestOf_17 : decode cX4_longestOf 17 = .ok (.iload 5, 2) := by decide +kernel
theorem dX4_longestOf_19 : decode cX4_longestOf 19 = .ok (.bipush 8, 2) := by decide +kernel
theorem dX4_longestOf_21 : decode cX4_longestOf 21 = .ok (.if_icmp .ge 87, 3) := by decide +kernel
theorem dX4_longestOf_24 : decode cX4_longestOf 24 = .ok (.iload_n 2, 1) := by decide +kernel
theorem dX4_longestOf_25 : decode cX4_longestOf 25 = .ok (.iload 5, 2) := by decide +kernel
theorem dX4_longestOf_27 : decode cX4_longestOf 27 = .ok (.ishr, 1) := by decide +kernel
theorem dX4_longestOf_28 : decode cX4_longestOf 28 = .ok (.iconst 1, 1) := by decide +kernel
theorem dX4_longestOf_29 : decode cX4_longestOf 29 = .ok (.iand, 1) := by decide +kernel
theorem dX4_longestOf_30 : decode cX4_longestOf 30 = .ok (.iconst 1, 1) := by decide +kernel
theorem dX4_longestOf_31 : decode cX4_longestOf 31 = .ok (.if_icmp .ne 71, 3) := by decide +kernel
theorem dX4_longestOf_34 : decode cX4_longestOf 34 = .ok (.aload_n 0, 1) := by decide +kernel
theorem dX4_longestOf_35 : decode cX4_longestOf 35 = .ok (.iload_n 1, 1) := by decide +kernel
theorem dX4_longestOf_36 : decode cX4_longestOf 36 = .ok (.iload 5, 2) := by decide +kernel
theorem dX4_longestOf_38 : decode cX4_longestOf 38 = .ok (.invokevirtual 90, 3) := by decide +kernel
theorem dX4_longestOf_41 : decode cX4_longestOf 41 = .ok (.ifCond .eq 61, 3) := by decide +kernel
theorem dX4_longestOf_44 : decode cX4_longestOf 44 = .ok (.iload_n 1, 1) := by decide +kernel
theorem dX4_longestOf_45 : decode cX4_longestOf 45 = .ok (.bipush 8, 2) := by decide +kernel
theorem dX4_longestOf_47 : decode cX4_longestOf 47 = .ok (.imul, 1) := by decide +kernel
theorem dX4_longestOf_48 : decode cX4_longestOf 48 = .ok (.iload 5, 2) := by decide +kernel
theorem dX4_longestOf_50 : decode cX4_longestOf 50 = .ok (.iadd, 1) := by decide +kernel
theorem dX4_longestOf_51 : decode cX4_longestOf 51 = .ok (.istore 6, 2) := by decide +kernel
theorem dX4_longestOf_53 : decode cX4_longestOf 53 = .ok (.aload_n 0, 1) := by decide +kernel
theorem dX4_longestOf_54 : decode cX4_longestOf 54 = .ok (.aload_n 0, 1) := by decide +kernel
theorem dX4_longestOf_55 : decode cX4_longestOf 55 = .ok (.getfield 62, 3) := by decide +kernel
theorem dX4_longestOf_58 : decode cX4_longestOf 58 = .ok (.iload 5, 2) := by decide +kernel
theorem dX4_longestOf_60 : decode cX4_longestOf 60 = .ok (.aload_n 0, 1) := by decide +kernel
theorem dX4_longestOf_61 : decode cX4_longestOf 61 = .ok (.getfield 34, 3) := by decide +kernel
theorem dX4_longestOf_64 : decode cX4_longestOf 64 = .ok (.iload 6, 2) := by decide +kernel
theorem dX4_longestOf_66 : decode cX4_longestOf 66 = .ok (.iaload, 1) := by decide +kernel
theorem dX4_longestOf_67 : decode cX4_longestOf 67 = .ok (.aload_n 0, 1) := by decide +kernel
theorem dX4_longestOf_68 : decode cX4_longestOf 68 = .ok (.getfield 37, 3) := by decide +kernel
theorem dX4_longestOf_71 : decode cX4_longestOf 71 = .ok (.iload 6, 2) := by decide +kernel
theorem dX4_longestOf_73 : decode cX4_longestOf 73 = .ok (.iaload, 1) := by decide +kernel
theorem dX4_longestOf_74 : decode cX4_longestOf 74 = .ok (.invokevirtual 94, 3) := by decide +kernel
theorem dX4_longestOf_77 : decode cX4_longestOf 77 = .ok (.istore 7, 2) := by decide +kernel
theorem dX4_longestOf_79 : decode cX4_longestOf 79 = .ok (.iload 7, 2) := by decide +kernel
theorem dX4_longestOf_81 : decode cX4_longestOf 81 = .ok (.iload 4, 2) := by decide +kernel
theorem dX4_longestOf_83 : decode cX4_longestOf 83 = .ok (.if_icmp .le 8, 3) := by decide +kernel
theorem dX4_longestOf_86 : decode cX4_longestOf 86 = .ok (.iload 5, 2) := by decide +kernel
theorem dX4_longestOf_88 : decode cX4_longestOf 88 = .ok (.goto 4, 3) := by decide +kernel
theorem dX4_longestOf_91 : decode cX4_longestOf 91 = .ok (.iload_n 3, 1) := by decide +kernel
theorem dX4_longestOf_92 : decode cX4_longestOf 92 = .ok (.istore_n 3, 1) := by decide +kernel
theorem dX4_longestOf_93 : decode cX4_longestOf 93 = .ok (.iload 7, 2) := by decide +kernel
theorem dX4_longestOf_95 : decode cX4_longestOf 95 = .ok (.iload 4, 2) := by decide +kernel
theorem dX4_longestOf_97 : decode cX4_longestOf 97 = .ok (.invokestatic 112, 3) := by decide +kernel
theorem dX4_longestOf_100 : decode cX4_longestOf 100 = .ok (.istore 4, 2) := by decide +kernel
theorem dX4_longestOf_102 : decode cX4_longestOf 102 = .ok (.iinc 5 1, 3) := by decide +kernel
theorem dX4_longestOf_105 : decode cX4_longestOf 105 = .ok (.goto (-97), 3) := by decide +kernel
theorem dX4_longestOf_108 : decode cX4_longestOf 108 = .ok (.iload_n 3, 1) := by decide +kernel
theorem dX4_longestOf_109 : decode cX4_longestOf 109 = .ok (.ireturn, 1) := by decide +kernel
theorem mw_X4_longestOf : MW yX4_longestOf cX4_longestOf 8 0 2 false := ⟨tm 1132 (by decide +kernel) rfl, tm 242 (by decide +kernel) rfl, by decide, by decide, (by rw [if_neg (by decide)]; exact ⟨tm 1131 (by decide +kernel) rfl, tm 66 (by decide +kernel) rfl⟩)⟩
theorem mx_RX4_112 : MX RX4 112 Lib.Math.max.name Lib.Math.max.code 2 (some .int) := ⟨tm 1133 (by decide +kernel) rfl, tm 1134 (by decide +kernel) rfl, tm 251 (by decide +kernel) rfl, tm 1135 (by decide +kernel) rfl⟩
def Pr_longestOf_L8 (pr0 : Nat) (a1 : Int) (a2 : Int) : Nat → Int → Int → Int → Sg → Rs
  | 0, _, _, _, _ => none
  | n + 1, v3, v4, v5, σ => (if v5 < (σ pr0 10) then (if v5 < 8 then (if (an32 (sr32 a2 v5) 1) = 1 then (bd (Pr_isKept pr0 a1 v5 σ) (fun r1 s2 => (if r1 = 0 then (nm (w32 (v5 + 1)) (fun x3 => (Pr_longestOf_L8 pr0 a1 a2 n v3 v4 x3 s2))) else (nm (w32 ((w32 (a1 * 8)) + v5)) (fun x4 => (rd 48 x4 (s2 (pr0 + 8) (Int.toNat x4)) (fun x5 => (rd 48 x4 (s2 (pr0 + 9) (Int.toNat x4)) (fun x6 => (bd (Pr_lengthOn pr0 (s2 pr0 16) v5 x5 x6 s2) (fun r7 s8 => (if v4 < r7 then (nm (max r7 v4) (fun x9 => (nm (w32 (v5 + 1)) (fun x10 => (Pr_longestOf_L8 pr0 a1 a2 n v5 x9 x10 s8))))) else (nm (max r7 v4) (fun x11 => (nm (w32 (v5 + 1)) (fun x12 => (Pr_longestOf_L8 pr0 a1 a2 n v3 x11 x12 s8))))))))))))))))) else (nm (w32 (v5 + 1)) (fun x13 => (Pr_longestOf_L8 pr0 a1 a2 n v3 v4 x13 σ)))) else (some (v3, σ))) else (some (v3, σ)))
theorem ok_Pr_longestOf_L8 (pr0 : Nat) (a1 : Int) (a2 : Int) (hpr0 : Kh[pr0]? = some (.inl 4)) : ∀ (n : Nat) (v3 v4 v5 : Int) (σ : Sg), G l Kh Ph RX4 cX4_longestOf 8 0 2 8 [some (.inr (.inr pr0)), some (.inl a1), some (.inl a2), some (.inl v3), some (.inl v4), some (.inl v5), none, none] [] σ (Pr_longestOf_L8 pr0 a1 a2 n v3 v4 v5 σ) := by
  intro n
  induction n with
  | zero => intros; exact G.none_
  | succ n ih =>
    intro v3 v4 v5 σ
    rw [Pr_longestOf_L8]
    refine g_iload dX4_longestOf_8 rfl ?_
    refine g_aload_n dX4_longestOf_10 rfl rfl ?_
    refine g_geti fl_RX4_50 hpr0 (by decide) dX4_longestOf_11 ?_
    refine g_icmpge (tgt := 108) dX4_longestOf_14 (by decide) ?_ ?_
    · refine g_iload dX4_longestOf_17 rfl ?_
      refine g_bipush dX4_longestOf_19 (by decide) ?_
      refine g_icmpge (tgt := 108) dX4_longestOf_21 (by decide) ?_ ?_
      · refine g_iload_n dX4_longestOf_24 rfl rfl ?_
        refine g_iload dX4_longestOf_25 rfl ?_
        refine g_ishr dX4_longestOf_27 ?_
        refine g_iconst dX4_longestOf_28 (by decide) ?_
        refine g_iand dX4_longestOf_29 ?_
        refine g_iconst dX4_longestOf_30 (by decide) ?_
        refine g_icmpne (tgt := 102) dX4_longestOf_31 (by decide) ?_ ?_
        · refine g_aload_n dX4_longestOf_34 rfl rfl ?_
          refine g_iload_n dX4_longestOf_35 rfl rfl ?_
          refine g_iload dX4_longestOf_36 rfl ?_
          refine g_callv3 (st := []) 4 mw_X4_isKept lk_RX4_90 rfl hpr0 (ok_Pr_isKept pr0 a1 v5 hpr0 σ) (Nat.le_of_ble_eq_true rfl) rfl rfl (Nat.le_of_ble_eq_true rfl) dX4_longestOf_38 ?_
          intro r1 s2
          refine g_ifeq (tgt := 102) dX4_longestOf_41 (by decide) ?_ ?_
          · refine n_iinc (fun x3 => [some (.inr (.inr pr0)), some (.inl a1), some (.inl a2), some (.inl v3), some (.inl v4), some (.inl x3), none, none]) dX4_longestOf_102 rfl (Nat.le_of_ble_eq_true rfl) (fun _ => rfl) ?_
            intro x3
            refine g_goto (tgt := 8) dX4_longestOf_105 (by decide) ?_
            exact (ih v3 v4 x3 s2)
          · refine g_iload_n dX4_longestOf_44 rfl rfl ?_
            refine g_bipush dX4_longestOf_45 (by decide) ?_
            refine g_imul dX4_longestOf_47 ?_
            refine g_iload dX4_longestOf_48 rfl ?_
            refine g_iadd dX4_longestOf_50 ?_
            refine n_istore (fun x4 => [some (.inr (.inr pr0)), some (.inl a1), some (.inl a2), some (.inl v3), some (.inl v4), some (.inl v5), some (.inl x4), none]) dX4_longestOf_51 (Nat.le_of_ble_eq_true rfl) (fun _ => rfl) ?_
            intro x4
            refine g_aload_n dX4_longestOf_53 rfl rfl ?_
            refine g_aload_n dX4_longestOf_54 rfl rfl ?_
            refine g_geti fl_RX4_62 hpr0 (by decide) dX4_longestOf_55 ?_
            refine g_iload dX4_longestOf_58 rfl ?_
            refine g_aload_n dX4_longestOf_60 rfl rfl ?_
            refine g_getr' (q := (pr0 + 8)) fl_RX4_34 hpr0 (by decide) (qp7 hpr0) dX4_longestOf_61 ?_
            refine g_iload dX4_longestOf_64 rfl ?_
            refine g_iald (kp7 hpr0) dX4_longestOf_66 ?_
            intro x5
            refine g_aload_n dX4_longestOf_67 rfl rfl ?_
            refine g_getr' (q := (pr0 + 9)) fl_RX4_37 hpr0 (by decide) (qp8 hpr0) dX4_longestOf_68 ?_
            refine g_iload dX4_longestOf_71 rfl ?_
            refine g_iald (kp8 hpr0) dX4_longestOf_73 ?_
            intro x6
            refine g_callv0 (st := []) 4 mw_X4_lengthOn lk_RX4_94 rfl hpr0 (ok_Pr_lengthOn pr0 (s2 pr0 16) v5 x5 x6 hpr0 s2) (Nat.le_of_ble_eq_true rfl) rfl rfl (Nat.le_of_ble_eq_true rfl) dX4_longestOf_74 ?_
            intro r7 s8
            refine g_istore (lv' := [some (.inr (.inr pr0)), some (.inl a1), some (.inl a2), some (.inl v3), some (.inl v4), some (.inl v5), some (.inl x4), some (.inl r7)]) dX4_longestOf_77 (Nat.le_of_ble_eq_true rfl) rfl ?_
            refine g_iload dX4_longestOf_79 rfl ?_
            refine g_iload dX4_longestOf_81 rfl ?_
            refine g_icmple (tgt := 91) dX4_longestOf_83 (by decide) ?_ ?_
            · refine g_iload dX4_longestOf_86 rfl ?_
              refine g_goto (tgt := 92) dX4_longestOf_88 (by decide) ?_
              refine g_istore_n (lv' := [some (.inr (.inr pr0)), some (.inl a1), some (.inl a2), some (.inl v5), some (.inl v4), some (.inl v5), some (.inl x4), some (.inl r7)]) dX4_longestOf_92 rfl (Nat.le_of_ble_eq_true rfl) rfl ?_
              refine g_iload dX4_longestOf_93 rfl ?_
              refine g_iload dX4_longestOf_95 rfl ?_
              refine g_mmax mx_RX4_112 (Nat.le_of_ble_eq_true rfl) (Nat.le_of_ble_eq_true rfl) dX4_longestOf_97 ?_
              refine n_istore (fun x9 => [some (.inr (.inr pr0)), some (.inl a1), some (.inl a2), some (.inl v5), some (.inl x9), some (.inl v5), some (.inl x4), some (.inl r7)]) dX4_longestOf_100 (Nat.le_of_ble_eq_true rfl) (fun _ => rfl) ?_
              intro x9
              refine n_iinc (fun x10 => [some (.inr (.inr pr0)), some (.inl a1), some (.inl a2), some (.inl v5), some (.inl x9), some (.inl x10), some (.inl x4), some (.inl r7)]) dX4_longestOf_102 rfl (Nat.le_of_ble_eq_true rfl) (fun _ => rfl) ?_
              intro x10
              refine g_goto (tgt := 8) dX4_longestOf_105 (by decide) ?_
              exact (g_weak [true, true, true, true, true, true, false, false] (ih v5 x9 x10 s8))
            · refine g_iload_n dX4_longestOf_91 rfl rfl ?_
              refine g_istore_n (lv' := [some (.inr (.inr pr0)), some (.inl a1), some (.inl a2), some (.inl v3), some (.inl v4), some (.inl v5), some (.inl x4), some (.inl r7)]) dX4_longestOf_92 rfl (Nat.le_of_ble_eq_true rfl) rfl ?_
              refine g_iload dX4_longestOf_93 rfl ?_
              refine g_iload dX4_longestOf_95 rfl ?_
              refine g_mmax mx_RX4_112 (Nat.le_of_ble_eq_true rfl) (Nat.le_of_ble_eq_true rfl) dX4_longestOf_97 ?_
              refine n_istore (fun x11 => [some (.inr (.inr pr0)), some (.inl a1), some (.inl a2), some (.inl v3), some (.inl x11), some (.inl v5), some (.inl x4), some (.inl r7)]) dX4_longestOf_100 (Nat.le_of_ble_eq_true rfl) (fun _ => rfl) ?_
              intro x11
              refine n_iinc (fun x12 => [some (.inr (.inr pr0)), some (.inl a1), some (.inl a2), some (.inl v3), some (.inl x11), some (.inl x12), some (.inl x4), some (.inl r7)]) dX4_longestOf_102 rfl (Nat.le_of_ble_eq_true rfl) (fun _ => rfl) ?_
              intro x12
              refine g_goto (tgt := 8) dX4_longestOf_105 (by decide) ?_
              exact (g_weak [true, true, true, true, true, true, false, false] (ih v3 x11 x12 s8))
        · refine n_iinc (fun x13 => [some (.inr (.inr pr0)), some (.inl a1), some (.inl a2), some (.inl v3), some (.inl v4), some (.inl x13), none, none]) dX4_longestOf_102 rfl (Nat.le_of_ble_eq_true rfl) (fun _ => rfl) ?_
          intro x13
          refine g_goto (tgt := 8) dX4_longestOf_105 (by decide) ?_
          exact (ih v3 v4 x13 σ)
      · refine g_iload_n dX4_longestOf_108 rfl rfl ?_
        exact g_iret dX4_longestOf_109
    · refine g_iload_n dX4_longestOf_108 rfl rfl ?_
      exact g_iret dX4_longestOf_109
def Pr_longestOf (pr0 : Nat) (a1 : Int) (a2 : Int) (σ : Sg) : Rs := (Pr_longestOf_L8 pr0 a1 a2 fu (-1) (-1) 0 σ)
theorem ok_Pr_longestOf (pr0 : Nat) (a1 : Int) (a2 : Int) (hpr0 : Kh[pr0]? = some (.inl 4)) (σ : Sg) : MC l Kh Ph yX4_longestOf cX4_longestOf 8 0 2 [.inr (.inr pr0), .inl a1, .inl a2] σ (Pr_longestOf pr0 a1 a2 σ) := by
  refine mc_of (by decide) (Nat.le_of_ble_eq_true rfl) ?_
  change G l Kh Ph RX4 cX4_longestOf 8 0 2 0 [some (.inr (.inr pr0)), some (.inl a1), some (.inl a2), none, none, none, none, none] [] σ (Pr_longestOf pr0 a1 a2 σ)
  unfold Pr_longestOf
  refine g_iconst dX4_longestOf_0 (by decide) ?_
  refine g_istore_n (lv' := [some (.inr (.inr pr0)), some (.inl a1), some (.inl a2), some (.inl (-1)), none, none, none, none]) dX4_longestOf_1 rfl (Nat.le_of_ble_eq_true rfl) rfl ?_
  refine g_iconst dX4_longestOf_2 (by decide) ?_
  refine g_istore (lv' := [some (.inr (.inr pr0)), some (.inl a1), some (.inl a2), some (.inl (-1)), some (.inl (-1)), none, none, none]) dX4_longestOf_3 (Nat.le_of_ble_eq_true rfl) rfl ?_
  refine g_iconst dX4_longestOf_5 (by decide) ?_
  refine g_istore (lv' := [some (.inr (.inr pr0)), some (.inl a1), some (.inl a2), some (.inl (-1)), some (.inl (-1)), some (.inl 0), none, none]) dX4_longestOf_6 (Nat.le_of_ble_eq_true rfl) rfl ?_
  refine (ok_Pr_longestOf_L8 pr0 a1 a2 hpr0 fu (-1) (-1) 0 σ)
theorem dX4_speak_0 : decode cX4_speak 0 = .ok (.aload_n 0, 1) := by decide +kernel
theorem dX4_speak_1 : decode cX4_speak 1 = .ok (.iload_n 1, 1) := by decide +kernel
theorem dX4_speak_2 : decode cX4_speak 2 = .ok (.invokevirtual 87, 3) := by decide +kernel
theorem dX4_speak_5 : decode cX4_speak 5 = .ok (.ifCond .eq 45, 3) := by decide +kernel
theorem dX4_speak_8 : decode cX4_speak 8 = .ok (.aload_n 0, 1) := by decide +kernel
theorem dX4_speak_9 : decode cX4_speak 9 = .ok (.iload_n 2, 1) := by decide +kernel
theorem dX4_speak_10 : decode cX4_speak 10 = .ok (.invokevirtual 80, 3) := by decide +kernel
theorem dX4_speak_13 : decode cX4_speak 13 = .ok (.ifCond .eq 37, 3) := by decide +kernel
theorem dX4_speak_16 : decode cX4_speak 16 = .ok (.aload_n 0, 1) := by decide +kernel
theorem dX4_speak_17 : decode cX4_speak 17 = .ok (.iload_n 3, 1) := by decide +kernel
theorem dX4_speak_18 : decode cX4_speak 18 = .ok (.invokevirtual 87, 3) := by decide +kernel
theorem dX4_speak_21 : decode cX4_speak 21 = .ok (.ifCond .eq 29, 3) := by decide +kernel
theorem dX4_speak_24 : decode cX4_speak 24 = .ok (.aload_n 0, 1) := by decide +kernel
theorem dX4_speak_25 : decode cX4_speak 25 = .ok (.getfield 28, 3) := by decide +kernel
theorem dX4_speak_28 : decode cX4_speak 28 = .ok (.iload_n 3, 1) := by decide +kernel
theorem dX4_speak_29 : decode cX4_speak 29 = .ok (.dup2, 1) := by decide +kernel
theorem dX4_speak_30 : decode cX4_speak 30 = .ok (.iaload, 1) := by decide +kernel
theorem dX4_speak_31 : decode cX4_speak 31 = .ok (.iconst 1, 1) := by decide +kernel
theorem dX4_speak_32 : decode cX4_speak 32 = .ok (.iload_n 2, 1) := by decide +kernel
theorem dX4_speak_33 : decode cX4_speak 33 = .ok (.ishl, 1) := by decide +kernel
theorem dX4_speak_34 : decode cX4_speak 34 = .ok (.ior, 1) := by decide +kernel
theorem dX4_speak_35 : decode cX4_speak 35 = .ok (.iastore, 1) := by decide +kernel
theorem dX4_speak_36 : decode cX4_speak 36 = .ok (.aload_n 0, 1) := by decide +kernel
theorem dX4_speak_37 : decode cX4_speak 37 = .ok (.getfield 31, 3) := by decide +kernel
theorem dX4_speak_40 : decode cX4_speak 40 = .ok (.iload_n 1, 1) := by decide +kernel
theorem dX4_speak_41 : decode cX4_speak 41 = .ok (.dup2, 1) := by decide +kernel
theorem dX4_speak_42 : decode cX4_speak 42 = .ok (.iaload, 1) := by decide +kernel
theorem dX4_speak_43 : decode cX4_speak 43 = .ok (.iconst 1, 1) := by decide +kernel
theorem dX4_speak_44 : decode cX4_speak 44 = .ok (.iload_n 2, 1) := by decide +kernel
theorem dX4_speak_45 : decode cX4_speak 45 = .ok (.ishl, 1) := by decide +kernel
theorem dX4_speak_46 : decode cX4_speak 46 = .ok (.iconst (-1), 1) := by decide +kernel
theorem dX4_speak_47 : decode cX4_speak 47 = .ok (.ixor, 1) := by decide +kernel
theorem dX4_speak_48 : decode cX4_speak 48 = .ok (.iand, 1) := by decide +kernel
theorem dX4_speak_49 : decode cX4_speak 49 = .ok (.iastore, 1) := by decide +kernel
theorem dX4_speak_50 : decode cX4_speak 50 = .ok (.return_, 1) := by decide +kernel
theorem mw_X4_speak : MW yX4_speak cX4_speak 4 2 3 false := ⟨tm 1156 (by decide +kernel) rfl, tm 242 (by decide +kernel) rfl, by decide, by decide, (by rw [if_neg (by decide)]; exact ⟨tm 1155 (by decide +kernel) rfl, tm 69 (by decide +kernel) rfl⟩)⟩
def Pr_speak (pr0 : Nat) (a1 : Int) (a2 : Int) (a3 : Int) (σ : Sg) : Rs := (bd (Pr_isPerson pr0 a1 σ) (fun r1 s2 => (if r1 = 0 then (some (0, s2)) else (bd (Pr_isWord pr0 a2 s2) (fun r3 s4 => (if r3 = 0 then (some (0, s4)) else (bd (Pr_isPerson pr0 a3 s4) (fun r5 s6 => (if r5 = 0 then (some (0, s6)) else (rd 6 a3 (s6 (pr0 + 6) (Int.toNat a3)) (fun x7 => (wr 6 a3 (up_s s6 (pr0 + 6) (Int.toNat a3) (or32 x7 (sl32 1 a2))) (fun s8 => (rd 6 a1 (s8 (pr0 + 7) (Int.toNat a1)) (fun x9 => (wr 6 a1 (up_s s8 (pr0 + 7) (Int.toNat a1) (an32 x9 (xo32 (sl32 1 a2) (-1)))) (fun s10 => (some (0, s10)))))))))))))))))))
theorem ok_Pr_speak (pr0 : Nat) (a1 : Int) (a2 : Int) (a3 : Int) (hpr0 : Kh[pr0]? = some (.inl 4)) (σ : Sg) : MC l Kh Ph yX4_speak cX4_speak 4 2 2 [.inr (.inr pr0), .inl a1, .inl a2, .inl a3] σ (Pr_speak pr0 a1 a2 a3 σ) := by
  refine mc_of (by decide) (Nat.le_of_ble_eq_true rfl) ?_
  change G l Kh Ph RX4 cX4_speak 4 2 2 0 [some (.inr (.inr pr0)), some (.inl a1), some (.inl a2), some (.inl a3)] [] σ (Pr_speak pr0 a1 a2 a3 σ)
  unfold Pr_speak
  refine g_aload_n dX4_speak_0 rfl rfl ?_
  refine g_iload_n dX4_speak_1 rfl rfl ?_
  refine g_callv3 (st := []) 4 mw_X4_isPerson lk_RX4_87 rfl hpr0 (ok_Pr_isPerson pr0 a1 hpr0 σ) (Nat.le_of_ble_eq_true rfl) rfl rfl (Nat.le_of_ble_eq_true rfl) dX4_speak_2 ?_
  intro r1 s2
  refine g_ifeq (tgt := 50) dX4_speak_5 (by decide) ?_ ?_
  · exact g_vret dX4_speak_50
  · refine g_aload_n dX4_speak_8 rfl rfl ?_
    refine g_iload_n dX4_speak_9 rfl rfl ?_
    refine g_callv3 (st := []) 4 mw_X4_isWord lk_RX4_80 rfl hpr0 (ok_Pr_isWord pr0 a2 hpr0 s2) (Nat.le_of_ble_eq_true rfl) rfl rfl (Nat.le_of_ble_eq_true rfl) dX4_speak_10 ?_
    intro r3 s4
    refine g_ifeq (tgt := 50) dX4_speak_13 (by decide) ?_ ?_
    · exact g_vret dX4_speak_50
    · refine g_aload_n dX4_speak_16 rfl rfl ?_
      refine g_iload_n dX4_speak_17 rfl rfl ?_
      refine g_callv3 (st := []) 4 mw_X4_isPerson lk_RX4_87 rfl hpr0 (ok_Pr_isPerson pr0 a3 hpr0 s4) (Nat.le_of_ble_eq_true rfl) rfl rfl (Nat.le_of_ble_eq_true rfl) dX4_speak_18 ?_
      intro r5 s6
      refine g_ifeq (tgt := 50) dX4_speak_21 (by decide) ?_ ?_
      · exact g_vret dX4_speak_50
      · refine g_aload_n dX4_speak_24 rfl rfl ?_
        refine g_getr' (q := (pr0 + 6)) fl_RX4_28 hpr0 (by decide) (qp5 hpr0) dX4_speak_25 ?_
        refine g_iload_n dX4_speak_28 rfl rfl ?_
        refine g_dup2 dX4_speak_29 rfl rfl ?_
        refine g_iald (kp5 hpr0) dX4_speak_30 ?_
        intro x7
        refine g_iconst dX4_speak_31 (by decide) ?_
        refine g_iload_n dX4_speak_32 rfl rfl ?_
        refine g_ishl dX4_speak_33 ?_
        refine g_ior dX4_speak_34 ?_
        refine g_iast (kp5 hpr0) dX4_speak_35 ?_
        intro s8
        refine g_aload_n dX4_speak_36 rfl rfl ?_
        refine g_getr' (q := (pr0 + 7)) fl_RX4_31 hpr0 (by decide) (qp6 hpr0) dX4_speak_37 ?_
        refine g_iload_n dX4_speak_40 rfl rfl ?_
        refine g_dup2 dX4_speak_41 rfl rfl ?_
        refine g_iald (kp6 hpr0) dX4_speak_42 ?_
        intro x9
        refine g_iconst dX4_speak_43 (by decide) ?_
        refine g_iload_n dX4_speak_44 rfl rfl ?_
        refine g_ishl dX4_speak_45 ?_
        refine g_iconst dX4_speak_46 (by decide) ?_
        refine g_ixor dX4_speak_47 ?_
        refine g_iand dX4_speak_48 ?_
        refine g_iast (kp6 hpr0) dX4_speak_49 ?_
        intro s10
        exact g_vret dX4_speak_50
end WK
