section WK
variable {l : Launch}
theorem dX9_copyFrom_0 : decode cX9_copyFrom 0 = .ok (.aload_n 1, 1) := by decide +kernel
theorem dX9_copyFrom_1 : decode cX9_copyFrom 1 = .ok (.getfield 11, 3) := by decide +kernel
theorem dX9_copyFrom_4 : decode cX9_copyFrom 4 = .ok (.iconst 0, 1) := by decide +kernel
theorem dX9_copyFrom_5 : decode cX9_copyFrom 5 = .ok (.aload_n 0, 1) := by decide +kernel
theorem dX9_copyFrom_6 : decode cX9_copyFrom 6 = .ok (.getfield 11, 3) := by decide +kernel
theorem dX9_copyFrom_9 : decode cX9_copyFrom 9 = .ok (.iconst 0, 1) := by decide +kernel
theorem dX9_copyFrom_10 : decode cX9_copyFrom 10 = .ok (.bipush 60, 2) := by decide +kernel
theorem dX9_copyFrom_12 : decode cX9_copyFrom 12 = .ok (.invokestatic 38, 3) := by decide +kernel
theorem dX9_copyFrom_15 : decode cX9_copyFrom 15 = .ok (.aload_n 1, 1) := by decide +kernel
theorem dX9_copyFrom_16 : decode cX9_copyFrom 16 = .ok (.getfield 15, 3) := by decide +kernel
theorem dX9_copyFrom_19 : decode cX9_copyFrom 19 = .ok (.iconst 0, 1) := by decide +kernel
theorem dX9_copyFrom_20 : decode cX9_copyFrom 20 = .ok (.aload_n 0, 1) := by decide +kernel
theorem dX9_copyFrom_21 : decode cX9_copyFrom 21 = .ok (.getfield 15, 3) := by decide +kernel
theorem dX9_copyFrom_24 : decode cX9_copyFrom 24 = .ok (.iconst 0, 1) := by decide +kernel
theorem dX9_copyFrom_25 : decode cX9_copyFrom 25 = .ok (.bipush 60, 2) := by decide +kernel
theorem dX9_copyFrom_27 : decode cX9_copyFrom 27 = .ok (.invokestatic 38, 3) := by decide +kernel
theorem dX9_copyFrom_30 : decode cX9_copyFrom 30 = .ok (.aload_n 1, 1) := by decide +kernel
theorem dX9_copyFrom_31 : decode cX9_copyFrom 31 = .ok (.getfield 18, 3) := by decide +kernel
theorem dX9_copyFrom_34 : decode cX9_copyFrom 34 = .ok (.iconst 0, 1) := by decide +kernel
theorem dX9_copyFrom_35 : decode cX9_copyFrom 35 = .ok (.aload_n 0, 1) := by decide +kernel
theorem dX9_copyFrom_36 : decode cX9_copyFrom 36 = .ok (.getfield 18, 3) := by decide +kernel
theorem dX9_copyFrom_39 : decode cX9_copyFrom 39 = .ok (.iconst 0, 1) := by decide +kernel
theorem dX9_copyFrom_40 : decode cX9_copyFrom 40 = .ok (.bipush 60, 2) := by decide +kernel
theorem dX9_copyFrom_42 : decode cX9_copyFrom 42 = .ok (.invokestatic 38, 3) := by decide +kernel
theorem dX9_copyFrom_45 : decode cX9_copyFrom 45 = .ok (.aload_n 1, 1) := by decide +kernel
theorem dX9_copyFrom_46 : decode cX9_copyFrom 46 = .ok (.getfield 21, 3) := by decide +kernel
theorem dX9_copyFrom_49 : decode cX9_copyFrom 49 = .ok (.iconst 0, 1) := by decide +kernel
theorem dX9_copyFrom_50 : decode cX9_copyFrom 50 = .ok (.aload_n 0, 1) := by decide +kernel
theorem dX9_copyFrom_51 : decode cX9_copyFrom 51 = .ok (.getfield 21, 3) := by decide +kernel
theorem dX9_copyFrom_54 : decode cX9_copyFrom 54 = .ok (.iconst 0, 1) := by decide +kernel
theorem dX9_copyFrom_55 : decode cX9_copyFrom 55 = .ok (.bipush 60, 2) := by decide +kernel
theorem dX9_copyFrom_57 : decode cX9_copyFrom 57 = .ok (.invokestatic 38, 3) := by decide +kernel
theorem dX9_copyFrom_60 : decode cX9_copyFrom 60 = .ok (.aload_n 1, 1) := by decide +kernel
theorem dX9_copyFrom_61 : decode cX9_copyFrom 61 = .ok (.getfield 24, 3) := by decide +kernel
theorem dX9_copyFrom_64 : decode cX9_copyFrom 64 = .ok (.iconst 0, 1) := by decide +kernel
theorem dX9_copyFrom_65 : decode cX9_copyFrom 65 = .ok (.aload_n 0, 1) := by decide +kernel
theorem dX9_copyFrom_66 : decode cX9_copyFrom 66 = .ok (.getfield 24, 3) := by decide +kernel
theorem dX9_copyFrom_69 : decode cX9_copyFrom 69 = .ok (.iconst 0, 1) := by decide +kernel
theorem dX9_copyFrom_70 : decode cX9_copyFrom 70 = .ok (.bipush 60, 2) := by decide +kernel
theorem dX9_copyFrom_72 : decode cX9_copyFrom 72 = .ok (.invokestatic 38, 3) := by decide +kernel
theorem dX9_copyFrom_75 : decode cX9_copyFrom 75 = .ok (.aload_n 0, 1) := by decide +kernel
theorem dX9_copyFrom_76 : decode cX9_copyFrom 76 = .ok (.aload_n 1, 1) := by decide +kernel
theorem dX9_copyFrom_77 : decode cX9_copyFrom 77 = .ok (.getfield 27, 3) := by decide +kernel
theorem dX9_copyFrom_80 : decode cX9_copyFrom 80 = .ok (.putfield 27, 3) := by decide +kernel
theorem dX9_copyFrom_83 : decode cX9_copyFrom 83 = .ok (.aload_n 0, 1) := by decide +kernel
theorem dX9_copyFrom_84 : decode cX9_copyFrom 84 = .ok (.aload_n 1, 1) := by decide +kernel
theorem dX9_copyFrom_85 : decode cX9_copyFrom 85 = .ok (.getfield 31, 3) := by decide +kernel
theorem dX9_copyFrom_88 : decode cX9_copyFrom 88 = .ok (.putfield 31, 3) := by decide +kernel
theorem dX9_copyFrom_91 : decode cX9_copyFrom 91 = .ok (.aload_n 0, 1) := by decide +kernel
theorem dX9_copyFrom_92 : decode cX9_copyFrom 92 = .ok (.aload_n 1, 1) := by decide +kernel
theorem dX9_copyFrom_93 : decode cX9_copyFrom 93 = .ok (.getfield 34, 3) := by decide +kernel
theorem dX9_copyFrom_96 : decode cX9_copyFrom 96 = .ok (.putfield 34, 3) := by decide +kernel
theorem dX9_copyFrom_99 : decode cX9_copyFrom 99 = .ok (.return_, 1) := by decide +kernel
theorem mw_X9_copyFrom : MW yX9_copyFrom cX9_copyFrom 2 2 1 false := ⟨tm 1043 (by decide +kernel) rfl, tm 241 (by decide +kernel) rfl, by decide, by decide, (by rw [if_neg (by decide)]; exact ⟨tm 1042 (by decide +kernel) rfl, tm 53 (by decide +kernel) rfl⟩)⟩
theorem fl_RX9_11 : FL RX9 11 8 0 := ⟨_, _, _, _, cw_8, by decide, Or.inr (Or.inr (Or.inr (by decide))), Or.inl (by decide), Or.inl (tm 444 (by decide +kernel) rfl)⟩
theorem fl_RX9_15 : FL RX9 15 8 1 := ⟨_, _, _, _, cw_8, by decide, Or.inr (Or.inr (Or.inr (by decide))), Or.inl (by decide), Or.inl (tm 446 (by decide +kernel) rfl)⟩
theorem fl_RX9_18 : FL RX9 18 8 2 := ⟨_, _, _, _, cw_8, by decide, Or.inr (Or.inr (Or.inr (by decide))), Or.inl (by decide), Or.inl (tm 448 (by decide +kernel) rfl)⟩
theorem fl_RX9_21 : FL RX9 21 8 3 := ⟨_, _, _, _, cw_8, by decide, Or.inr (Or.inr (Or.inr (by decide))), Or.inl (by decide), Or.inl (tm 450 (by decide +kernel) rfl)⟩
theorem fl_RX9_24 : FL RX9 24 8 4 := ⟨_, _, _, _, cw_8, by decide, Or.inr (Or.inr (Or.inr (by decide))), Or.inl (by decide), Or.inl (tm 452 (by decide +kernel) rfl)⟩
theorem fl_RX9_27 : FL RX9 27 8 5 := ⟨_, _, _, _, cw_8, by decide, Or.inl (by decide), Or.inr (by decide), Or.inl (tm 454 (by decide +kernel) rfl)⟩
theorem fl_RX9_31 : FL RX9 31 8 6 := ⟨_, _, _, _, cw_8, by decide, Or.inl (by decide), Or.inr (by decide), Or.inl (tm 456 (by decide +kernel) rfl)⟩
theorem fl_RX9_34 : FL RX9 34 8 7 := ⟨_, _, _, _, cw_8, by decide, Or.inr (Or.inr (Or.inl (by decide))), Or.inr (by decide), Or.inl (tm 459 (by decide +kernel) rfl)⟩
theorem cy_RX9_38 : CY RX9 38 := ⟨tm 1044 (by decide +kernel) rfl, tm 728 (by decide +kernel) rfl, tm 727 (by decide +kernel) rfl, tm 248 (by decide +kernel) rfl⟩
def Ye_copyFrom (ye0 : Nat) (ye1 : Nat) (σ : Sg) : Rs := (cpw 60 60 0 0 60 (cp_s σ (ye1 + 1) (ye0 + 1) (Int.toNat 0) (Int.toNat 0) (Int.toNat 60)) (fun s1 => (cpw 60 60 0 0 60 (cp_s s1 (ye1 + 2) (ye0 + 2) (Int.toNat 0) (Int.toNat 0) (Int.toNat 60)) (fun s2 => (cpw 60 60 0 0 60 (cp_s s2 (ye1 + 3) (ye0 + 3) (Int.toNat 0) (Int.toNat 0) (Int.toNat 60)) (fun s3 => (cpw 60 60 0 0 60 (cp_s s3 (ye1 + 4) (ye0 + 4) (Int.toNat 0) (Int.toNat 0) (Int.toNat 60)) (fun s4 => (cpw 60 60 0 0 60 (cp_s s4 (ye1 + 5) (ye0 + 5) (Int.toNat 0) (Int.toNat 0) (Int.toNat 60)) (fun s5 => (nm (up_s s5 ye0 5 (s5 ye1 5)) (fun s6 => (nm (up_s s6 ye0 6 (s6 ye1 6)) (fun s7 => (zb (s7 ye1 7) (nm (up_s s7 ye0 7 (s7 ye1 7)) (fun s8 => (some (0, s8)))))))))))))))))))
theorem ok_Ye_copyFrom (ye0 : Nat) (ye1 : Nat) (hye0 : Kh[ye0]? = some (.inl 8)) (hye1 : Kh[ye1]? = some (.inl 8)) (σ : Sg) : MC l Kh Ph yX9_copyFrom cX9_copyFrom 2 2 1 [.inr (.inr ye0), .inr (.inr ye1)] σ (Ye_copyFrom ye0 ye1 σ) := by
  refine mc_of (by decide) (Nat.le_of_ble_eq_true rfl) ?_
  change G l Kh Ph RX9 cX9_copyFrom 2 2 1 0 [some (.inr (.inr ye0)), some (.inr (.inr ye1))] [] σ (Ye_copyFrom ye0 ye1 σ)
  unfold Ye_copyFrom
  refine g_aload_n dX9_copyFrom_0 rfl rfl ?_
  refine g_getr' (q := (ye1 + 1)) fl_RX9_11 hye1 (by decide) (qy0 hye1) dX9_copyFrom_1 ?_
  refine g_iconst dX9_copyFrom_4 (by decide) ?_
  refine g_aload_n dX9_copyFrom_5 rfl rfl ?_
  refine g_getr' (q := (ye0 + 1)) fl_RX9_11 hye0 (by decide) (qy0 hye0) dX9_copyFrom_6 ?_
  refine g_iconst dX9_copyFrom_9 (by decide) ?_
  refine g_bipush dX9_copyFrom_10 (by decide) ?_
  refine g_copyi cy_RX9_38 (ky0 hye1) (ky0 hye0) (Nat.le_of_ble_eq_true rfl) (Nat.le_of_ble_eq_true rfl) dX9_copyFrom_12 ?_
  intro s1
  refine g_aload_n dX9_copyFrom_15 rfl rfl ?_
  refine g_getr' (q := (ye1 + 2)) fl_RX9_15 hye1 (by decide) (qy1 hye1) dX9_copyFrom_16 ?_
  refine g_iconst dX9_copyFrom_19 (by decide) ?_
  refine g_aload_n dX9_copyFrom_20 rfl rfl ?_
  refine g_getr' (q := (ye0 + 2)) fl_RX9_15 hye0 (by decide) (qy1 hye0) dX9_copyFrom_21 ?_
  refine g_iconst dX9_copyFrom_24 (by decide) ?_
  refine g_bipush dX9_copyFrom_25 (by decide) ?_
  refine g_copyi cy_RX9_38 (ky1 hye1) (ky1 hye0) (Nat.le_of_ble_eq_true rfl) (Nat.le_of_ble_eq_true rfl) dX9_copyFrom_27 ?_
  intro s2
  refine g_aload_n dX9_copyFrom_30 rfl rfl ?_
  refine g_getr' (q := (ye1 + 3)) fl_RX9_18 hye1 (by decide) (qy2 hye1) dX9_copyFrom_31 ?_
  refine g_iconst dX9_copyFrom_34 (by decide) ?_
  refine g_aload_n dX9_copyFrom_35 rfl rfl ?_
  refine g_getr' (q := (ye0 + 3)) fl_RX9_18 hye0 (by decide) (qy2 hye0) dX9_copyFrom_36 ?_
  refine g_iconst dX9_copyFrom_39 (by decide) ?_
  refine g_bipush dX9_copyFrom_40 (by decide) ?_
  refine g_copyi cy_RX9_38 (ky2 hye1) (ky2 hye0) (Nat.le_of_ble_eq_true rfl) (Nat.le_of_ble_eq_true rfl) dX9_copyFrom_42 ?_
  intro s3
  refine g_aload_n dX9_copyFrom_45 rfl rfl ?_
  refine g_getr' (q := (ye1 + 4)) fl_RX9_21 hye1 (by decide) (qy3 hye1) dX9_copyFrom_46 ?_
  refine g_iconst dX9_copyFrom_49 (by decide) ?_
  refine g_aload_n dX9_copyFrom_50 rfl rfl ?_
  refine g_getr' (q := (ye0 + 4)) fl_RX9_21 hye0 (by decide) (qy3 hye0) dX9_copyFrom_51 ?_
  refine g_iconst dX9_copyFrom_54 (by decide) ?_
  refine g_bipush dX9_copyFrom_55 (by decide) ?_
  refine g_copyi cy_RX9_38 (ky3 hye1) (ky3 hye0) (Nat.le_of_ble_eq_true rfl) (Nat.le_of_ble_eq_true rfl) dX9_copyFrom_57 ?_
  intro s4
  refine g_aload_n dX9_copyFrom_60 rfl rfl ?_
  refine g_getr' (q := (ye1 + 5)) fl_RX9_24 hye1 (by decide) (qy4 hye1) dX9_copyFrom_61 ?_
  refine g_iconst dX9_copyFrom_64 (by decide) ?_
  refine g_aload_n dX9_copyFrom_65 rfl rfl ?_
  refine g_getr' (q := (ye0 + 5)) fl_RX9_24 hye0 (by decide) (qy4 hye0) dX9_copyFrom_66 ?_
  refine g_iconst dX9_copyFrom_69 (by decide) ?_
  refine g_bipush dX9_copyFrom_70 (by decide) ?_
  refine g_copyi cy_RX9_38 (ky4 hye1) (ky4 hye0) (Nat.le_of_ble_eq_true rfl) (Nat.le_of_ble_eq_true rfl) dX9_copyFrom_72 ?_
  intro s5
  refine g_aload_n dX9_copyFrom_75 rfl rfl ?_
  refine g_aload_n dX9_copyFrom_76 rfl rfl ?_
  refine g_geti fl_RX9_27 hye1 (by decide) dX9_copyFrom_77 ?_
  refine g_puti fl_RX9_27 hye0 (by decide) dX9_copyFrom_80 ?_
  intro s6
  refine g_aload_n dX9_copyFrom_83 rfl rfl ?_
  refine g_aload_n dX9_copyFrom_84 rfl rfl ?_
  refine g_geti fl_RX9_31 hye1 (by decide) dX9_copyFrom_85 ?_
  refine g_puti fl_RX9_31 hye0 (by decide) dX9_copyFrom_88 ?_
  intro s7
  refine g_aload_n dX9_copyFrom_91 rfl rfl ?_
  refine g_aload_n dX9_copyFrom_92 rfl rfl ?_
  refine g_getz fl_RX9_34 hye1 (by decide) dX9_copyFrom_93 ?_
  refine g_putz fl_RX9_34 hye0 (by decide) dX9_copyFrom_96 ?_
  intro s8
  exact g_vret dX9_copyFrom_99
theorem dX11_back_0 : decode cX11_back 0 = .ok (.aload_n 0, 1) := by decide +kernel
theorem dX11_back_1 : decode cX11_back 1 = .ok (.getfield 451, 3) := by decide +kernel
theorem dX11_back_4 : decode cX11_back 4 = .ok (.ifCond .gt 10, 3) := by decide +kernel
theorem dX11_back_7 : decode cX11_back 7 = .ok (.aload_n 0, 1) := by decide +kernel
theorem dX11_back_8 : decode cX11_back 8 = .ok (.bipush 8, 2) := by decide +kernel
theorem dX11_back_10 : decode cX11_back 10 = .ok (.invokevirtual 147, 3) := by decide +kernel
theorem dX11_back_13 : decode cX11_back 13 = .ok (.ireturn, 1) := by decide +kernel
theorem dX11_back_14 : decode cX11_back 14 = .ok (.aload_n 0, 1) := by decide +kernel
theorem dX11_back_15 : decode cX11_back 15 = .ok (.dup, 1) := by decide +kernel
theorem dX11_back_16 : decode cX11_back 16 = .ok (.getfield 451, 3) := by decide +kernel
theorem dX11_back_19 : decode cX11_back 19 = .ok (.iconst 1, 1) := by decide +kernel
theorem dX11_back_20 : decode cX11_back 20 = .ok (.isub, 1) := by decide +kernel
theorem dX11_back_21 : decode cX11_back 21 = .ok (.putfield 451, 3) := by decide +kernel
theorem dX11_back_24 : decode cX11_back 24 = .ok (.aload_n 0, 1) := by decide +kernel
theorem dX11_back_25 : decode cX11_back 25 = .ok (.getfield 43, 3) := by decide +kernel
theorem dX11_back_28 : decode cX11_back 28 = .ok (.aload_n 0, 1) := by decide +kernel
theorem dX11_back_29 : decode cX11_back 29 = .ok (.getfield 60, 3) := by decide +kernel
theorem dX11_back_32 : decode cX11_back 32 = .ok (.aload_n 0, 1) := by decide +kernel
theorem dX11_back_33 : decode cX11_back 33 = .ok (.getfield 451, 3) := by decide +kernel
theorem dX11_back_36 : decode cX11_back 36 = .ok (.aaload, 1) := by decide +kernel
theorem dX11_back_37 : decode cX11_back 37 = .ok (.invokevirtual 184, 3) := by decide +kernel
theorem dX11_back_40 : decode cX11_back 40 = .ok (.aload_n 0, 1) := by decide +kernel
theorem dX11_back_41 : decode cX11_back 41 = .ok (.getfield 53, 3) := by decide +kernel
theorem dX11_back_44 : decode cX11_back 44 = .ok (.aload_n 0, 1) := by decide +kernel
theorem dX11_back_45 : decode cX11_back 45 = .ok (.getfield 64, 3) := by decide +kernel
theorem dX11_back_48 : decode cX11_back 48 = .ok (.aload_n 0, 1) := by decide +kernel
theorem dX11_back_49 : decode cX11_back 49 = .ok (.getfield 451, 3) := by decide +kernel
theorem dX11_back_52 : decode cX11_back 52 = .ok (.aaload, 1) := by decide +kernel
theorem dX11_back_53 : decode cX11_back 53 = .ok (.invokevirtual 207, 3) := by decide +kernel
theorem dX11_back_56 : decode cX11_back 56 = .ok (.aload_n 0, 1) := by decide +kernel
theorem dX11_back_57 : decode cX11_back 57 = .ok (.aload_n 0, 1) := by decide +kernel
theorem dX11_back_58 : decode cX11_back 58 = .ok (.getfield 451, 3) := by decide +kernel
theorem dX11_back_61 : decode cX11_back 61 = .ok (.invokevirtual 194, 3) := by decide +kernel
theorem dX11_back_64 : decode cX11_back 64 = .ok (.ireturn, 1) := by decide +kernel
theorem mw_X11_back : MW yX11_back cX11_back 1 0 0 false := ⟨tm 1563 (by decide +kernel) rfl, tm 237 (by decide +kernel) rfl, by decide, by decide, (by rw [if_neg (by decide)]; exact ⟨tm 1561 (by decide +kernel) rfl, tm 1562 (by decide +kernel) rfl⟩)⟩
theorem lk_RX11_184 : LK RX11 184 yX4_copyFrom := Or.inr ⟨"HairProvince", tm 956 (by decide +kernel) rfl⟩
theorem lk_RX11_207 : LK RX11 207 yX9_copyFrom := Or.inr ⟨"HairProvince", tm 1040 (by decide +kernel) rfl⟩
theorem fl_RX11_53 : FL RX11 53 9 10 := ⟨_, _, _, _, cw_9, by decide, Or.inr (Or.inr (Or.inr (by decide))), Or.inl (by decide), Or.inl (tm 578 (by decide +kernel) rfl)⟩
theorem fl_RX11_60 : FL RX11 60 9 12 := ⟨_, _, _, _, cw_9, by decide, Or.inr (Or.inr (Or.inr (by decide))), Or.inl (by decide), Or.inl (tm 580 (by decide +kernel) rfl)⟩
theorem fl_RX11_64 : FL RX11 64 9 13 := ⟨_, _, _, _, cw_9, by decide, Or.inr (Or.inr (Or.inr (by decide))), Or.inl (by decide), Or.inl (tm 581 (by decide +kernel) rfl)⟩
theorem fl_RX11_451 : FL RX11 451 9 5 := ⟨_, _, _, _, cw_9, by decide, Or.inl (by decide), Or.inr (by decide), Or.inl (tm 573 (by decide +kernel) rfl)⟩
def H_back  (σ : Sg) : Rs := (if 0 < (σ 0 5) then (nm (up_s σ 0 5 (w32 ((σ 0 5) - 1))) (fun s1 => (rd 3 (s1 0 5) 0 (fun x2 => (bd (Pr_copyFrom 8 (Ph 42 (Int.toNat (s1 0 5))) s1) (fun r4 s5 => (rd 3 (s5 0 5) 0 (fun x6 => (bd (Ye_copyFrom 30 (Ph 43 (Int.toNat (s5 0 5))) s5) (fun r8 s9 => (bd (H_give (s9 0 5) s9) (fun r10 s11 => (some (r10, s11)))))))))))))) else (bd (H_fail 8 σ) (fun r12 s13 => (some (r12, s13)))))
theorem ok_H_back (σ : Sg) : MC l Kh Ph yX11_back cX11_back 1 0 2 [.inr (.inr 0)] σ (H_back σ) := by
  refine mc_of (by decide) (Nat.le_of_ble_eq_true rfl) ?_
  change G l Kh Ph RX11 cX11_back 1 0 2 0 [some (.inr (.inr 0))] [] σ (H_back  σ)
  unfold H_back
  refine g_aload_n dX11_back_0 rfl rfl ?_
  refine g_geti fl_RX11_451 kh_0 (by decide) dX11_back_1 ?_
  refine g_ifgt (tgt := 14) dX11_back_4 (by decide) ?_ ?_
  · refine g_aload_n dX11_back_14 rfl rfl ?_
    refine g_dup dX11_back_15 rfl ?_
    refine g_geti fl_RX11_451 kh_0 (by decide) dX11_back_16 ?_
    refine g_iconst dX11_back_19 (by decide) ?_
    refine g_isub dX11_back_20 ?_
    refine g_puti fl_RX11_451 kh_0 (by decide) dX11_back_21 ?_
    intro s1
    refine g_aload_n dX11_back_24 rfl rfl ?_
    refine g_getr' (q := 8) fl_RX11_43 kh_0 (by decide) rfl dX11_back_25 ?_
    refine g_aload_n dX11_back_28 rfl rfl ?_
    refine g_getr' (q := 42) fl_RX11_60 kh_0 (by decide) rfl dX11_back_29 ?_
    refine g_aload_n dX11_back_32 rfl rfl ?_
    refine g_geti fl_RX11_451 kh_0 (by decide) dX11_back_33 ?_
    refine g_aald kh_42 (by decide) dX11_back_36 ?_
    intro hq3
    refine g_callv2 (st := []) 4 mw_X4_copyFrom lk_RX11_184 rfl kh_8 (ok_Pr_copyFrom 8 (Ph 42 (Int.toNat (s1 0 5))) kh_8 (kq4 hq3) s1) (Nat.le_of_ble_eq_true rfl) rfl rfl (Nat.le_of_ble_eq_true rfl) dX11_back_37 ?_
    intro r4 s5
    refine g_aload_n dX11_back_40 rfl rfl ?_
    refine g_getr' (q := 30) fl_RX11_53 kh_0 (by decide) rfl dX11_back_41 ?_
    refine g_aload_n dX11_back_44 rfl rfl ?_
    refine g_getr' (q := 43) fl_RX11_64 kh_0 (by decide) rfl dX11_back_45 ?_
    refine g_aload_n dX11_back_48 rfl rfl ?_
    refine g_geti fl_RX11_451 kh_0 (by decide) dX11_back_49 ?_
    refine g_aald kh_43 (by decide) dX11_back_52 ?_
    intro hq7
    refine g_callv2 (st := []) 8 mw_X9_copyFrom lk_RX11_207 rfl kh_30 (ok_Ye_copyFrom 30 (Ph 43 (Int.toNat (s5 0 5))) kh_30 (kq5 hq7) s5) (Nat.le_of_ble_eq_true rfl) rfl rfl (Nat.le_of_ble_eq_true rfl) dX11_back_53 ?_
    intro r8 s9
    refine g_aload_n dX11_back_56 rfl rfl ?_
    refine g_aload_n dX11_back_57 rfl rfl ?_
    refine g_geti fl_RX11_451 kh_0 (by decide) dX11_back_58 ?_
    refine g_callv0 (st := []) 9 mw_X11_give lk_RX11_194 rfl kh_0 (ok_H_give (s9 0 5) s9) (Nat.le_of_ble_eq_true rfl) rfl rfl (Nat.le_of_ble_eq_true rfl) dX11_back_61 ?_
    intro r10 s11
    exact g_iret dX11_back_64
  · refine g_aload_n dX11_back_7 rfl rfl ?_
    refine g_bipush dX11_back_8 (by decide) ?_
    refine g_callv0 (st := []) 9 mw_X11_fail lk_RX11_147 rfl kh_0 (ok_H_fail 8 σ) (Nat.le_of_ble_eq_true rfl) rfl rfl (Nat.le_of_ble_eq_true rfl) dX11_back_10 ?_
    intro r12 s13
    exact g_iret dX11_back_13
theorem dX11_bottom_0 : decode cX11_bottom 0 = .ok (.aload_n 0, 1) := by decide +kernel
theorem dX11_bottom_1 : decode cX11_bottom 1 = .ok (.getfield 17, 3) := by decide +kernel
theorem dX11_bottom_4 : decode cX11_bottom 4 = .ok (.lreturn, 1) := by decide +kernel
theorem mw_X11_bottom : MW yX11_bottom cX11_bottom 1 1 0 false := ⟨tm 640 (by decide +kernel) rfl, tm 237 (by decide +kernel) rfl, by decide, by decide, (by rw [if_neg (by decide)]; exact ⟨tm 638 (by decide +kernel) rfl, tm 639 (by decide +kernel) rfl⟩)⟩
theorem fl_RX11_17 : FL RX11 17 9 2 := ⟨_, _, _, _, cw_9, by decide, Or.inr (Or.inl (by decide)), Or.inr (by decide), Or.inl (tm 570 (by decide +kernel) rfl)⟩
def H_bottom  (σ : Sg) : Rs := (some ((σ 0 2), σ))
theorem ok_H_bottom (σ : Sg) : MC l Kh Ph yX11_bottom cX11_bottom 1 1 1 [.inr (.inr 0)] σ (H_bottom σ) := by
  refine mc_of (by decide) (Nat.le_of_ble_eq_true rfl) ?_
  change G l Kh Ph RX11 cX11_bottom 1 1 1 0 [some (.inr (.inr 0))] [] σ (H_bottom  σ)
  unfold H_bottom
  refine g_aload_n dX11_bottom_0 rfl rfl ?_
  refine g_getl fl_RX11_17 kh_0 (by decide) dX11_bottom_1 ?_
  exact g_lret dX11_bottom_4
theorem dX11_cancel_0 : decode cX11_cancel 0 = .ok (.aload_n 0, 1) := by decide +kernel
theorem dX11_cancel_1 : decode cX11_cancel 1 = .ok (.getfield 43, 3) := by decide +kernel
theorem dX11_cancel_4 : decode cX11_cancel 4 = .ok (.getfield 220, 3) := by decide +kernel
theorem dX11_cancel_7 : decode cX11_cancel 7 = .ok (.ifCond .gt 10, 3) := by decide +kernel
theorem dX11_cancel_10 : decode cX11_cancel 10 = .ok (.aload_n 0, 1) := by decide +kernel
theorem dX11_cancel_11 : decode cX11_cancel 11 = .ok (.bipush 8, 2) := by decide +kernel
theorem dX11_cancel_13 : decode cX11_cancel 13 = .ok (.invokevirtual 147, 3) := by decide +kernel
theorem dX11_cancel_16 : decode cX11_cancel 16 = .ok (.ireturn, 1) := by decide +kernel
theorem dX11_cancel_17 : decode cX11_cancel 17 = .ok (.aload_n 0, 1) := by decide +kernel
theorem dX11_cancel_18 : decode cX11_cancel 18 = .ok (.getfield 43, 3) := by decide +kernel
theorem dX11_cancel_21 : decode cX11_cancel 21 = .ok (.dup, 1) := by decide +kernel
theorem dX11_cancel_22 : decode cX11_cancel 22 = .ok (.getfield 220, 3) := by decide +kernel
theorem dX11_cancel_25 : decode cX11_cancel 25 = .ok (.iconst 1, 1) := by decide +kernel
theorem dX11_cancel_26 : decode cX11_cancel 26 = .ok (.isub, 1) := by decide +kernel
theorem dX11_cancel_27 : decode cX11_cancel 27 = .ok (.putfield 220, 3) := by decide +kernel
theorem dX11_cancel_30 : decode cX11_cancel 30 = .ok (.aload_n 0, 1) := by decide +kernel
theorem dX11_cancel_31 : decode cX11_cancel 31 = .ok (.aload_n 0, 1) := by decide +kernel
theorem dX11_cancel_32 : decode cX11_cancel 32 = .ok (.getfield 43, 3) := by decide +kernel
theorem dX11_cancel_35 : decode cX11_cancel 35 = .ok (.getfield 220, 3) := by decide +kernel
theorem dX11_cancel_38 : decode cX11_cancel 38 = .ok (.invokevirtual 194, 3) := by decide +kernel
theorem dX11_cancel_41 : decode cX11_cancel 41 = .ok (.ireturn, 1) := by decide +kernel
theorem mw_X11_cancel : MW yX11_cancel cX11_cancel 1 0 0 false := ⟨tm 1225 (by decide +kernel) rfl, tm 237 (by decide +kernel) rfl, by decide, by decide, (by rw [if_neg (by decide)]; exact ⟨tm 1223 (by decide +kernel) rfl, tm 1224 (by decide +kernel) rfl⟩)⟩
theorem fl_RX11_220 : FL RX11 220 4 12 := ⟨_, _, _, _, cw_4, by decide, Or.inl (by decide), Or.inr (by decide), Or.inr ⟨"HairProvince", tm 378 (by decide +kernel) rfl⟩⟩
def H_cancel  (σ : Sg) : Rs := (if 0 < (σ 8 12) then (nm (up_s σ 8 12 (w32 ((σ 8 12) - 1))) (fun s1 => (bd (H_give (s1 8 12) s1) (fun r2 s3 => (some (r2, s3)))))) else (bd (H_fail 8 σ) (fun r4 s5 => (some (r4, s5)))))
theorem ok_H_cancel (σ : Sg) : MC l Kh Ph yX11_cancel cX11_cancel 1 0 2 [.inr (.inr 0)] σ (H_cancel σ) := by
  refine mc_of (by decide) (Nat.le_of_ble_eq_true rfl) ?_
  change G l Kh Ph RX11 cX11_cancel 1 0 2 0 [some (.inr (.inr 0))] [] σ (H_cancel  σ)
  unfold H_cancel
  refine g_aload_n dX11_cancel_0 rfl rfl ?_
  refine g_getr' (q := 8) fl_RX11_43 kh_0 (by decide) rfl dX11_cancel_1 ?_
  refine g_geti fl_RX11_220 kh_8 (by decide) dX11_cancel_4 ?_
  refine g_ifgt (tgt := 17) dX11_cancel_7 (by decide) ?_ ?_
  · refine g_aload_n dX11_cancel_17 rfl rfl ?_
    refine g_getr' (q := 8) fl_RX11_43 kh_0 (by decide) rfl dX11_cancel_18 ?_
    refine g_dup dX11_cancel_21 rfl ?_
    refine g_geti fl_RX11_220 kh_8 (by decide) dX11_cancel_22 ?_
    refine g_iconst dX11_cancel_25 (by decide) ?_
    refine g_isub dX11_cancel_26 ?_
    refine g_puti fl_RX11_220 kh_8 (by decide) dX11_cancel_27 ?_
    intro s1
    refine g_aload_n dX11_cancel_30 rfl rfl ?_
    refine g_aload_n dX11_cancel_31 rfl rfl ?_
    refine g_getr' (q := 8) fl_RX11_43 kh_0 (by decide) rfl dX11_cancel_32 ?_
    refine g_geti fl_RX11_220 kh_8 (by decide) dX11_cancel_35 ?_
    refine g_callv0 (st := []) 9 mw_X11_give lk_RX11_194 rfl kh_0 (ok_H_give (s1 8 12) s1) (Nat.le_of_ble_eq_true rfl) rfl rfl (Nat.le_of_ble_eq_true rfl) dX11_cancel_38 ?_
    intro r2 s3
    exact g_iret dX11_cancel_41
  · refine g_aload_n dX11_cancel_10 rfl rfl ?_
    refine g_bipush dX11_cancel_11 (by decide) ?_
    refine g_callv0 (st := []) 9 mw_X11_fail lk_RX11_147 rfl kh_0 (ok_H_fail 8 σ) (Nat.le_of_ble_eq_true rfl) rfl rfl (Nat.le_of_ble_eq_true rfl) dX11_cancel_13 ?_
    intro r4 s5
    exact g_iret dX11_cancel_16
theorem dX11_closeText_0 : decode cX11_closeText 0 = .ok (.aload_n 0, 1) := by decide +kernel
theorem dX11_closeText_1 : decode cX11_closeText 1 = .ok (.getfield 36, 3) := by decide +kernel
theorem dX11_closeText_4 : decode cX11_closeText 4 = .ok (.iconst 0, 1) := by decide +kernel
theorem dX11_closeText_5 : decode cX11_closeText 5 = .ok (.putfield 164, 3) := by decide +kernel
theorem dX11_closeText_8 : decode cX11_closeText 8 = .ok (.aload_n 0, 1) := by decide +kernel
theorem dX11_closeText_9 : decode cX11_closeText 9 = .ok (.iload_n 1, 1) := by decide +kernel
theorem dX11_closeText_10 : decode cX11_closeText 10 = .ok (.ifCond .eq 7, 3) := by decide +kernel
theorem dX11_closeText_13 : decode cX11_closeText 13 = .ok (.iconst 0, 1) := by decide +kernel
theorem dX11_closeText_14 : decode cX11_closeText 14 = .ok (.goto 10, 3) := by decide +kernel
theorem dX11_closeText_17 : decode cX11_closeText 17 = .ok (.aload_n 0, 1) := by decide +kernel
theorem dX11_closeText_18 : decode cX11_closeText 18 = .ok (.getfield 36, 3) := by decide +kernel
theorem dX11_closeText_21 : decode cX11_closeText 21 = .ok (.getfield 213, 3) := by decide +kernel
theorem dX11_closeText_24 : decode cX11_closeText 24 = .ok (.putfield 20, 3) := by decide +kernel
theorem dX11_closeText_27 : decode cX11_closeText 27 = .ok (.aload_n 0, 1) := by decide +kernel
theorem dX11_closeText_28 : decode cX11_closeText 28 = .ok (.iload_n 1, 1) := by decide +kernel
theorem dX11_closeText_29 : decode cX11_closeText 29 = .ok (.ifCond .eq 7, 3) := by decide +kernel
theorem dX11_closeText_32 : decode cX11_closeText 32 = .ok (.iconst (-1), 1) := by decide +kernel
theorem dX11_closeText_33 : decode cX11_closeText 33 = .ok (.goto 10, 3) := by decide +kernel
theorem dX11_closeText_36 : decode cX11_closeText 36 = .ok (.aload_n 0, 1) := by decide +kernel
theorem dX11_closeText_37 : decode cX11_closeText 37 = .ok (.getfield 36, 3) := by decide +kernel
theorem dX11_closeText_40 : decode cX11_closeText 40 = .ok (.getfield 216, 3) := by decide +kernel
theorem dX11_closeText_43 : decode cX11_closeText 43 = .ok (.putfield 23, 3) := by decide +kernel
theorem dX11_closeText_46 : decode cX11_closeText 46 = .ok (.return_, 1) := by decide +kernel
theorem mw_X11_closeText : MW yX11_closeText cX11_closeText 2 2 1 false := ⟨tm 955 (by decide +kernel) rfl, tm 237 (by decide +kernel) rfl, by decide, by decide, (by rw [if_neg (by decide)]; exact ⟨tm 954 (by decide +kernel) rfl, tm 44 (by decide +kernel) rfl⟩)⟩
theorem fl_RX11_20 : FL RX11 20 9 3 := ⟨_, _, _, _, cw_9, by decide, Or.inl (by decide), Or.inr (by decide), Or.inl (tm 571 (by decide +kernel) rfl)⟩
theorem fl_RX11_23 : FL RX11 23 9 4 := ⟨_, _, _, _, cw_9, by decide, Or.inl (by decide), Or.inr (by decide), Or.inl (tm 572 (by decide +kernel) rfl)⟩
theorem fl_RX11_36 : FL RX11 36 9 7 := ⟨_, _, _, _, cw_9, by decide, Or.inr (Or.inr (Or.inr (by decide))), Or.inl (by decide), Or.inl (tm 575 (by decide +kernel) rfl)⟩
theorem fl_RX11_164 : FL RX11 164 6 1 := ⟨_, _, _, _, cw_6, by decide, Or.inl (by decide), Or.inr (by decide), Or.inr ⟨"HairProvince", tm 291 (by decide +kernel) rfl⟩⟩
theorem fl_RX11_213 : FL RX11 213 6 11 := ⟨_, _, _, _, cw_6, by decide, Or.inl (by decide), Or.inr (by decide), Or.inr ⟨"HairProvince", tm 304 (by decide +kernel) rfl⟩⟩
theorem fl_RX11_216 : FL RX11 216 6 12 := ⟨_, _, _, _, cw_6, by decide, Or.inl (by decide), Or.inr (by decide), Or.inr ⟨"HairProvince", tm 306 (by decide +kernel) rfl⟩⟩
def H_closeText_J24 (a1 : Int) (t1 : Int) (σ : Sg) : Rs := (nm (up_s σ 0 3 t1) (fun s2 => (if a1 = 0 then (nm (up_s s2 0 4 (s2 5 12)) (fun s3 => (some (0, s3)))) else (nm (up_s s2 0 4 (-1)) (fun s4 => (some (0, s4)))))))
theorem ok_H_closeText_J24 (a1 : Int) : ∀ (t1 : Int) (σ : Sg), G l Kh Ph RX11 cX11_closeText 2 2 1 24 [some (.inr (.inr 0)), some (.inl a1)] [.inl t1, .inr (.inr 0)] σ (H_closeText_J24 a1 t1 σ) := by
  intro t1 σ
  unfold H_closeText_J24
  refine g_puti fl_RX11_20 kh_0 (by decide) dX11_closeText_24 ?_
  intro s2
  refine g_aload_n dX11_closeText_27 rfl rfl ?_
  refine g_iload_n dX11_closeText_28 rfl rfl ?_
  refine g_ifeq (tgt := 36) dX11_closeText_29 (by decide) ?_ ?_
  · refine g_aload_n dX11_closeText_36 rfl rfl ?_
    refine g_getr' (q := 5) fl_RX11_36 kh_0 (by decide) rfl dX11_closeText_37 ?_
    refine g_geti fl_RX11_216 kh_5 (by decide) dX11_closeText_40 ?_
    refine g_puti fl_RX11_23 kh_0 (by decide) dX11_closeText_43 ?_
    intro s3
    exact g_vret dX11_closeText_46
  · refine g_iconst dX11_closeText_32 (by decide) ?_
    refine g_goto (tgt := 43) dX11_closeText_33 (by decide) ?_
    refine g_puti fl_RX11_23 kh_0 (by decide) dX11_closeText_43 ?_
    intro s4
    exact g_vret dX11_closeText_46
def H_closeText (a1 : Int) (σ : Sg) : Rs := (nm (up_s σ 5 1 0) (fun s1 => (if a1 = 0 then (H_closeText_J24 a1 (s1 5 11) s1) else (H_closeText_J24 a1 0 s1))))
theorem ok_H_closeText (a1 : Int) (σ : Sg) : MC l Kh Ph yX11_closeText cX11_closeText 2 2 1 [.inr (.inr 0), .inl a1] σ (H_closeText a1 σ) := by
  refine mc_of (by decide) (Nat.le_of_ble_eq_true rfl) ?_
  change G l Kh Ph RX11 cX11_closeText 2 2 1 0 [some (.inr (.inr 0)), some (.inl a1)] [] σ (H_closeText a1 σ)
  unfold H_closeText
  refine g_aload_n dX11_closeText_0 rfl rfl ?_
  refine g_getr' (q := 5) fl_RX11_36 kh_0 (by decide) rfl dX11_closeText_1 ?_
  refine g_iconst dX11_closeText_4 (by decide) ?_
  refine g_puti fl_RX11_164 kh_5 (by decide) dX11_closeText_5 ?_
  intro s1
  refine g_aload_n dX11_closeText_8 rfl rfl ?_
  refine g_iload_n dX11_closeText_9 rfl rfl ?_
  refine g_ifeq (tgt := 17) dX11_closeText_10 (by decide) ?_ ?_
  · refine g_aload_n dX11_closeText_17 rfl rfl ?_
    refine g_getr' (q := 5) fl_RX11_36 kh_0 (by decide) rfl dX11_closeText_18 ?_
    refine g_geti fl_RX11_213 kh_5 (by decide) dX11_closeText_21 ?_
    refine (ok_H_closeText_J24 a1 (s1 5 11) s1)
  · refine g_iconst dX11_closeText_13 (by decide) ?_
    refine g_goto (tgt := 24) dX11_closeText_14 (by decide) ?_
    refine (ok_H_closeText_J24 a1 0 s1)
theorem dX4_hairOf_0 : decode cX4_hairOf 0 = .ok (.iload_n 1, 1) := by decide +kernel
theorem dX4_hairOf_1 : decode cX4_hairOf 1 = .ok (.ifCond .lt 9, 3) := by decide +kernel
theorem dX4_hairOf_4 : decode cX4_hairOf 4 = .ok (.iload_n 1, 1) := by decide +kernel
theorem dX4_hairOf_5 : decode cX4_hairOf 5 = .ok (.bipush 6, 2) := by decide +kernel
theorem dX4_hairOf_7 : decode cX4_hairOf 7 = .ok (.if_icmp .lt 5, 3) := by decide +kernel
theorem dX4_hairOf_10 : decode cX4_hairOf 10 = .ok (.iconst 0, 1) := by decide +kernel
theorem dX4_hairOf_11 : decode cX4_hairOf 11 = .ok (.ireturn, 1) := by decide +kernel
theorem dX4_hairOf_12 : decode cX4_hairOf 12 = .ok (.iconst 0, 1) := by decide +kernel
theorem dX4_hairOf_13 : decode cX4_hairOf 13 = .ok (.istore_n 2, 1) := by decide +kernel
theorem dX4_hairOf_14 : decode cX4_hairOf 14 = .ok (.iconst 0, 1) := by decide +kernel
theorem dX4_hairOf_15 : decode cX4_hairOf 15 = .ok (.istore_n 3, 1) := by decide +kernel
theorem dX4_hairOf_16 : decode cX4_hairOf 16 = .ok (.iload_n 3, 1) := by decide +kernel
theorem dX4_hairOf_17 : decode cX4_hairOf 17 = .ok (.aload_n 0, 1) := by decide +kernel
theorem dX4_hairOf_18 : decode cX4_hairOf 18 = .ok (.getfield 50, 3) := by decide +kernel
theorem dX4_hairOf_21 : decode cX4_hairOf 21 = .ok (.if_icmp .ge 47, 3) := by decide +kernel
theorem dX4_hairOf_24 : decode cX4_hairOf 24 = .ok (.iload_n 3, 1) := by decide +kernel
theorem dX4_hairOf_25 : decode cX4_hairOf 25 = .ok (.bipush 8, 2) := by decide +kernel
theorem dX4_hairOf_27 : decode cX4_hairOf 27 = .ok (.if_icmp .ge 41, 3) := by decide +kernel
theorem dX4_hairOf_30 : decode cX4_hairOf 30 = .ok (.iload_n 2, 1) := by decide +kernel
theorem dX4_hairOf_31 : decode cX4_hairOf 31 = .ok (.aload_n 0, 1) := by decide +kernel
theorem dX4_hairOf_32 : decode cX4_hairOf 32 = .ok (.getfield 31, 3) := by decide +kernel
theorem dX4_hairOf_35 : decode cX4_hairOf 35 = .ok (.iload_n 1, 1) := by decide +kernel
theorem dX4_hairOf_36 : decode cX4_hairOf 36 = .ok (.iaload, 1) := by decide +kernel
theorem dX4_hairOf_37 : decode cX4_hairOf 37 = .ok (.iload_n 3, 1) := by decide +kernel
theorem dX4_hairOf_38 : decode cX4_hairOf 38 = .ok (.ishr, 1) := by decide +kernel
theorem dX4_hairOf_39 : decode cX4_hairOf 39 = .ok (.iconst 1, 1) := by decide +kernel
theorem dX4_hairOf_40 : decode cX4_hairOf 40 = .ok (.iand, 1) := by decide +kernel
theorem dX4_hairOf_41 : decode cX4_hairOf 41 = .ok (.iconst 1, 1) := by decide +kernel
theorem dX4_hairOf_42 : decode cX4_hairOf 42 = .ok (.if_icmp .ne 17, 3) := by decide +kernel
theorem dX4_hairOf_45 : decode cX4_hairOf 45 = .ok (.aload_n 0, 1) := by decide +kernel
theorem dX4_hairOf_46 : decode cX4_hairOf 46 = .ok (.getfield 34, 3) := by decide +kernel
theorem dX4_hairOf_49 : decode cX4_hairOf 49 = .ok (.iload_n 1, 1) := by decide +kernel
theorem dX4_hairOf_50 : decode cX4_hairOf 50 = .ok (.bipush 8, 2) := by decide +kernel
theorem dX4_hairOf_52 : decode cX4_hairOf 52 = .ok (.imul, 1) := by decide +kernel
theorem dX4_hairOf_53 : decode cX4_hairOf 53 = .ok (.iload_n 3, 1) := by decide +kernel
theorem dX4_hairOf_54 : decode cX4_hairOf 54 = .ok (.iadd, 1) := by decide +kernel
theorem dX4_hairOf_55 : decode cX4_hairOf 55 = .ok (.iaload, 1) := by decide +kernel
theorem dX4_hairOf_56 : decode cX4_hairOf 56 = .ok (.goto 4, 3) := by decide +kernel
theorem dX4_hairOf_59 : decode cX4_hairOf 59 = .ok (.iconst 0, 1) := by decide +kernel
theorem dX4_hairOf_60 : decode cX4_hairOf 60 = .ok (.iadd, 1) := by decide +kernel
theorem dX4_hairOf_61 : decode cX4_hairOf 61 = .ok (.istore_n 2, 1) := by decide +kernel
theorem dX4_hairOf_62 : decode cX4_hairOf 62 = .ok (.iinc 3 1, 3) := by decide +kernel
theorem dX4_hairOf_65 : decode cX4_hairOf 65 = .ok (.goto (-49), 3) := by decide +kernel
theorem dX4_hairOf_68 : decode cX4_hairOf 68 = .ok (.iload_n 2, 1) := by decide +kernel
theorem dX4_hairOf_69 : decode cX4_hairOf 69 = .ok (.ireturn, 1) := by decide +kernel
theorem mw_X4_hairOf : MW yX4_hairOf cX4_hairOf 4 0 1 false := ⟨tm 1060 (by decide +kernel) rfl, tm 240 (by decide +kernel) rfl, by decide, by decide, (by rw [if_neg (by decide)]; exact ⟨tm 1059 (by decide +kernel) rfl, tm 55 (by decide +kernel) rfl⟩)⟩
def Pr_hairOf_L16 (pr0 : Nat) (a1 : Int) : Nat → Int → Int → Sg → Rs
  | 0, _, _, _ => none
  | n + 1, v2, v3, σ => (if v3 < (σ pr0 10) then (if v3 < 8 then (rd 6 a1 (σ (pr0 + 7) (Int.toNat a1)) (fun x1 => (if (an32 (sr32 x1 v3) 1) = 1 then (rd 48 (w32 ((w32 (a1 * 8)) + v3)) (σ (pr0 + 8) (Int.toNat (w32 ((w32 (a1 * 8)) + v3)))) (fun x2 => (nm (w32 (v2 + x2)) (fun x3 => (nm (w32 (v3 + 1)) (fun x4 => (Pr_hairOf_L16 pr0 a1 n x3 x4 σ))))))) else (nm (w32 (v2 + 0)) (fun x5 => (nm (w32 (v3 + 1)) (fun x6 => (Pr_hairOf_L16 pr0 a1 n x5 x6 σ)))))))) else (some (v2, σ))) else (some (v2, σ)))
theorem ok_Pr_hairOf_L16 (pr0 : Nat) (a1 : Int) (hpr0 : Kh[pr0]? = some (.inl 4)) : ∀ (n : Nat) (v2 v3 : Int) (σ : Sg), G l Kh Ph RX4 cX4_hairOf 4 0 1 16 [some (.inr (.inr pr0)), some (.inl a1), some (.inl v2), some (.inl v3)] [] σ (Pr_hairOf_L16 pr0 a1 n v2 v3 σ) := by
  intro n
  induction n with
  | zero => intros; exact G.none_
  | succ n ih =>
    intro v2 v3 σ
    rw [Pr_hairOf_L16]
    refine g_iload_n dX4_hairOf_16 rfl rfl ?_
    refine g_aload_n dX4_hairOf_17 rfl rfl ?_
    refine g_geti fl_RX4_50 hpr0 (by decide) dX4_hairOf_18 ?_
    refine g_icmpge (tgt := 68) dX4_hairOf_21 (by decide) ?_ ?_
    · refine g_iload_n dX4_hairOf_24 rfl rfl ?_
      refine g_bipush dX4_hairOf_25 (by decide) ?_
      refine g_icmpge (tgt := 68) dX4_hairOf_27 (by decide) ?_ ?_
      · refine g_iload_n dX4_hairOf_30 rfl rfl ?_
        refine g_aload_n dX4_hairOf_31 rfl rfl ?_
        refine g_getr' (q := (pr0 + 7)) fl_RX4_31 hpr0 (by decide) (qp6 hpr0) dX4_hairOf_32 ?_
        refine g_iload_n dX4_hairOf_35 rfl rfl ?_
        refine g_iald (kp6 hpr0) dX4_hairOf_36 ?_
        intro x1
        refine g_iload_n dX4_hairOf_37 rfl rfl ?_
        refine g_ishr dX4_hairOf_38 ?_
        refine g_iconst dX4_hairOf_39 (by decide) ?_
        refine g_iand dX4_hairOf_40 ?_
        refine g_iconst dX4_hairOf_41 (by decide) ?_
        refine g_icmpne (tgt := 59) dX4_hairOf_42 (by decide) ?_ ?_
        · refine g_aload_n dX4_hairOf_45 rfl rfl ?_
          refine g_getr' (q := (pr0 + 8)) fl_RX4_34 hpr0 (by decide) (qp7 hpr0) dX4_hairOf_46 ?_
          refine g_iload_n dX4_hairOf_49 rfl rfl ?_
          refine g_bipush dX4_hairOf_50 (by decide) ?_
          refine g_imul dX4_hairOf_52 ?_
          refine g_iload_n dX4_hairOf_53 rfl rfl ?_
          refine g_iadd dX4_hairOf_54 ?_
          refine g_iald (kp7 hpr0) dX4_hairOf_55 ?_
          intro x2
          refine g_goto (tgt := 60) dX4_hairOf_56 (by decide) ?_
          refine g_iadd dX4_hairOf_60 ?_
          refine n_istore_n (fun x3 => [some (.inr (.inr pr0)), some (.inl a1), some (.inl x3), some (.inl v3)]) dX4_hairOf_61 rfl (Nat.le_of_ble_eq_true rfl) (fun _ => rfl) ?_
          intro x3
          refine n_iinc (fun x4 => [some (.inr (.inr pr0)), some (.inl a1), some (.inl x3), some (.inl x4)]) dX4_hairOf_62 rfl (Nat.le_of_ble_eq_true rfl) (fun _ => rfl) ?_
          intro x4
          refine g_goto (tgt := 16) dX4_hairOf_65 (by decide) ?_
          exact (ih x3 x4 σ)
        · refine g_iconst dX4_hairOf_59 (by decide) ?_
          refine g_iadd dX4_hairOf_60 ?_
          refine n_istore_n (fun x5 => [some (.inr (.inr pr0)), some (.inl a1), some (.inl x5), some (.inl v3)]) dX4_hairOf_61 rfl (Nat.le_of_ble_eq_true rfl) (fun _ => rfl) ?_
          intro x5
          refine n_iinc (fun x6 => [some (.inr (.inr pr0)), some (.inl a1), some (.inl x5), some (.inl x6)]) dX4_hairOf_62 rfl (Nat.le_of_ble_eq_true rfl) (fun _ => rfl) ?_
          intro x6
          refine g_goto (tgt := 16) dX4_hairOf_65 (by decide) ?_
          exact (ih x5 x6 σ)
      · refine g_iload_n dX4_hairOf_68 rfl rfl ?_
        exact g_iret dX4_hairOf_69
    · refine g_iload_n dX4_hairOf_68 rfl rfl ?_
      exact g_iret dX4_hairOf_69
def Pr_hairOf (pr0 : Nat) (a1 : Int) (σ : Sg) : Rs := (if a1 < 0 then (some (0, σ)) else (if a1 < 6 then (Pr_hairOf_L16 pr0 a1 fu 0 0 σ) else (some (0, σ))))
theorem ok_Pr_hairOf (pr0 : Nat) (a1 : Int) (hpr0 : Kh[pr0]? = some (.inl 4)) (σ : Sg) : MC l Kh Ph yX4_hairOf cX4_hairOf 4 0 1 [.inr (.inr pr0), .inl a1] σ (Pr_hairOf pr0 a1 σ) := by
  refine mc_of (by decide) (Nat.le_of_ble_eq_true rfl) ?_
  change G l Kh Ph RX4 cX4_hairOf 4 0 1 0 [some (.inr (.inr pr0)), some (.inl a1), none, none] [] σ (Pr_hairOf pr0 a1 σ)
  unfold Pr_hairOf
  refine g_iload_n dX4_hairOf_0 rfl rfl ?_
  refine g_iflt (tgt := 10) dX4_hairOf_1 (by decide) ?_ ?_
  · refine g_iconst dX4_hairOf_10 (by decide) ?_
    exact g_iret dX4_hairOf_11
  · refine g_iload_n dX4_hairOf_4 rfl rfl ?_
    refine g_bipush dX4_hairOf_5 (by decide) ?_
    refine g_icmplt (tgt := 12) dX4_hairOf_7 (by decide) ?_ ?_
    · refine g_iconst dX4_hairOf_12 (by decide) ?_
      refine g_istore_n (lv' := [some (.inr (.inr pr0)), some (.inl a1), some (.inl 0), none]) dX4_hairOf_13 rfl (Nat.le_of_ble_eq_true rfl) rfl ?_
      refine g_iconst dX4_hairOf_14 (by decide) ?_
      refine g_istore_n (lv' := [some (.inr (.inr pr0)), some (.inl a1), some (.inl 0), some (.inl 0)]) dX4_hairOf_15 rfl (Nat.le_of_ble_eq_true rfl) rfl ?_
      refine (ok_Pr_hairOf_L16 pr0 a1 hpr0 fu 0 0 σ)
    · refine g_iconst dX4_hairOf_10 (by decide) ?_
      exact g_iret dX4_hairOf_11
theorem dX8_cutTo_0 : decode cX8_cutTo 0 = .ok (.iload_n 0, 1) := by decide +kernel
theorem dX8_cutTo_1 : decode cX8_cutTo 1 = .ok (.tableswitch 41 0 2 #[27, 32, 37], 27) := by decide +kernel
theorem dX8_cutTo_28 : decode cX8_cutTo 28 = .ok (.lload_n 1, 1) := by decide +kernel
theorem dX8_cutTo_29 : decode cX8_cutTo 29 = .ok (.l2i, 1) := by decide +kernel
theorem dX8_cutTo_30 : decode cX8_cutTo 30 = .ok (.i2b, 1) := by decide +kernel
theorem dX8_cutTo_31 : decode cX8_cutTo 31 = .ok (.i2l, 1) := by decide +kernel
theorem dX8_cutTo_32 : decode cX8_cutTo 32 = .ok (.lreturn, 1) := by decide +kernel
theorem dX8_cutTo_33 : decode cX8_cutTo 33 = .ok (.lload_n 1, 1) := by decide +kernel
theorem dX8_cutTo_34 : decode cX8_cutTo 34 = .ok (.l2i, 1) := by decide +kernel
theorem dX8_cutTo_35 : decode cX8_cutTo 35 = .ok (.i2s, 1) := by decide +kernel
theorem dX8_cutTo_36 : decode cX8_cutTo 36 = .ok (.i2l, 1) := by decide +kernel
theorem dX8_cutTo_37 : decode cX8_cutTo 37 = .ok (.lreturn, 1) := by decide +kernel
theorem dX8_cutTo_38 : decode cX8_cutTo 38 = .ok (.lload_n 1, 1) := by decide +kernel
theorem dX8_cutTo_39 : decode cX8_cutTo 39 = .ok (.l2i, 1) := by decide +kernel
theorem dX8_cutTo_40 : decode cX8_cutTo 40 = .ok (.i2l, 1) := by decide +kernel
theorem dX8_cutTo_41 : decode cX8_cutTo 41 = .ok (.lreturn, 1) := by decide +kernel
theorem dX8_cutTo_42 : decode cX8_cutTo 42 = .ok (.lload_n 1, 1) := by decide +kernel
theorem dX8_cutTo_43 : decode cX8_cutTo 43 = .ok (.lreturn, 1) := by decide +kernel
theorem mw_X8_cutTo : MW yX8_cutTo cX8_cutTo 3 1 2 true := ⟨tm 700 (by decide +kernel) rfl, tm 238 (by decide +kernel) rfl, by decide, by decide, (by rw [if_pos rfl]; exact tm 699 (by decide +kernel) rfl)⟩
def Tr_cutTo (a0 : Int) (a1 : Int) (σ : Sg) : Rs := (sw a0 0 [(some ((b32 (w32 a1)), σ)), (some ((s32 (w32 a1)), σ)), (some ((w32 a1), σ))] (some (a1, σ)))
theorem ok_Tr_cutTo (a0 : Int) (a1 : Int) (σ : Sg) : MC l Kh Ph yX8_cutTo cX8_cutTo 3 1 1 [.inl a0, .inr (.inl a1)] σ (Tr_cutTo a0 a1 σ) := by
  refine mc_of (by decide) (Nat.le_of_ble_eq_true rfl) ?_
  change G l Kh Ph RX8 cX8_cutTo 3 1 1 0 [some (.inl a0), some (.inr (.inl a1)), none] [] σ (Tr_cutTo a0 a1 σ)
  unfold Tr_cutTo
  refine g_iload_n dX8_cutTo_0 rfl rfl ?_
  refine g_tsw (td := 42) [28, 33, 38] dX8_cutTo_1 (by decide) rfl (And.intro ?_ (And.intro ?_ (And.intro ?_ trivial))) ?_
  · refine g_lload_n dX8_cutTo_28 rfl rfl ?_
    refine g_l2i dX8_cutTo_29 ?_
    refine g_i2b dX8_cutTo_30 ?_
    refine g_i2l dX8_cutTo_31 ?_
    exact g_lret dX8_cutTo_32
  · refine g_lload_n dX8_cutTo_33 rfl rfl ?_
    refine g_l2i dX8_cutTo_34 ?_
    refine g_i2s dX8_cutTo_35 ?_
    refine g_i2l dX8_cutTo_36 ?_
    exact g_lret dX8_cutTo_37
  · refine g_lload_n dX8_cutTo_38 rfl rfl ?_
    refine g_l2i dX8_cutTo_39 ?_
    refine g_i2l dX8_cutTo_40 ?_
    exact g_lret dX8_cutTo_41
  · refine g_lload_n dX8_cutTo_42 rfl rfl ?_
    exact g_lret dX8_cutTo_43
theorem dX8_put_0 : decode cX8_put 0 = .ok (.aload_n 0, 1) := by decide +kernel
theorem dX8_put_1 : decode cX8_put 1 = .ok (.iload_n 1, 1) := by decide +kernel
theorem dX8_put_2 : decode cX8_put 2 = .ok (.iload_n 2, 1) := by decide +kernel
theorem dX8_put_3 : decode cX8_put 3 = .ok (.iconst 1, 1) := by decide +kernel
theorem dX8_put_4 : decode cX8_put 4 = .ok (.invokevirtual 30, 3) := by decide +kernel
theorem dX8_put_7 : decode cX8_put 7 = .ok (.ifCond .eq 24, 3) := by decide +kernel
theorem dX8_put_10 : decode cX8_put 10 = .ok (.aload_n 0, 1) := by decide +kernel
theorem dX8_put_11 : decode cX8_put 11 = .ok (.getfield 18, 3) := by decide +kernel
theorem dX8_put_14 : decode cX8_put 14 = .ok (.iload_n 1, 1) := by decide +kernel
theorem dX8_put_15 : decode cX8_put 15 = .ok (.bipush 60, 2) := by decide +kernel
theorem dX8_put_17 : decode cX8_put 17 = .ok (.imul, 1) := by decide +kernel
theorem dX8_put_18 : decode cX8_put 18 = .ok (.iload_n 2, 1) := by decide +kernel
theorem dX8_put_19 : decode cX8_put 19 = .ok (.iadd, 1) := by decide +kernel
theorem dX8_put_20 : decode cX8_put 20 = .ok (.aload_n 0, 1) := by decide +kernel
theorem dX8_put_21 : decode cX8_put 21 = .ok (.getfield 11, 3) := by decide +kernel
theorem dX8_put_24 : decode cX8_put 24 = .ok (.iload_n 1, 1) := by decide +kernel
theorem dX8_put_25 : decode cX8_put 25 = .ok (.iaload, 1) := by decide +kernel
theorem dX8_put_26 : decode cX8_put 26 = .ok (.lload_n 3, 1) := by decide +kernel
theorem dX8_put_27 : decode cX8_put 27 = .ok (.invokestatic 34, 3) := by decide +kernel
theorem dX8_put_30 : decode cX8_put 30 = .ok (.lastore, 1) := by decide +kernel
theorem dX8_put_31 : decode cX8_put 31 = .ok (.return_, 1) := by decide +kernel
theorem mw_X8_put : MW yX8_put cX8_put 5 2 3 false := ⟨tm 692 (by decide +kernel) rfl, tm 238 (by decide +kernel) rfl, by decide, by decide, (by rw [if_neg (by decide)]; exact ⟨tm 691 (by decide +kernel) rfl, tm 9 (by decide +kernel) rfl⟩)⟩
theorem lk_RX8_34 : LK RX8 34 yX8_cutTo := Or.inl (tm 698 (by decide +kernel) rfl)
def Tr_put (a1 : Int) (a2 : Int) (a3 : Int) (σ : Sg) : Rs := (bd (Tr_hasRow a1 a2 1 σ) (fun r1 s2 => (if r1 = 0 then (some (0, s2)) else (rd 4 a1 (s2 2 (Int.toNat a1)) (fun x3 => (bd (Tr_cutTo x3 a3 s2) (fun r4 s5 => (wr 240 (w32 ((w32 (a1 * 60)) + a2)) (up_s s5 4 (Int.toNat (w32 ((w32 (a1 * 60)) + a2))) r4) (fun s6 => (some (0, s6)))))))))))
theorem ok_Tr_put (a1 : Int) (a2 : Int) (a3 : Int) (σ : Sg) : MC l Kh Ph yX8_put cX8_put 5 2 4 [.inr (.inr 1), .inl a1, .inl a2, .inr (.inl a3)] σ (Tr_put a1 a2 a3 σ) := by
  refine mc_of (by decide) (Nat.le_of_ble_eq_true rfl) ?_
  change G l Kh Ph RX8 cX8_put 5 2 4 0 [some (.inr (.inr 1)), some (.inl a1), some (.inl a2), some (.inr (.inl a3)), none] [] σ (Tr_put a1 a2 a3 σ)
  unfold Tr_put
  refine g_aload_n dX8_put_0 rfl rfl ?_
  refine g_iload_n dX8_put_1 rfl rfl ?_
  refine g_iload_n dX8_put_2 rfl rfl ?_
  refine g_iconst dX8_put_3 (by decide) ?_
  refine g_callv3 (st := []) 7 mw_X8_hasRow lk_RX8_30 rfl kh_1 (ok_Tr_hasRow a1 a2 1 σ) (Nat.le_of_ble_eq_true rfl) rfl rfl (Nat.le_of_ble_eq_true rfl) dX8_put_4 ?_
  intro r1 s2
  refine g_ifeq (tgt := 31) dX8_put_7 (by decide) ?_ ?_
  · exact g_vret dX8_put_31
  · refine g_aload_n dX8_put_10 rfl rfl ?_
    refine g_getr' (q := 4) fl_RX8_18 kh_1 (by decide) rfl dX8_put_11 ?_
    refine g_iload_n dX8_put_14 rfl rfl ?_
    refine g_bipush dX8_put_15 (by decide) ?_
    refine g_imul dX8_put_17 ?_
    refine g_iload_n dX8_put_18 rfl rfl ?_
    refine g_iadd dX8_put_19 ?_
    refine g_aload_n dX8_put_20 rfl rfl ?_
    refine g_getr' (q := 2) fl_RX8_11 kh_1 (by decide) rfl dX8_put_21 ?_
    refine g_iload_n dX8_put_24 rfl rfl ?_
    refine g_iald kh_2 dX8_put_25 ?_
    intro x3
    refine g_lload_n dX8_put_26 rfl rfl ?_
    refine g_calls1 (st := [.inl (w32 ((w32 (a1 * 60)) + a2)), .inr (.inr 4)]) mw_X8_cutTo lk_RX8_34 (ok_Tr_cutTo x3 a3 s2) (Nat.le_of_ble_eq_true rfl) rfl rfl (Nat.le_of_ble_eq_true rfl) dX8_put_27 ?_
    intro r4 s5
    refine g_last kh_4 dX8_put_30 ?_
    intro s6
    exact g_vret dX8_put_31
theorem dX11_copyHair_0 : decode cX11_copyHair 0 = .ok (.aload_n 0, 1) := by decide +kernel
theorem dX11_copyHair_1 : decode cX11_copyHair 1 = .ok (.iload_n 1, 1) := by decide +kernel
theorem dX11_copyHair_2 : decode cX11_copyHair 2 = .ok (.invokevirtual 128, 3) := by decide +kernel
theorem dX11_copyHair_5 : decode cX11_copyHair 5 = .ok (.istore_n 2, 1) := by decide +kernel
theorem dX11_copyHair_6 : decode cX11_copyHair 6 = .ok (.iload_n 2, 1) := by decide +kernel
theorem dX11_copyHair_7 : decode cX11_copyHair 7 = .ok (.ifCond .eq 9, 3) := by decide +kernel
theorem dX11_copyHair_10 : decode cX11_copyHair 10 = .ok (.aload_n 0, 1) := by decide +kernel
theorem dX11_copyHair_11 : decode cX11_copyHair 11 = .ok (.iload_n 2, 1) := by decide +kernel
theorem dX11_copyHair_12 : decode cX11_copyHair 12 = .ok (.invokevirtual 147, 3) := by decide +kernel
theorem dX11_copyHair_15 : decode cX11_copyHair 15 = .ok (.ireturn, 1) := by decide +kernel
theorem dX11_copyHair_16 : decode cX11_copyHair 16 = .ok (.aload_n 0, 1) := by decide +kernel
theorem dX11_copyHair_17 : decode cX11_copyHair 17 = .ok (.getfield 29, 3) := by decide +kernel
theorem dX11_copyHair_20 : decode cX11_copyHair 20 = .ok (.iload_n 1, 1) := by decide +kernel
theorem dX11_copyHair_21 : decode cX11_copyHair 21 = .ok (.invokevirtual 132, 3) := by decide +kernel
theorem dX11_copyHair_24 : decode cX11_copyHair 24 = .ok (.aload_n 0, 1) := by decide +kernel
theorem dX11_copyHair_25 : decode cX11_copyHair 25 = .ok (.getfield 43, 3) := by decide +kernel
theorem dX11_copyHair_28 : decode cX11_copyHair 28 = .ok (.getfield 191, 3) := by decide +kernel
theorem dX11_copyHair_31 : decode cX11_copyHair 31 = .ok (.if_icmp .ge 9, 3) := by decide +kernel
theorem dX11_copyHair_34 : decode cX11_copyHair 34 = .ok (.aload_n 0, 1) := by decide +kernel
theorem dX11_copyHair_35 : decode cX11_copyHair 35 = .ok (.iconst 4, 1) := by decide +kernel
theorem dX11_copyHair_36 : decode cX11_copyHair 36 = .ok (.invokevirtual 147, 3) := by decide +kernel
theorem dX11_copyHair_39 : decode cX11_copyHair 39 = .ok (.ireturn, 1) := by decide +kernel
theorem dX11_copyHair_40 : decode cX11_copyHair 40 = .ok (.iconst 0, 1) := by decide +kernel
theorem dX11_copyHair_41 : decode cX11_copyHair 41 = .ok (.istore_n 3, 1) := by decide +kernel
theorem dX11_copyHair_42 : decode cX11_copyHair 42 = .ok (.iload_n 3, 1) := by decide +kernel
theorem dX11_copyHair_43 : decode cX11_copyHair 43 = .ok (.aload_n 0, 1) := by decide +kernel
theorem dX11_copyHair_44 : decode cX11_copyHair 44 = .ok (.getfield 43, 3) := by decide +kernel
theorem dX11_copyHair_47 : decode cX11_copyHair 47 = .ok (.getfield 191, 3) := by decide +kernel
theorem dX11_copyHair_50 : decode cX11_copyHair 50 = .ok (.if_icmp .ge 27, 3) := by decide +kernel
theorem dX11_copyHair_53 : decode cX11_copyHair 53 = .ok (.aload_n 0, 1) := by decide +kernel
theorem dX11_copyHair_54 : decode cX11_copyHair 54 = .ok (.getfield 29, 3) := by decide +kernel
theorem dX11_copyHair_57 : decode cX11_copyHair 57 = .ok (.iload_n 1, 1) := by decide +kernel
theorem dX11_copyHair_58 : decode cX11_copyHair 58 = .ok (.iload_n 3, 1) := by decide +kernel
theorem dX11_copyHair_59 : decode cX11_copyHair 59 = .ok (.aload_n 0, 1) := by decide +kernel
theorem dX11_copyHair_60 : decode cX11_copyHair 60 = .ok (.getfield 43, 3) := by decide +kernel
theorem dX11_copyHair_63 : decode cX11_copyHair 63 = .ok (.iload_n 3, 1) := by decide +kernel
theorem dX11_copyHair_64 : decode cX11_copyHair 64 = .ok (.invokevirtual 281, 3) := by decide +kernel
theorem dX11_copyHair_67 : decode cX11_copyHair 67 = .ok (.i2l, 1) := by decide +kernel
theorem dX11_copyHair_68 : decode cX11_copyHair 68 = .ok (.invokevirtual 143, 3) := by decide +kernel
theorem dX11_copyHair_71 : decode cX11_copyHair 71 = .ok (.iinc 3 1, 3) := by decide +kernel
theorem dX11_copyHair_74 : decode cX11_copyHair 74 = .ok (.goto (-32), 3) := by decide +kernel
theorem dX11_copyHair_77 : decode cX11_copyHair 77 = .ok (.aload_n 0, 1) := by decide +kernel
theorem dX11_copyHair_78 : decode cX11_copyHair 78 = .ok (.aload_n 0, 1) := by decide +kernel
theorem dX11_copyHair_79 : decode cX11_copyHair 79 = .ok (.getfield 43, 3) := by decide +kernel
theorem dX11_copyHair_82 : decode cX11_copyHair 82 = .ok (.getfield 191, 3) := by decide +kernel
theorem dX11_copyHair_85 : decode cX11_copyHair 85 = .ok (.invokevirtual 194, 3) := by decide +kernel
theorem dX11_copyHair_88 : decode cX11_copyHair 88 = .ok (.ireturn, 1) := by decide +kernel
theorem mw_X11_copyHair : MW yX11_copyHair cX11_copyHair 4 0 1 false := ⟨tm 1119 (by decide +kernel) rfl, tm 237 (by decide +kernel) rfl, by decide, by decide, (by rw [if_neg (by decide)]; exact ⟨tm 1117 (by decide +kernel) rfl, tm 1118 (by decide +kernel) rfl⟩)⟩
theorem lk_RX11_143 : LK RX11 143 yX8_put := Or.inr ⟨"HairProvince", tm 689 (by decide +kernel) rfl⟩
theorem lk_RX11_281 : LK RX11 281 yX4_hairOf := Or.inr ⟨"HairProvince", tm 1087 (by decide +kernel) rfl⟩
theorem fl_RX11_191 : FL RX11 191 4 11 := ⟨_, _, _, _, cw_4, by decide, Or.inl (by decide), Or.inr (by decide), Or.inr ⟨"HairProvince", tm 375 (by decide +kernel) rfl⟩⟩
def H_copyHair_L42 (a1 : Int) : Nat → Int → Sg → Rs
  | 0, _, _ => none
  | n + 1, v3, σ => (if v3 < (σ 8 11) then (bd (Pr_hairOf 8 v3 σ) (fun r7 s8 => (bd (Tr_put a1 v3 r7 s8) (fun r9 s10 => (nm (w32 (v3 + 1)) (fun x11 => (H_copyHair_L42 a1 n x11 s10))))))) else (bd (H_give (σ 8 11) σ) (fun r12 s13 => (some (r12, s13)))))
theorem ok_H_copyHair_L42 (a1 : Int) : ∀ (n : Nat) (v3 : Int) (σ : Sg), G l Kh Ph RX11 cX11_copyHair 4 0 5 42 [some (.inr (.inr 0)), some (.inl a1), none, some (.inl v3)] [] σ (H_copyHair_L42 a1 n v3 σ) := by
  intro n
  induction n with
  | zero => intros; exact G.none_
  | succ n ih =>
    intro v3 σ
    rw [H_copyHair_L42]
    refine g_iload_n dX11_copyHair_42 rfl rfl ?_
    refine g_aload_n dX11_copyHair_43 rfl rfl ?_
    refine g_getr' (q := 8) fl_RX11_43 kh_0 (by decide) rfl dX11_copyHair_44 ?_
    refine g_geti fl_RX11_191 kh_8 (by decide) dX11_copyHair_47 ?_
    refine g_icmpge (tgt := 77) dX11_copyHair_50 (by decide) ?_ ?_
    · refine g_aload_n dX11_copyHair_53 rfl rfl ?_
      refine g_getr' (q := 1) fl_RX11_29 kh_0 (by decide) rfl dX11_copyHair_54 ?_
      refine g_iload_n dX11_copyHair_57 rfl rfl ?_
      refine g_iload_n dX11_copyHair_58 rfl rfl ?_
      refine g_aload_n dX11_copyHair_59 rfl rfl ?_
      refine g_getr' (q := 8) fl_RX11_43 kh_0 (by decide) rfl dX11_copyHair_60 ?_
      refine g_iload_n dX11_copyHair_63 rfl rfl ?_
      refine g_callv0 (st := [.inl v3, .inl a1, .inr (.inr 1)]) 4 mw_X4_hairOf lk_RX11_281 rfl kh_8 (ok_Pr_hairOf 8 v3 kh_8 σ) (Nat.le_of_ble_eq_true rfl) rfl rfl (Nat.le_of_ble_eq_true rfl) dX11_copyHair_64 ?_
      intro r7 s8
      refine g_i2l dX11_copyHair_67 ?_
      refine g_callv2 (st := []) 7 mw_X8_put lk_RX11_143 rfl kh_1 (ok_Tr_put a1 v3 r7 s8) (Nat.le_of_ble_eq_true rfl) rfl rfl (Nat.le_of_ble_eq_true rfl) dX11_copyHair_68 ?_
      intro r9 s10
      refine n_iinc (fun x11 => [some (.inr (.inr 0)), some (.inl a1), none, some (.inl x11)]) dX11_copyHair_71 rfl (Nat.le_of_ble_eq_true rfl) (fun _ => rfl) ?_
      intro x11
      refine g_goto (tgt := 42) dX11_copyHair_74 (by decide) ?_
      exact (ih x11 s10)
    · refine g_aload_n dX11_copyHair_77 rfl rfl ?_
      refine g_aload_n dX11_copyHair_78 rfl rfl ?_
      refine g_getr' (q := 8) fl_RX11_43 kh_0 (by decide) rfl dX11_copyHair_79 ?_
      refine g_geti fl_RX11_191 kh_8 (by decide) dX11_copyHair_82 ?_
      refine g_callv0 (st := []) 9 mw_X11_give lk_RX11_194 rfl kh_0 (ok_H_give (σ 8 11) σ) (Nat.le_of_ble_eq_true rfl) rfl rfl (Nat.le_of_ble_eq_true rfl) dX11_copyHair_85 ?_
      intro r12 s13
      exact g_iret dX11_copyHair_88
def H_copyHair (a1 : Int) (σ : Sg) : Rs := (bd (H_trayStatus a1 σ) (fun r1 s2 => (if r1 = 0 then (bd (Tr_sizeOf a1 s2) (fun r3 s4 => (if r3 < (s4 8 11) then (bd (H_fail 4 s4) (fun r5 s6 => (some (r5, s6)))) else (H_copyHair_L42 a1 fu 0 s4)))) else (bd (H_fail r1 s2) (fun r14 s15 => (some (r14, s15)))))))
theorem ok_H_copyHair (a1 : Int) (σ : Sg) : MC l Kh Ph yX11_copyHair cX11_copyHair 4 0 5 [.inr (.inr 0), .inl a1] σ (H_copyHair a1 σ) := by
  refine mc_of (by decide) (Nat.le_of_ble_eq_true rfl) ?_
  change G l Kh Ph RX11 cX11_copyHair 4 0 5 0 [some (.inr (.inr 0)), some (.inl a1), none, none] [] σ (H_copyHair a1 σ)
  unfold H_copyHair
  refine g_aload_n dX11_copyHair_0 rfl rfl ?_
  refine g_iload_n dX11_copyHair_1 rfl rfl ?_
  refine g_callv0 (st := []) 9 mw_X11_trayStatus lk_RX11_128 rfl kh_0 (ok_H_trayStatus a1 σ) (Nat.le_of_ble_eq_true rfl) rfl rfl (Nat.le_of_ble_eq_true rfl) dX11_copyHair_2 ?_
  intro r1 s2
  refine g_istore_n (lv' := [some (.inr (.inr 0)), some (.inl a1), some (.inl r1), none]) dX11_copyHair_5 rfl (Nat.le_of_ble_eq_true rfl) rfl ?_
  refine g_iload_n dX11_copyHair_6 rfl rfl ?_
  refine g_ifeq (tgt := 16) dX11_copyHair_7 (by decide) ?_ ?_
  · refine g_aload_n dX11_copyHair_16 rfl rfl ?_
    refine g_getr' (q := 1) fl_RX11_29 kh_0 (by decide) rfl dX11_copyHair_17 ?_
    refine g_iload_n dX11_copyHair_20 rfl rfl ?_
    refine g_callv0 (st := []) 7 mw_X8_sizeOf lk_RX11_132 rfl kh_1 (ok_Tr_sizeOf a1 s2) (Nat.le_of_ble_eq_true rfl) rfl rfl (Nat.le_of_ble_eq_true rfl) dX11_copyHair_21 ?_
    intro r3 s4
    refine g_aload_n dX11_copyHair_24 rfl rfl ?_
    refine g_getr' (q := 8) fl_RX11_43 kh_0 (by decide) rfl dX11_copyHair_25 ?_
    refine g_geti fl_RX11_191 kh_8 (by decide) dX11_copyHair_28 ?_
    refine g_icmpge (tgt := 40) dX11_copyHair_31 (by decide) ?_ ?_
    · refine g_aload_n dX11_copyHair_34 rfl rfl ?_
      refine g_iconst dX11_copyHair_35 (by decide) ?_
      refine g_callv0 (st := []) 9 mw_X11_fail lk_RX11_147 rfl kh_0 (ok_H_fail 4 s4) (Nat.le_of_ble_eq_true rfl) rfl rfl (Nat.le_of_ble_eq_true rfl) dX11_copyHair_36 ?_
      intro r5 s6
      exact g_iret dX11_copyHair_39
    · refine g_iconst dX11_copyHair_40 (by decide) ?_
      refine g_istore_n (lv' := [some (.inr (.inr 0)), some (.inl a1), some (.inl r1), some (.inl 0)]) dX11_copyHair_41 rfl (Nat.le_of_ble_eq_true rfl) rfl ?_
      refine (g_weak [true, true, false, true] (ok_H_copyHair_L42 a1 fu 0 s4))
  · refine g_aload_n dX11_copyHair_10 rfl rfl ?_
    refine g_iload_n dX11_copyHair_11 rfl rfl ?_
    refine g_callv0 (st := []) 9 mw_X11_fail lk_RX11_147 rfl kh_0 (ok_H_fail r1 s2) (Nat.le_of_ble_eq_true rfl) rfl rfl (Nat.le_of_ble_eq_true rfl) dX11_copyHair_12 ?_
    intro r14 s15
    exact g_iret dX11_copyHair_15
theorem dX4_isBarber_0 : decode cX4_isBarber 0 = .ok (.aload_n 0, 1) := by decide +kernel
theorem dX4_isBarber_1 : decode cX4_isBarber 1 = .ok (.iload_n 1, 1) := by decide +kernel
theorem dX4_isBarber_2 : decode cX4_isBarber 2 = .ok (.invokevirtual 87, 3) := by decide +kernel
theorem dX4_isBarber_5 : decode cX4_isBarber 5 = .ok (.ifCond .eq 19, 3) := by decide +kernel
theorem dX4_isBarber_8 : decode cX4_isBarber 8 = .ok (.aload_n 0, 1) := by decide +kernel
theorem dX4_isBarber_9 : decode cX4_isBarber 9 = .ok (.getfield 65, 3) := by decide +kernel
theorem dX4_isBarber_12 : decode cX4_isBarber 12 = .ok (.iload_n 1, 1) := by decide +kernel
theorem dX4_isBarber_13 : decode cX4_isBarber 13 = .ok (.ishr, 1) := by decide +kernel
theorem dX4_isBarber_14 : decode cX4_isBarber 14 = .ok (.iconst 1, 1) := by decide +kernel
theorem dX4_isBarber_15 : decode cX4_isBarber 15 = .ok (.iand, 1) := by decide +kernel
theorem dX4_isBarber_16 : decode cX4_isBarber 16 = .ok (.iconst 1, 1) := by decide +kernel
theorem dX4_isBarber_17 : decode cX4_isBarber 17 = .ok (.if_icmp .ne 7, 3) := by decide +kernel
theorem dX4_isBarber_20 : decode cX4_isBarber 20 = .ok (.iconst 1, 1) := by decide +kernel
theorem dX4_isBarber_21 : decode cX4_isBarber 21 = .ok (.goto 4, 3) := by decide +kernel
theorem dX4_isBarber_24 : decode cX4_isBarber 24 = .ok (.iconst 0, 1) := by decide +kernel
theorem dX4_isBarber_25 : decode cX4_isBarber 25 = .ok (.ireturn, 1) := by decide +kernel
theorem mw_X4_isBarber : MW yX4_isBarber cX4_isBarber 2 3 1 false := ⟨tm 1085 (by decide +kernel) rfl, tm 240 (by decide +kernel) rfl, by decide, by decide, (by rw [if_neg (by decide)]; exact ⟨tm 1084 (by decide +kernel) rfl, tm 59 (by decide +kernel) rfl⟩)⟩
theorem lk_RX4_87 : LK RX4 87 yX4_isPerson := Or.inl (tm 1086 (by decide +kernel) rfl)
def Pr_isBarber (pr0 : Nat) (a1 : Int) (σ : Sg) : Rs := (bd (Pr_isPerson pr0 a1 σ) (fun r1 s2 => (if r1 = 0 then (some (0, s2)) else (if (an32 (sr32 (s2 pr0 17) a1) 1) = 1 then (some (1, s2)) else (some (0, s2))))))
theorem ok_Pr_isBarber (pr0 : Nat) (a1 : Int) (hpr0 : Kh[pr0]? = some (.inl 4)) (σ : Sg) : MC l Kh Ph yX4_isBarber cX4_isBarber 2 3 2 [.inr (.inr pr0), .inl a1] σ (Pr_isBarber pr0 a1 σ) := by
  refine mc_of (by decide) (Nat.le_of_ble_eq_true rfl) ?_
  change G l Kh Ph RX4 cX4_isBarber 2 3 2 0 [some (.inr (.inr pr0)), some (.inl a1)] [] σ (Pr_isBarber pr0 a1 σ)
  unfold Pr_isBarber
  refine g_aload_n dX4_isBarber_0 rfl rfl ?_
  refine g_iload_n dX4_isBarber_1 rfl rfl ?_
  refine g_callv3 (st := []) 4 mw_X4_isPerson lk_RX4_87 rfl hpr0 (ok_Pr_isPerson pr0 a1 hpr0 σ) (Nat.le_of_ble_eq_true rfl) rfl rfl (Nat.le_of_ble_eq_true rfl) dX4_isBarber_2 ?_
  intro r1 s2
  refine g_ifeq (tgt := 24) dX4_isBarber_5 (by decide) ?_ ?_
  · refine g_iconst dX4_isBarber_24 (by decide) ?_
    exact g_zret0 dX4_isBarber_25
  · refine g_aload_n dX4_isBarber_8 rfl rfl ?_
    refine g_geti fl_RX4_65 hpr0 (by decide) dX4_isBarber_9 ?_
    refine g_iload_n dX4_isBarber_12 rfl rfl ?_
    refine g_ishr dX4_isBarber_13 ?_
    refine g_iconst dX4_isBarber_14 (by decide) ?_
    refine g_iand dX4_isBarber_15 ?_
    refine g_iconst dX4_isBarber_16 (by decide) ?_
    refine g_icmpne (tgt := 24) dX4_isBarber_17 (by decide) ?_ ?_
    · refine g_iconst dX4_isBarber_20 (by decide) ?_
      refine g_goto (tgt := 25) dX4_isBarber_21 (by decide) ?_
      exact g_zret1 dX4_isBarber_25
    · refine g_iconst dX4_isBarber_24 (by decide) ?_
      exact g_zret0 dX4_isBarber_25
theorem dX4_canTrim_0 : decode cX4_canTrim 0 = .ok (.aload_n 0, 1) := by decide +kernel
theorem dX4_canTrim_1 : decode cX4_canTrim 1 = .ok (.iload_n 1, 1) := by decide +kernel
theorem dX4_canTrim_2 : decode cX4_canTrim 2 = .ok (.invokevirtual 87, 3) := by decide +kernel
theorem dX4_canTrim_5 : decode cX4_canTrim 5 = .ok (.ifCond .eq 20, 3) := by decide +kernel
theorem dX4_canTrim_8 : decode cX4_canTrim 8 = .ok (.aload_n 0, 1) := by decide +kernel
theorem dX4_canTrim_9 : decode cX4_canTrim 9 = .ok (.iload_n 2, 1) := by decide +kernel
theorem dX4_canTrim_10 : decode cX4_canTrim 10 = .ok (.invokevirtual 101, 3) := by decide +kernel
theorem dX4_canTrim_13 : decode cX4_canTrim 13 = .ok (.ifCond .eq 12, 3) := by decide +kernel
theorem dX4_canTrim_16 : decode cX4_canTrim 16 = .ok (.iload_n 1, 1) := by decide +kernel
theorem dX4_canTrim_17 : decode cX4_canTrim 17 = .ok (.iload_n 2, 1) := by decide +kernel
theorem dX4_canTrim_18 : decode cX4_canTrim 18 = .ok (.if_icmp .eq 7, 3) := by decide +kernel
theorem dX4_canTrim_21 : decode cX4_canTrim 21 = .ok (.iconst 1, 1) := by decide +kernel
theorem dX4_canTrim_22 : decode cX4_canTrim 22 = .ok (.goto 4, 3) := by decide +kernel
theorem dX4_canTrim_25 : decode cX4_canTrim 25 = .ok (.iconst 0, 1) := by decide +kernel
theorem dX4_canTrim_26 : decode cX4_canTrim 26 = .ok (.ireturn, 1) := by decide +kernel
theorem mw_X4_canTrim : MW yX4_canTrim cX4_canTrim 3 3 2 false := ⟨tm 1198 (by decide +kernel) rfl, tm 240 (by decide +kernel) rfl, by decide, by decide, (by rw [if_neg (by decide)]; exact ⟨tm 1197 (by decide +kernel) rfl, tm 74 (by decide +kernel) rfl⟩)⟩
theorem lk_RX4_101 : LK RX4 101 yX4_isBarber := Or.inl (tm 1199 (by decide +kernel) rfl)
def Pr_canTrim (pr0 : Nat) (a1 : Int) (a2 : Int) (σ : Sg) : Rs := (bd (Pr_isPerson pr0 a1 σ) (fun r1 s2 => (if r1 = 0 then (some (0, s2)) else (bd (Pr_isBarber pr0 a2 s2) (fun r3 s4 => (if r3 = 0 then (some (0, s4)) else (if a1 = a2 then (some (0, s4)) else (some (1, s4)))))))))
theorem ok_Pr_canTrim (pr0 : Nat) (a1 : Int) (a2 : Int) (hpr0 : Kh[pr0]? = some (.inl 4)) (σ : Sg) : MC l Kh Ph yX4_canTrim cX4_canTrim 3 3 3 [.inr (.inr pr0), .inl a1, .inl a2] σ (Pr_canTrim pr0 a1 a2 σ) := by
  refine mc_of (by decide) (Nat.le_of_ble_eq_true rfl) ?_
  change G l Kh Ph RX4 cX4_canTrim 3 3 3 0 [some (.inr (.inr pr0)), some (.inl a1), some (.inl a2)] [] σ (Pr_canTrim pr0 a1 a2 σ)
  unfold Pr_canTrim
  refine g_aload_n dX4_canTrim_0 rfl rfl ?_
  refine g_iload_n dX4_canTrim_1 rfl rfl ?_
  refine g_callv3 (st := []) 4 mw_X4_isPerson lk_RX4_87 rfl hpr0 (ok_Pr_isPerson pr0 a1 hpr0 σ) (Nat.le_of_ble_eq_true rfl) rfl rfl (Nat.le_of_ble_eq_true rfl) dX4_canTrim_2 ?_
  intro r1 s2
  refine g_ifeq (tgt := 25) dX4_canTrim_5 (by decide) ?_ ?_
  · refine g_iconst dX4_canTrim_25 (by decide) ?_
    exact g_zret0 dX4_canTrim_26
  · refine g_aload_n dX4_canTrim_8 rfl rfl ?_
    refine g_iload_n dX4_canTrim_9 rfl rfl ?_
    refine g_callv3 (st := []) 4 mw_X4_isBarber lk_RX4_101 rfl hpr0 (ok_Pr_isBarber pr0 a2 hpr0 s2) (Nat.le_of_ble_eq_true rfl) rfl rfl (Nat.le_of_ble_eq_true rfl) dX4_canTrim_10 ?_
    intro r3 s4
    refine g_ifeq (tgt := 25) dX4_canTrim_13 (by decide) ?_ ?_
    · refine g_iconst dX4_canTrim_25 (by decide) ?_
      exact g_zret0 dX4_canTrim_26
    · refine g_iload_n dX4_canTrim_16 rfl rfl ?_
      refine g_iload_n dX4_canTrim_17 rfl rfl ?_
      refine g_icmpeq (tgt := 25) dX4_canTrim_18 (by decide) ?_ ?_
      · refine g_iconst dX4_canTrim_25 (by decide) ?_
        exact g_zret0 dX4_canTrim_26
      · refine g_iconst dX4_canTrim_21 (by decide) ?_
        refine g_goto (tgt := 26) dX4_canTrim_22 (by decide) ?_
        exact g_zret1 dX4_canTrim_26
theorem dX4_startStrand_0 : decode cX4_startStrand 0 = .ok (.aload_n 0, 1) := by decide +kernel
theorem dX4_startStrand_1 : decode cX4_startStrand 1 = .ok (.iload_n 1, 1) := by decide +kernel
theorem dX4_startStrand_2 : decode cX4_startStrand 2 = .ok (.invokevirtual 87, 3) := by decide +kernel
theorem dX4_startStrand_5 : decode cX4_startStrand 5 = .ok (.ifCond .eq 47, 3) := by decide +kernel
theorem dX4_startStrand_8 : decode cX4_startStrand 8 = .ok (.aload_n 0, 1) := by decide +kernel
theorem dX4_startStrand_9 : decode cX4_startStrand 9 = .ok (.iload_n 2, 1) := by decide +kernel
theorem dX4_startStrand_10 : decode cX4_startStrand 10 = .ok (.invokevirtual 80, 3) := by decide +kernel
theorem dX4_startStrand_13 : decode cX4_startStrand 13 = .ok (.ifCond .eq 39, 3) := by decide +kernel
theorem dX4_startStrand_16 : decode cX4_startStrand 16 = .ok (.aload_n 0, 1) := by decide +kernel
theorem dX4_startStrand_17 : decode cX4_startStrand 17 = .ok (.getfield 31, 3) := by decide +kernel
theorem dX4_startStrand_20 : decode cX4_startStrand 20 = .ok (.iload_n 1, 1) := by decide +kernel
theorem dX4_startStrand_21 : decode cX4_startStrand 21 = .ok (.dup2, 1) := by decide +kernel
theorem dX4_startStrand_22 : decode cX4_startStrand 22 = .ok (.iaload, 1) := by decide +kernel
theorem dX4_startStrand_23 : decode cX4_startStrand 23 = .ok (.iconst 1, 1) := by decide +kernel
theorem dX4_startStrand_24 : decode cX4_startStrand 24 = .ok (.iload_n 2, 1) := by decide +kernel
theorem dX4_startStrand_25 : decode cX4_startStrand 25 = .ok (.ishl, 1) := by decide +kernel
theorem dX4_startStrand_26 : decode cX4_startStrand 26 = .ok (.ior, 1) := by decide +kernel
theorem dX4_startStrand_27 : decode cX4_startStrand 27 = .ok (.iastore, 1) := by decide +kernel
theorem dX4_startStrand_28 : decode cX4_startStrand 28 = .ok (.aload_n 0, 1) := by decide +kernel
theorem dX4_startStrand_29 : decode cX4_startStrand 29 = .ok (.getfield 34, 3) := by decide +kernel
theorem dX4_startStrand_32 : decode cX4_startStrand 32 = .ok (.iload_n 1, 1) := by decide +kernel
theorem dX4_startStrand_33 : decode cX4_startStrand 33 = .ok (.bipush 8, 2) := by decide +kernel
theorem dX4_startStrand_35 : decode cX4_startStrand 35 = .ok (.imul, 1) := by decide +kernel
theorem dX4_startStrand_36 : decode cX4_startStrand 36 = .ok (.iload_n 2, 1) := by decide +kernel
theorem dX4_startStrand_37 : decode cX4_startStrand 37 = .ok (.iadd, 1) := by decide +kernel
theorem dX4_startStrand_38 : decode cX4_startStrand 38 = .ok (.iconst 0, 1) := by decide +kernel
theorem dX4_startStrand_39 : decode cX4_startStrand 39 = .ok (.iastore, 1) := by decide +kernel
theorem dX4_startStrand_40 : decode cX4_startStrand 40 = .ok (.aload_n 0, 1) := by decide +kernel
theorem dX4_startStrand_41 : decode cX4_startStrand 41 = .ok (.getfield 37, 3) := by decide +kernel
theorem dX4_startStrand_44 : decode cX4_startStrand 44 = .ok (.iload_n 1, 1) := by decide +kernel
theorem dX4_startStrand_45 : decode cX4_startStrand 45 = .ok (.bipush 8, 2) := by decide +kernel
theorem dX4_startStrand_47 : decode cX4_startStrand 47 = .ok (.imul, 1) := by decide +kernel
theorem dX4_startStrand_48 : decode cX4_startStrand 48 = .ok (.iload_n 2, 1) := by decide +kernel
theorem dX4_startStrand_49 : decode cX4_startStrand 49 = .ok (.iadd, 1) := by decide +kernel
theorem dX4_startStrand_50 : decode cX4_startStrand 50 = .ok (.iconst 0, 1) := by decide +kernel
theorem dX4_startStrand_51 : decode cX4_startStrand 51 = .ok (.iastore, 1) := by decide +kernel
theorem dX4_startStrand_52 : decode cX4_startStrand 52 = .ok (.return_, 1) := by decide +kernel
theorem mw_X4_startStrand : MW yX4_startStrand cX4_startStrand 3 2 2 false := ⟨tm 1179 (by decide +kernel) rfl, tm 240 (by decide +kernel) rfl, by decide, by decide, (by rw [if_neg (by decide)]; exact ⟨tm 1178 (by decide +kernel) rfl, tm 73 (by decide +kernel) rfl⟩)⟩
def Pr_startStrand (pr0 : Nat) (a1 : Int) (a2 : Int) (σ : Sg) : Rs := (bd (Pr_isPerson pr0 a1 σ) (fun r1 s2 => (if r1 = 0 then (some (0, s2)) else (bd (Pr_isWord pr0 a2 s2) (fun r3 s4 => (if r3 = 0 then (some (0, s4)) else (rd 6 a1 (s4 (pr0 + 7) (Int.toNat a1)) (fun x5 => (wr 6 a1 (up_s s4 (pr0 + 7) (Int.toNat a1) (or32 x5 (sl32 1 a2))) (fun s6 => (wr 48 (w32 ((w32 (a1 * 8)) + a2)) (up_s s6 (pr0 + 8) (Int.toNat (w32 ((w32 (a1 * 8)) + a2))) 0) (fun s7 => (wr 48 (w32 ((w32 (a1 * 8)) + a2)) (up_s s7 (pr0 + 9) (Int.toNat (w32 ((w32 (a1 * 8)) + a2))) 0) (fun s8 => (some (0, s8))))))))))))))))
theorem ok_Pr_startStrand (pr0 : Nat) (a1 : Int) (a2 : Int) (hpr0 : Kh[pr0]? = some (.inl 4)) (σ : Sg) : MC l Kh Ph yX4_startStrand cX4_startStrand 3 2 2 [.inr (.inr pr0), .inl a1, .inl a2] σ (Pr_startStrand pr0 a1 a2 σ) := by
  refine mc_of (by decide) (Nat.le_of_ble_eq_true rfl) ?_
  change G l Kh Ph RX4 cX4_startStrand 3 2 2 0 [some (.inr (.inr pr0)), some (.inl a1), some (.inl a2)] [] σ (Pr_startStrand pr0 a1 a2 σ)
  unfold Pr_startStrand
  refine g_aload_n dX4_startStrand_0 rfl rfl ?_
  refine g_iload_n dX4_startStrand_1 rfl rfl ?_
  refine g_callv3 (st := []) 4 mw_X4_isPerson lk_RX4_87 rfl hpr0 (ok_Pr_isPerson pr0 a1 hpr0 σ) (Nat.le_of_ble_eq_true rfl) rfl rfl (Nat.le_of_ble_eq_true rfl) dX4_startStrand_2 ?_
  intro r1 s2
  refine g_ifeq (tgt := 52) dX4_startStrand_5 (by decide) ?_ ?_
  · exact g_vret dX4_startStrand_52
  · refine g_aload_n dX4_startStrand_8 rfl rfl ?_
    refine g_iload_n dX4_startStrand_9 rfl rfl ?_
    refine g_callv3 (st := []) 4 mw_X4_isWord lk_RX4_80 rfl hpr0 (ok_Pr_isWord pr0 a2 hpr0 s2) (Nat.le_of_ble_eq_true rfl) rfl rfl (Nat.le_of_ble_eq_true rfl) dX4_startStrand_10 ?_
    intro r3 s4
    refine g_ifeq (tgt := 52) dX4_startStrand_13 (by decide) ?_ ?_
    · exact g_vret dX4_startStrand_52
    · refine g_aload_n dX4_startStrand_16 rfl rfl ?_
      refine g_getr' (q := (pr0 + 7)) fl_RX4_31 hpr0 (by decide) (qp6 hpr0) dX4_startStrand_17 ?_
      refine g_iload_n dX4_startStrand_20 rfl rfl ?_
      refine g_dup2 dX4_startStrand_21 rfl rfl ?_
      refine g_iald (kp6 hpr0) dX4_startStrand_22 ?_
      intro x5
      refine g_iconst dX4_startStrand_23 (by decide) ?_
      refine g_iload_n dX4_startStrand_24 rfl rfl ?_
      refine g_ishl dX4_startStrand_25 ?_
      refine g_ior dX4_startStrand_26 ?_
      refine g_iast (kp6 hpr0) dX4_startStrand_27 ?_
      intro s6
      refine g_aload_n dX4_startStrand_28 rfl rfl ?_
      refine g_getr' (q := (pr0 + 8)) fl_RX4_34 hpr0 (by decide) (qp7 hpr0) dX4_startStrand_29 ?_
      refine g_iload_n dX4_startStrand_32 rfl rfl ?_
      refine g_bipush dX4_startStrand_33 (by decide) ?_
      refine g_imul dX4_startStrand_35 ?_
      refine g_iload_n dX4_startStrand_36 rfl rfl ?_
      refine g_iadd dX4_startStrand_37 ?_
      refine g_iconst dX4_startStrand_38 (by decide) ?_
      refine g_iast (kp7 hpr0) dX4_startStrand_39 ?_
      intro s7
      refine g_aload_n dX4_startStrand_40 rfl rfl ?_
      refine g_getr' (q := (pr0 + 9)) fl_RX4_37 hpr0 (by decide) (qp8 hpr0) dX4_startStrand_41 ?_
      refine g_iload_n dX4_startStrand_44 rfl rfl ?_
      refine g_bipush dX4_startStrand_45 (by decide) ?_
      refine g_imul dX4_startStrand_47 ?_
      refine g_iload_n dX4_startStrand_48 rfl rfl ?_
      refine g_iadd dX4_startStrand_49 ?_
      refine g_iconst dX4_startStrand_50 (by decide) ?_
      refine g_iast (kp8 hpr0) dX4_startStrand_51 ?_
      intro s8
      exact g_vret dX4_startStrand_52
theorem dX4_trim_0 : decode cX4_trim 0 = .ok (.aload_n 0, 1) := by decide +kernel
theorem dX4_trim_1 : decode cX4_trim 1 = .ok (.iload_n 1, 1) := by decide +kernel
theorem dX4_trim_2 : decode cX4_trim 2 = .ok (.invokevirtual 87, 3) := by decide +kernel
theorem dX4_trim_5 : decode cX4_trim 5 = .ok (.ifCond .eq 11, 3) := by decide +kernel
theorem dX4_trim_8 : decode cX4_trim 8 = .ok (.aload_n 0, 1) := by decide +kernel
theorem dX4_trim_9 : decode cX4_trim 9 = .ok (.iload_n 2, 1) := by decide +kernel
theorem dX4_trim_10 : decode cX4_trim 10 = .ok (.invokevirtual 87, 3) := by decide +kernel
theorem dX4_trim_13 : decode cX4_trim 13 = .ok (.ifCond .ne 5, 3) := by decide +kernel
theorem dX4_trim_16 : decode cX4_trim 16 = .ok (.iconst 0, 1) := by decide +kernel
theorem dX4_trim_17 : decode cX4_trim 17 = .ok (.ireturn, 1) := by decide +kernel
theorem dX4_trim_18 : decode cX4_trim 18 = .ok (.iconst 0, 1) := by decide +kernel
theorem dX4_trim_19 : decode cX4_trim 19 = .ok (.istore_n 3, 1) := by decide +kernel
theorem dX4_trim_20 : decode cX4_trim 20 = .ok (.iconst 0, 1) := by decide +kernel
theorem dX4_trim_21 : decode cX4_trim 21 = .ok (.istore 4, 2) := by decide +kernel
theorem dX4_trim_23 : decode cX4_trim 23 = .ok (.iload 4, 2) := by decide +kernel
theorem dX4_trim_25 : decode cX4_trim 25 = .ok (.aload_n 0, 1) := by decide +kernel
theorem dX4_trim_26 : decode cX4_trim 26 = .ok (.getfield 50, 3) := by decide +kernel
theorem dX4_trim_29 : decode cX4_trim 29 = .ok (.if_icmp .ge 104, 3) := by decide +kernel
theorem dX4_trim_32 : decode cX4_trim 32 = .ok (.iload 4, 2) := by decide +kernel
theorem dX4_trim_34 : decode cX4_trim 34 = .ok (.bipush 8, 2) := by decide +kernel
theorem dX4_trim_36 : decode cX4_trim 36 = .ok (.if_icmp .ge 97, 3) := by decide +kernel
theorem dX4_trim_39 : decode cX4_trim 39 = .ok (.aload_n 0, 1) := by decide +kernel
theorem dX4_trim_40 : decode cX4_trim 40 = .ok (.getfield 31, 3) := by decide +kernel
theorem dX4_trim_43 : decode cX4_trim 43 = .ok (.iload_n 1, 1) := by decide +kernel
theorem dX4_trim_44 : decode cX4_trim 44 = .ok (.iaload, 1) := by decide +kernel
theorem dX4_trim_45 : decode cX4_trim 45 = .ok (.iload 4, 2) := by decide +kernel
theorem dX4_trim_47 : decode cX4_trim 47 = .ok (.ishr, 1) := by decide +kernel
theorem dX4_trim_48 : decode cX4_trim 48 = .ok (.iconst 1, 1) := by decide +kernel
theorem dX4_trim_49 : decode cX4_trim 49 = .ok (.iand, 1) := by decide +kernel
theorem dX4_trim_50 : decode cX4_trim 50 = .ok (.iconst 1, 1) := by decide +kernel
theorem dX4_trim_51 : decode cX4_trim 51 = .ok (.if_icmp .ne 76, 3) := by decide +kernel
theorem dX4_trim_54 : decode cX4_trim 54 = .ok (.aload_n 0, 1) := by decide +kernel
theorem dX4_trim_55 : decode cX4_trim 55 = .ok (.getfield 34, 3) := by decide +kernel
theorem dX4_trim_58 : decode cX4_trim 58 = .ok (.iload_n 1, 1) := by decide +kernel
theorem dX4_trim_59 : decode cX4_trim 59 = .ok (.bipush 8, 2) := by decide +kernel
theorem dX4_trim_61 : decode cX4_trim 61 = .ok (.imul, 1) := by decide +kernel
theorem dX4_trim_62 : decode cX4_trim 62 = .ok (.iload 4, 2) := by decide +kernel
theorem dX4_trim_64 : decode cX4_trim 64 = .ok (.iadd, 1) := by decide +kernel
theorem dX4_trim_65 : decode cX4_trim 65 = .ok (.iaload, 1) := by decide +kernel
theorem dX4_trim_66 : decode cX4_trim 66 = .ok (.aload_n 0, 1) := by decide +kernel
theorem dX4_trim_67 : decode cX4_trim 67 = .ok (.getfield 43, 3) := by decide +kernel
theorem dX4_trim_70 : decode cX4_trim 70 = .ok (.if_icmp .lt 44, 3) := by decide +kernel
theorem dX4_trim_73 : decode cX4_trim 73 = .ok (.aload_n 0, 1) := by decide +kernel
theorem dX4_trim_74 : decode cX4_trim 74 = .ok (.getfield 28, 3) := by decide +kernel
theorem dX4_trim_77 : decode cX4_trim 77 = .ok (.iload_n 2, 1) := by decide +kernel
theorem dX4_trim_78 : decode cX4_trim 78 = .ok (.iaload, 1) := by decide +kernel
theorem dX4_trim_79 : decode cX4_trim 79 = .ok (.iload 4, 2) := by decide +kernel
theorem dX4_trim_81 : decode cX4_trim 81 = .ok (.ishr, 1) := by decide +kernel
theorem dX4_trim_82 : decode cX4_trim 82 = .ok (.iconst 1, 1) := by decide +kernel
theorem dX4_trim_83 : decode cX4_trim 83 = .ok (.iand, 1) := by decide +kernel
theorem dX4_trim_84 : decode cX4_trim 84 = .ok (.ifCond .ne 30, 3) := by decide +kernel
theorem dX4_trim_87 : decode cX4_trim 87 = .ok (.iload_n 3, 1) := by decide +kernel
theorem dX4_trim_88 : decode cX4_trim 88 = .ok (.iconst 1, 1) := by decide +kernel
theorem dX4_trim_89 : decode cX4_trim 89 = .ok (.iload 4, 2) := by decide +kernel
theorem dX4_trim_91 : decode cX4_trim 91 = .ok (.ishl, 1) := by decide +kernel
theorem dX4_trim_92 : decode cX4_trim 92 = .ok (.ior, 1) := by decide +kernel
theorem dX4_trim_93 : decode cX4_trim 93 = .ok (.istore_n 3, 1) := by decide +kernel
theorem dX4_trim_94 : decode cX4_trim 94 = .ok (.aload_n 0, 1) := by decide +kernel
theorem dX4_trim_95 : decode cX4_trim 95 = .ok (.getfield 28, 3) := by decide +kernel
theorem dX4_trim_98 : decode cX4_trim 98 = .ok (.iload_n 2, 1) := by decide +kernel
theorem dX4_trim_99 : decode cX4_trim 99 = .ok (.dup2, 1) := by decide +kernel
theorem dX4_trim_100 : decode cX4_trim 100 = .ok (.iaload, 1) := by decide +kernel
theorem dX4_trim_101 : decode cX4_trim 101 = .ok (.iconst 1, 1) := by decide +kernel
theorem dX4_trim_102 : decode cX4_trim 102 = .ok (.iload 4, 2) := by decide +kernel
theorem dX4_trim_104 : decode cX4_trim 104 = .ok (.ishl, 1) := by decide +kernel
theorem dX4_trim_105 : decode cX4_trim 105 = .ok (.ior, 1) := by decide +kernel
theorem dX4_trim_106 : decode cX4_trim 106 = .ok (.iastore, 1) := by decide +kernel
theorem dX4_trim_107 : decode cX4_trim 107 = .ok (.aload_n 0, 1) := by decide +kernel
theorem dX4_trim_108 : decode cX4_trim 108 = .ok (.iload_n 2, 1) := by decide +kernel
theorem dX4_trim_109 : decode cX4_trim 109 = .ok (.iload 4, 2) := by decide +kernel
theorem dX4_trim_111 : decode cX4_trim 111 = .ok (.invokevirtual 104, 3) := by decide +kernel
theorem dX4_trim_114 : decode cX4_trim 114 = .ok (.aload_n 0, 1) := by decide +kernel
theorem dX4_trim_115 : decode cX4_trim 115 = .ok (.getfield 34, 3) := by decide +kernel
theorem dX4_trim_118 : decode cX4_trim 118 = .ok (.iload_n 1, 1) := by decide +kernel
theorem dX4_trim_119 : decode cX4_trim 119 = .ok (.bipush 8, 2) := by decide +kernel
theorem dX4_trim_121 : decode cX4_trim 121 = .ok (.imul, 1) := by decide +kernel
theorem dX4_trim_122 : decode cX4_trim 122 = .ok (.iload 4, 2) := by decide +kernel
theorem dX4_trim_124 : decode cX4_trim 124 = .ok (.iadd, 1) := by decide +kernel
theorem dX4_trim_125 : decode cX4_trim 125 = .ok (.iconst 0, 1) := by decide +kernel
theorem dX4_trim_126 : decode cX4_trim 126 = .ok (.iastore, 1) := by decide +kernel
theorem dX4_trim_127 : decode cX4_trim 127 = .ok (.iinc 4 1, 3) := by decide +kernel
theorem dX4_trim_130 : decode cX4_trim 130 = .ok (.goto (-107), 3) := by decide +kernel
theorem dX4_trim_133 : decode cX4_trim 133 = .ok (.aload_n 0, 1) := by decide +kernel
theorem dX4_trim_134 : decode cX4_trim 134 = .ok (.dup, 1) := by decide +kernel
theorem dX4_trim_135 : decode cX4_trim 135 = .ok (.getfield 71, 3) := by decide +kernel
theorem dX4_trim_138 : decode cX4_trim 138 = .ok (.iconst 1, 1) := by decide +kernel
theorem dX4_trim_139 : decode cX4_trim 139 = .ok (.iadd, 1) := by decide +kernel
theorem dX4_trim_140 : decode cX4_trim 140 = .ok (.putfield 71, 3) := by decide +kernel
theorem dX4_trim_143 : decode cX4_trim 143 = .ok (.iload_n 3, 1) := by decide +kernel
theorem dX4_trim_144 : decode cX4_trim 144 = .ok (.ireturn, 1) := by decide +kernel
theorem mw_X4_trim : MW yX4_trim cX4_trim 5 0 2 false := ⟨tm 1203 (by decide +kernel) rfl, tm 240 (by decide +kernel) rfl, by decide, by decide, (by rw [if_neg (by decide)]; exact ⟨tm 1202 (by decide +kernel) rfl, tm 75 (by decide +kernel) rfl⟩)⟩
theorem lk_RX4_104 : LK RX4 104 yX4_startStrand := Or.inl (tm 1204 (by decide +kernel) rfl)
def Pr_trim_L23 (pr0 : Nat) (a1 : Int) (a2 : Int) : Nat → Int → Int → Sg → Rs
  | 0, _, _, _ => none
  | n + 1, v3, v4, σ => (if v4 < (σ pr0 10) then (if v4 < 8 then (rd 6 a1 (σ (pr0 + 7) (Int.toNat a1)) (fun x5 => (if (an32 (sr32 x5 v4) 1) = 1 then (rd 48 (w32 ((w32 (a1 * 8)) + v4)) (σ (pr0 + 8) (Int.toNat (w32 ((w32 (a1 * 8)) + v4)))) (fun x6 => (if x6 < (σ pr0 14) then (wr 48 (w32 ((w32 (a1 * 8)) + v4)) (up_s σ (pr0 + 8) (Int.toNat (w32 ((w32 (a1 * 8)) + v4))) 0) (fun s7 => (nm (w32 (v4 + 1)) (fun x8 => (Pr_trim_L23 pr0 a1 a2 n v3 x8 s7))))) else (rd 6 a2 (σ (pr0 + 6) (Int.toNat a2)) (fun x9 => (if (an32 (sr32 x9 v4) 1) = 0 then (nm (or32 v3 (sl32 1 v4)) (fun x10 => (rd 6 a2 (σ (pr0 + 6) (Int.toNat a2)) (fun x11 => (wr 6 a2 (up_s σ (pr0 + 6) (Int.toNat a2) (or32 x11 (sl32 1 v4))) (fun s12 => (bd (Pr_startStrand pr0 a2 v4 s12) (fun r13 s14 => (wr 48 (w32 ((w32 (a1 * 8)) + v4)) (up_s s14 (pr0 + 8) (Int.toNat (w32 ((w32 (a1 * 8)) + v4))) 0) (fun s15 => (nm (w32 (v4 + 1)) (fun x16 => (Pr_trim_L23 pr0 a1 a2 n x10 x16 s15))))))))))))) else (wr 48 (w32 ((w32 (a1 * 8)) + v4)) (up_s σ (pr0 + 8) (Int.toNat (w32 ((w32 (a1 * 8)) + v4))) 0) (fun s17 => (nm (w32 (v4 + 1)) (fun x18 => (Pr_trim_L23 pr0 a1 a2 n v3 x18 s17))))))))))) else (nm (w32 (v4 + 1)) (fun x19 => (Pr_trim_L23 pr0 a1 a2 n v3 x19 σ)))))) else (nm (up_s σ pr0 19 (w32 ((σ pr0 19) + 1))) (fun s20 => (some (v3, s20))))) else (nm (up_s σ pr0 19 (w32 ((σ pr0 19) + 1))) (fun s21 => (some (v3, s21)))))
theorem ok_Pr_trim_L23 (pr0 : Nat) (a1 : Int) (a2 : Int) (hpr0 : Kh[pr0]? = some (.inl 4)) : ∀ (n : Nat) (v3 v4 : Int) (σ : Sg), G l Kh Ph RX4 cX4_trim 5 0 3 23 [some (.inr (.inr pr0)), some (.inl a1), some (.inl a2), some (.inl v3), some (.inl v4)] [] σ (Pr_trim_L23 pr0 a1 a2 n v3 v4 σ) := by
  intro n
  induction n with
  | zero => intros; exact G.none_
  | succ n ih =>
    intro v3 v4 σ
    rw [Pr_trim_L23]
    refine g_iload dX4_trim_23 rfl ?_
    refine g_aload_n dX4_trim_25 rfl rfl ?_
    refine g_geti fl_RX4_50 hpr0 (by decide) dX4_trim_26 ?_
    refine g_icmpge (tgt := 133) dX4_trim_29 (by decide) ?_ ?_
    · refine g_iload dX4_trim_32 rfl ?_
      refine g_bipush dX4_trim_34 (by decide) ?_
      refine g_icmpge (tgt := 133) dX4_trim_36 (by decide) ?_ ?_
      · refine g_aload_n dX4_trim_39 rfl rfl ?_
        refine g_getr' (q := (pr0 + 7)) fl_RX4_31 hpr0 (by decide) (qp6 hpr0) dX4_trim_40 ?_
        refine g_iload_n dX4_trim_43 rfl rfl ?_
        refine g_iald (kp6 hpr0) dX4_trim_44 ?_
        intro x5
        refine g_iload dX4_trim_45 rfl ?_
        refine g_ishr dX4_trim_47 ?_
        refine g_iconst dX4_trim_48 (by decide) ?_
        refine g_iand dX4_trim_49 ?_
        refine g_iconst dX4_trim_50 (by decide) ?_
        refine g_icmpne (tgt := 127) dX4_trim_51 (by decide) ?_ ?_
        · refine g_aload_n dX4_trim_54 rfl rfl ?_
          refine g_getr' (q := (pr0 + 8)) fl_RX4_34 hpr0 (by decide) (qp7 hpr0) dX4_trim_55 ?_
          refine g_iload_n dX4_trim_58 rfl rfl ?_
          refine g_bipush dX4_trim_59 (by decide) ?_
          refine g_imul dX4_trim_61 ?_
          refine g_iload dX4_trim_62 rfl ?_
          refine g_iadd dX4_trim_64 ?_
          refine g_iald (kp7 hpr0) dX4_trim_65 ?_
          intro x6
          refine g_aload_n dX4_trim_66 rfl rfl ?_
          refine g_geti fl_RX4_43 hpr0 (by decide) dX4_trim_67 ?_
          refine g_icmplt (tgt := 114) dX4_trim_70 (by decide) ?_ ?_
          · refine g_aload_n dX4_trim_114 rfl rfl ?_
            refine g_getr' (q := (pr0 + 8)) fl_RX4_34 hpr0 (by decide) (qp7 hpr0) dX4_trim_115 ?_
            refine g_iload_n dX4_trim_118 rfl rfl ?_
            refine g_bipush dX4_trim_119 (by decide) ?_
            refine g_imul dX4_trim_121 ?_
            refine g_iload dX4_trim_122 rfl ?_
            refine g_iadd dX4_trim_124 ?_
            refine g_iconst dX4_trim_125 (by decide) ?_
            refine g_iast (kp7 hpr0) dX4_trim_126 ?_
            intro s7
            refine n_iinc (fun x8 => [some (.inr (.inr pr0)), some (.inl a1), some (.inl a2), some (.inl v3), some (.inl x8)]) dX4_trim_127 rfl (Nat.le_of_ble_eq_true rfl) (fun _ => rfl) ?_
            intro x8
            refine g_goto (tgt := 23) dX4_trim_130 (by decide) ?_
            exact (ih v3 x8 s7)
          · refine g_aload_n dX4_trim_73 rfl rfl ?_
            refine g_getr' (q := (pr0 + 6)) fl_RX4_28 hpr0 (by decide) (qp5 hpr0) dX4_trim_74 ?_
            refine g_iload_n dX4_trim_77 rfl rfl ?_
            refine g_iald (kp5 hpr0) dX4_trim_78 ?_
            intro x9
            refine g_iload dX4_trim_79 rfl ?_
            refine g_ishr dX4_trim_81 ?_
            refine g_iconst dX4_trim_82 (by decide) ?_
            refine g_iand dX4_trim_83 ?_
            refine g_ifne (tgt := 114) dX4_trim_84 (by decide) ?_ ?_
            · refine g_iload_n dX4_trim_87 rfl rfl ?_
              refine g_iconst dX4_trim_88 (by decide) ?_
              refine g_iload dX4_trim_89 rfl ?_
              refine g_ishl dX4_trim_91 ?_
              refine g_ior dX4_trim_92 ?_
              refine n_istore_n (fun x10 => [some (.inr (.inr pr0)), some (.inl a1), some (.inl a2), some (.inl x10), some (.inl v4)]) dX4_trim_93 rfl (Nat.le_of_ble_eq_true rfl) (fun _ => rfl) ?_
              intro x10
              refine g_aload_n dX4_trim_94 rfl rfl ?_
              refine g_getr' (q := (pr0 + 6)) fl_RX4_28 hpr0 (by decide) (qp5 hpr0) dX4_trim_95 ?_
              refine g_iload_n dX4_trim_98 rfl rfl ?_
              refine g_dup2 dX4_trim_99 rfl rfl ?_
              refine g_iald (kp5 hpr0) dX4_trim_100 ?_
              intro x11
              refine g_iconst dX4_trim_101 (by decide) ?_
              refine g_iload dX4_trim_102 rfl ?_
              refine g_ishl dX4_trim_104 ?_
              refine g_ior dX4_trim_105 ?_
              refine g_iast (kp5 hpr0) dX4_trim_106 ?_
              intro s12
              refine g_aload_n dX4_trim_107 rfl rfl ?_
              refine g_iload_n dX4_trim_108 rfl rfl ?_
              refine g_iload dX4_trim_109 rfl ?_
              refine g_callv2 (st := []) 4 mw_X4_startStrand lk_RX4_104 rfl hpr0 (ok_Pr_startStrand pr0 a2 v4 hpr0 s12) (Nat.le_of_ble_eq_true rfl) rfl rfl (Nat.le_of_ble_eq_true rfl) dX4_trim_111 ?_
              intro r13 s14
              refine g_aload_n dX4_trim_114 rfl rfl ?_
              refine g_getr' (q := (pr0 + 8)) fl_RX4_34 hpr0 (by decide) (qp7 hpr0) dX4_trim_115 ?_
              refine g_iload_n dX4_trim_118 rfl rfl ?_
              refine g_bipush dX4_trim_119 (by decide) ?_
              refine g_imul dX4_trim_121 ?_
              refine g_iload dX4_trim_122 rfl ?_
              refine g_iadd dX4_trim_124 ?_
              refine g_iconst dX4_trim_125 (by decide) ?_
              refine g_iast (kp7 hpr0) dX4_trim_126 ?_
              intro s15
              refine n_iinc (fun x16 => [some (.inr (.inr pr0)), some (.inl a1), some (.inl a2), some (.inl x10), some (.inl x16)]) dX4_trim_127 rfl (Nat.le_of_ble_eq_true rfl) (fun _ => rfl) ?_
              intro x16
              refine g_goto (tgt := 23) dX4_trim_130 (by decide) ?_
              exact (ih x10 x16 s15)
            · refine g_aload_n dX4_trim_114 rfl rfl ?_
              refine g_getr' (q := (pr0 + 8)) fl_RX4_34 hpr0 (by decide) (qp7 hpr0) dX4_trim_115 ?_
              refine g_iload_n dX4_trim_118 rfl rfl ?_
              refine g_bipush dX4_trim_119 (by decide) ?_
              refine g_imul dX4_trim_121 ?_
              refine g_iload dX4_trim_122 rfl ?_
              refine g_iadd dX4_trim_124 ?_
              refine g_iconst dX4_trim_125 (by decide) ?_
              refine g_iast (kp7 hpr0) dX4_trim_126 ?_
              intro s17
              refine n_iinc (fun x18 => [some (.inr (.inr pr0)), some (.inl a1), some (.inl a2), some (.inl v3), some (.inl x18)]) dX4_trim_127 rfl (Nat.le_of_ble_eq_true rfl) (fun _ => rfl) ?_
              intro x18
              refine g_goto (tgt := 23) dX4_trim_130 (by decide) ?_
              exact (ih v3 x18 s17)
        · refine n_iinc (fun x19 => [some (.inr (.inr pr0)), some (.inl a1), some (.inl a2), some (.inl v3), some (.inl x19)]) dX4_trim_127 rfl (Nat.le_of_ble_eq_true rfl) (fun _ => rfl) ?_
          intro x19
          refine g_goto (tgt := 23) dX4_trim_130 (by decide) ?_
          exact (ih v3 x19 σ)
      · refine g_aload_n dX4_trim_133 rfl rfl ?_
        refine g_dup dX4_trim_134 rfl ?_
        refine g_geti fl_RX4_71 hpr0 (by decide) dX4_trim_135 ?_
        refine g_iconst dX4_trim_138 (by decide) ?_
        refine g_iadd dX4_trim_139 ?_
        refine g_puti fl_RX4_71 hpr0 (by decide) dX4_trim_140 ?_
        intro s20
        refine g_iload_n dX4_trim_143 rfl rfl ?_
        exact g_iret dX4_trim_144
    · refine g_aload_n dX4_trim_133 rfl rfl ?_
      refine g_dup dX4_trim_134 rfl ?_
      refine g_geti fl_RX4_71 hpr0 (by decide) dX4_trim_135 ?_
      refine g_iconst dX4_trim_138 (by decide) ?_
      refine g_iadd dX4_trim_139 ?_
      refine g_puti fl_RX4_71 hpr0 (by decide) dX4_trim_140 ?_
      intro s21
      refine g_iload_n dX4_trim_143 rfl rfl ?_
      exact g_iret dX4_trim_144
def Pr_trim (pr0 : Nat) (a1 : Int) (a2 : Int) (σ : Sg) : Rs := (bd (Pr_isPerson pr0 a1 σ) (fun r1 s2 => (if r1 = 0 then (some (0, s2)) else (bd (Pr_isPerson pr0 a2 s2) (fun r3 s4 => (if r3 = 0 then (some (0, s4)) else (Pr_trim_L23 pr0 a1 a2 fu 0 0 s4)))))))
theorem ok_Pr_trim (pr0 : Nat) (a1 : Int) (a2 : Int) (hpr0 : Kh[pr0]? = some (.inl 4)) (σ : Sg) : MC l Kh Ph yX4_trim cX4_trim 5 0 3 [.inr (.inr pr0), .inl a1, .inl a2] σ (Pr_trim pr0 a1 a2 σ) := by
  refine mc_of (by decide) (Nat.le_of_ble_eq_true rfl) ?_
  change G l Kh Ph RX4 cX4_trim 5 0 3 0 [some (.inr (.inr pr0)), some (.inl a1), some (.inl a2), none, none] [] σ (Pr_trim pr0 a1 a2 σ)
  unfold Pr_trim
  refine g_aload_n dX4_trim_0 rfl rfl ?_
  refine g_iload_n dX4_trim_1 rfl rfl ?_
  refine g_callv3 (st := []) 4 mw_X4_isPerson lk_RX4_87 rfl hpr0 (ok_Pr_isPerson pr0 a1 hpr0 σ) (Nat.le_of_ble_eq_true rfl) rfl rfl (Nat.le_of_ble_eq_true rfl) dX4_trim_2 ?_
  intro r1 s2
  refine g_ifeq (tgt := 16) dX4_trim_5 (by decide) ?_ ?_
  · refine g_iconst dX4_trim_16 (by decide) ?_
    exact g_iret dX4_trim_17
  · refine g_aload_n dX4_trim_8 rfl rfl ?_
    refine g_iload_n dX4_trim_9 rfl rfl ?_
    refine g_callv3 (st := []) 4 mw_X4_isPerson lk_RX4_87 rfl hpr0 (ok_Pr_isPerson pr0 a2 hpr0 s2) (Nat.le_of_ble_eq_true rfl) rfl rfl (Nat.le_of_ble_eq_true rfl) dX4_trim_10 ?_
    intro r3 s4
    refine g_ifne (tgt := 18) dX4_trim_13 (by decide) ?_ ?_
    · refine g_iconst dX4_trim_16 (by decide) ?_
      exact g_iret dX4_trim_17
    · refine g_iconst dX4_trim_18 (by decide) ?_
      refine g_istore_n (lv' := [some (.inr (.inr pr0)), some (.inl a1), some (.inl a2), some (.inl 0), none]) dX4_trim_19 rfl (Nat.le_of_ble_eq_true rfl) rfl ?_
      refine g_iconst dX4_trim_20 (by decide) ?_
      refine g_istore (lv' := [some (.inr (.inr pr0)), some (.inl a1), some (.inl a2), some (.inl 0), some (.inl 0)]) dX4_trim_21 (Nat.le_of_ble_eq_true rfl) rfl ?_
      refine (ok_Pr_trim_L23 pr0 a1 a2 hpr0 fu 0 0 s4)
theorem dX11_cut_0 : decode cX11_cut 0 = .ok (.aload_n 0, 1) := by decide +kernel
theorem dX11_cut_1 : decode cX11_cut 1 = .ok (.getfield 43, 3) := by decide +kernel
theorem dX11_cut_4 : decode cX11_cut 4 = .ok (.iload_n 1, 1) := by decide +kernel
theorem dX11_cut_5 : decode cX11_cut 5 = .ok (.invokevirtual 266, 3) := by decide +kernel
theorem dX11_cut_8 : decode cX11_cut 8 = .ok (.ifCond .eq 14, 3) := by decide +kernel
theorem dX11_cut_11 : decode cX11_cut 11 = .ok (.aload_n 0, 1) := by decide +kernel
theorem dX11_cut_12 : decode cX11_cut 12 = .ok (.getfield 43, 3) := by decide +kernel
theorem dX11_cut_15 : decode cX11_cut 15 = .ok (.iload_n 2, 1) := by decide +kernel
theorem dX11_cut_16 : decode cX11_cut 16 = .ok (.invokevirtual 266, 3) := by decide +kernel
theorem dX11_cut_19 : decode cX11_cut 19 = .ok (.ifCond .ne 9, 3) := by decide +kernel
theorem dX11_cut_22 : decode cX11_cut 22 = .ok (.aload_n 0, 1) := by decide +kernel
theorem dX11_cut_23 : decode cX11_cut 23 = .ok (.iconst 2, 1) := by decide +kernel
theorem dX11_cut_24 : decode cX11_cut 24 = .ok (.invokevirtual 147, 3) := by decide +kernel
theorem dX11_cut_27 : decode cX11_cut 27 = .ok (.ireturn, 1) := by decide +kernel
theorem dX11_cut_28 : decode cX11_cut 28 = .ok (.aload_n 0, 1) := by decide +kernel
theorem dX11_cut_29 : decode cX11_cut 29 = .ok (.getfield 43, 3) := by decide +kernel
theorem dX11_cut_32 : decode cX11_cut 32 = .ok (.iload_n 1, 1) := by decide +kernel
theorem dX11_cut_33 : decode cX11_cut 33 = .ok (.iload_n 2, 1) := by decide +kernel
theorem dX11_cut_34 : decode cX11_cut 34 = .ok (.invokevirtual 324, 3) := by decide +kernel
theorem dX11_cut_37 : decode cX11_cut 37 = .ok (.ifCond .ne 10, 3) := by decide +kernel
theorem dX11_cut_40 : decode cX11_cut 40 = .ok (.aload_n 0, 1) := by decide +kernel
theorem dX11_cut_41 : decode cX11_cut 41 = .ok (.bipush 9, 2) := by decide +kernel
theorem dX11_cut_43 : decode cX11_cut 43 = .ok (.invokevirtual 147, 3) := by decide +kernel
theorem dX11_cut_46 : decode cX11_cut 46 = .ok (.ireturn, 1) := by decide +kernel
theorem dX11_cut_47 : decode cX11_cut 47 = .ok (.aload_n 0, 1) := by decide +kernel
theorem dX11_cut_48 : decode cX11_cut 48 = .ok (.aload_n 0, 1) := by decide +kernel
theorem dX11_cut_49 : decode cX11_cut 49 = .ok (.getfield 43, 3) := by decide +kernel
theorem dX11_cut_52 : decode cX11_cut 52 = .ok (.iload_n 1, 1) := by decide +kernel
theorem dX11_cut_53 : decode cX11_cut 53 = .ok (.iload_n 2, 1) := by decide +kernel
theorem dX11_cut_54 : decode cX11_cut 54 = .ok (.invokevirtual 327, 3) := by decide +kernel
theorem dX11_cut_57 : decode cX11_cut 57 = .ok (.invokevirtual 194, 3) := by decide +kernel
theorem dX11_cut_60 : decode cX11_cut 60 = .ok (.ireturn, 1) := by decide +kernel
theorem mw_X11_cut : MW yX11_cut cX11_cut 3 0 2 false := ⟨tm 1194 (by decide +kernel) rfl, tm 237 (by decide +kernel) rfl, by decide, by decide, (by rw [if_neg (by decide)]; exact ⟨tm 1192 (by decide +kernel) rfl, tm 1193 (by decide +kernel) rfl⟩)⟩
theorem lk_RX11_324 : LK RX11 324 yX4_canTrim := Or.inr ⟨"HairProvince", tm 1195 (by decide +kernel) rfl⟩
theorem lk_RX11_327 : LK RX11 327 yX4_trim := Or.inr ⟨"HairProvince", tm 1200 (by decide +kernel) rfl⟩
def H_cut (a1 : Int) (a2 : Int) (σ : Sg) : Rs := (bd (Pr_isPerson 8 a1 σ) (fun r1 s2 => (if r1 = 0 then (bd (H_fail 2 s2) (fun r3 s4 => (some (r3, s4)))) else (bd (Pr_isPerson 8 a2 s2) (fun r5 s6 => (if r5 = 0 then (bd (H_fail 2 s6) (fun r7 s8 => (some (r7, s8)))) else (bd (Pr_canTrim 8 a1 a2 s6) (fun r9 s10 => (if r9 = 0 then (bd (H_fail 9 s10) (fun r11 s12 => (some (r11, s12)))) else (bd (Pr_trim 8 a1 a2 s10) (fun r13 s14 => (bd (H_give r13 s14) (fun r15 s16 => (some (r15, s16)))))))))))))))
theorem ok_H_cut (a1 : Int) (a2 : Int) (σ : Sg) : MC l Kh Ph yX11_cut cX11_cut 3 0 4 [.inr (.inr 0), .inl a1, .inl a2] σ (H_cut a1 a2 σ) := by
  refine mc_of (by decide) (Nat.le_of_ble_eq_true rfl) ?_
  change G l Kh Ph RX11 cX11_cut 3 0 4 0 [some (.inr (.inr 0)), some (.inl a1), some (.inl a2)] [] σ (H_cut a1 a2 σ)
  unfold H_cut
  refine g_aload_n dX11_cut_0 rfl rfl ?_
  refine g_getr' (q := 8) fl_RX11_43 kh_0 (by decide) rfl dX11_cut_1 ?_
  refine g_iload_n dX11_cut_4 rfl rfl ?_
  refine g_callv3 (st := []) 4 mw_X4_isPerson lk_RX11_266 rfl kh_8 (ok_Pr_isPerson 8 a1 kh_8 σ) (Nat.le_of_ble_eq_true rfl) rfl rfl (Nat.le_of_ble_eq_true rfl) dX11_cut_5 ?_
  intro r1 s2
  refine g_ifeq (tgt := 22) dX11_cut_8 (by decide) ?_ ?_
  · refine g_aload_n dX11_cut_22 rfl rfl ?_
    refine g_iconst dX11_cut_23 (by decide) ?_
    refine g_callv0 (st := []) 9 mw_X11_fail lk_RX11_147 rfl kh_0 (ok_H_fail 2 s2) (Nat.le_of_ble_eq_true rfl) rfl rfl (Nat.le_of_ble_eq_true rfl) dX11_cut_24 ?_
    intro r3 s4
    exact g_iret dX11_cut_27
  · refine g_aload_n dX11_cut_11 rfl rfl ?_
    refine g_getr' (q := 8) fl_RX11_43 kh_0 (by decide) rfl dX11_cut_12 ?_
    refine g_iload_n dX11_cut_15 rfl rfl ?_
    refine g_callv3 (st := []) 4 mw_X4_isPerson lk_RX11_266 rfl kh_8 (ok_Pr_isPerson 8 a2 kh_8 s2) (Nat.le_of_ble_eq_true rfl) rfl rfl (Nat.le_of_ble_eq_true rfl) dX11_cut_16 ?_
    intro r5 s6
    refine g_ifne (tgt := 28) dX11_cut_19 (by decide) ?_ ?_
    · refine g_aload_n dX11_cut_22 rfl rfl ?_
      refine g_iconst dX11_cut_23 (by decide) ?_
      refine g_callv0 (st := []) 9 mw_X11_fail lk_RX11_147 rfl kh_0 (ok_H_fail 2 s6) (Nat.le_of_ble_eq_true rfl) rfl rfl (Nat.le_of_ble_eq_true rfl) dX11_cut_24 ?_
      intro r7 s8
      exact g_iret dX11_cut_27
    · refine g_aload_n dX11_cut_28 rfl rfl ?_
      refine g_getr' (q := 8) fl_RX11_43 kh_0 (by decide) rfl dX11_cut_29 ?_
      refine g_iload_n dX11_cut_32 rfl rfl ?_
      refine g_iload_n dX11_cut_33 rfl rfl ?_
      refine g_callv3 (st := []) 4 mw_X4_canTrim lk_RX11_324 rfl kh_8 (ok_Pr_canTrim 8 a1 a2 kh_8 s6) (Nat.le_of_ble_eq_true rfl) rfl rfl (Nat.le_of_ble_eq_true rfl) dX11_cut_34 ?_
      intro r9 s10
      refine g_ifne (tgt := 47) dX11_cut_37 (by decide) ?_ ?_
      · refine g_aload_n dX11_cut_40 rfl rfl ?_
        refine g_bipush dX11_cut_41 (by decide) ?_
        refine g_callv0 (st := []) 9 mw_X11_fail lk_RX11_147 rfl kh_0 (ok_H_fail 9 s10) (Nat.le_of_ble_eq_true rfl) rfl rfl (Nat.le_of_ble_eq_true rfl) dX11_cut_43 ?_
        intro r11 s12
        exact g_iret dX11_cut_46
      · refine g_aload_n dX11_cut_47 rfl rfl ?_
        refine g_aload_n dX11_cut_48 rfl rfl ?_
        refine g_getr' (q := 8) fl_RX11_43 kh_0 (by decide) rfl dX11_cut_49 ?_
        refine g_iload_n dX11_cut_52 rfl rfl ?_
        refine g_iload_n dX11_cut_53 rfl rfl ?_
        refine g_callv0 (st := [.inr (.inr 0)]) 4 mw_X4_trim lk_RX11_327 rfl kh_8 (ok_Pr_trim 8 a1 a2 kh_8 s10) (Nat.le_of_ble_eq_true rfl) rfl rfl (Nat.le_of_ble_eq_true rfl) dX11_cut_54 ?_
        intro r13 s14
        refine g_callv0 (st := []) 9 mw_X11_give lk_RX11_194 rfl kh_0 (ok_H_give r13 s14) (Nat.le_of_ble_eq_true rfl) rfl rfl (Nat.le_of_ble_eq_true rfl) dX11_cut_57 ?_
        intro r15 s16
        exact g_iret dX11_cut_60
theorem dX4_longestOf_0 : decode cX4_longestOf 0 = .ok (.iload_n 1, 1) := by decide +kernel
theorem dX4_longestOf_1 : decode cX4_longestOf 1 = .ok (.ifCond .lt 9, 3) := by decide +kernel
theorem dX4_longestOf_4 : decode cX4_longestOf 4 = .ok (.iload_n 1, 1) := by decide +kernel
theorem dX4_longestOf_5 : decode cX4_longestOf 5 = .ok (.bipush 6, 2) := by decide +kernel
theorem dX4_longestOf_7 : decode cX4_longestOf 7 = .ok (.if_icmp .lt 5, 3) := by decide +kernel
theorem dX4_longestOf_10 : decode cX4_longestOf 10 = .ok (.iconst (-1), 1) := by decide +kernel
theorem dX4_longestOf_11 : decode cX4_longestOf 11 = .ok (.ireturn, 1) := by decide +kernel
theorem dX4_longestOf_12 : decode cX4_longestOf 12 = .ok (.iconst (-1), 1) := by decide +kernel
theorem dX4_longestOf_13 : decode cX4_longestOf 13 = .ok (.istore_n 3, 1) := by decide +kernel
theorem dX4_longestOf_14 : decode cX4_longestOf 14 = .ok (.iconst (-1), 1) := by decide +kernel
theorem dX4_longestOf_15 : decode cX4_longestOf 15 = .ok (.istore 4, 2) := by decide +kernel
theorem dX4_longestOf_17 : decode cX4_longestOf 17 = .ok (.iconst 0, 1) := by decide +kernel
theorem dX4_longestOf_18 : decode cX4_longestOf 18 = .ok (.istore 5, 2) := by decide +kernel
theorem dX4_longestOf_20 : decode cX4_longestOf 20 = .ok (.iload 5, 2) := by decide +kernel
theorem dX4_longestOf_22 : decode cX4_longestOf 22 = .ok (.aload_n 0, 1) := by decide +kernel
theorem dX4_longestOf_23 : decode cX4_longestOf 23 = .ok (.getfield 50, 3) := by decide +kernel
theorem dX4_longestOf_26 : decode cX4_longestOf 26 = .ok (.if_icmp .ge 65, 3) := by decide +kernel
theorem dX4_longestOf_29 : decode cX4_longestOf 29 = .ok (.iload 5, 2) := by decide +kernel
theorem dX4_longestOf_31 : decode cX4_longestOf 31 = .ok (.bipush 8, 2) := by decide +kernel
theorem dX4_longestOf_33 : decode cX4_longestOf 33 = .ok (.if_icmp .ge 58, 3) := by decide +kernel
theorem dX4_longestOf_36 : decode cX4_longestOf 36 = .ok (.iload_n 1, 1) := by decide +kernel
theorem dX4_longestOf_37 : decode cX4_longestOf 37 = .ok (.bipush 8, 2) := by decide +kernel
theorem dX4_longestOf_39 : decode cX4_longestOf 39 = .ok (.imul, 1) := by decide +kernel
theorem dX4_longestOf_40 : decode cX4_longestOf 40 = .ok (.iload 5, 2) := by decide +kernel
theorem dX4_longestOf_42 : decode cX4_longestOf 42 = .ok (.iadd, 1) := by decide +kernel
theorem dX4_longestOf_43 : decode cX4_longestOf 43 = .ok (.istore 6, 2) := by decide +kernel
theorem dX4_longestOf_45 : decode cX4_longestOf 45 = .ok (.aload_n 0, 1) := by decide +kernel
theorem dX4_longestOf_46 : decode cX4_longestOf 46 = .ok (.getfield 31, 3) := by decide +kernel
theorem dX4_longestOf_49 : decode cX4_longestOf 49 = .ok (.iload_n 1, 1) := by decide +kernel
theorem dX4_longestOf_50 : decode cX4_longestOf 50 = .ok (.iaload, 1) := by decide +kernel
theorem dX4_longestOf_51 : decode cX4_longestOf 51 = .ok (.iload_n 2, 1) := by decide +kernel
theorem dX4_longestOf_52 : decode cX4_longestOf 52 = .ok (.iand, 1) := by decide +kernel
theorem dX4_longestOf_53 : decode cX4_longestOf 53 = .ok (.iconst 1, 1) := by decide +kernel
theorem dX4_longestOf_54 : decode cX4_longestOf 54 = .ok (.iload 5, 2) := by decide +kernel
theorem dX4_longestOf_56 : decode cX4_longestOf 56 = .ok (.ishl, 1) := by decide +kernel
theorem dX4_longestOf_57 : decode cX4_longestOf 57 = .ok (.iand, 1) := by decide +kernel
theorem dX4_longestOf_58 : decode cX4_longestOf 58 = .ok (.ifCond .eq 27, 3) := by decide +kernel
theorem dX4_longestOf_61 : decode cX4_longestOf 61 = .ok (.aload_n 0, 1) := by decide +kernel
theorem dX4_longestOf_62 : decode cX4_longestOf 62 = .ok (.getfield 34, 3) := by decide +kernel
theorem dX4_longestOf_65 : decode cX4_longestOf 65 = .ok (.iload 6, 2) := by decide +kernel
theorem dX4_longestOf_67 : decode cX4_longestOf 67 = .ok (.iaload, 1) := by decide +kernel
theorem dX4_longestOf_68 : decode cX4_longestOf 68 = .ok (.iload 4, 2) := by decide +kernel
theorem dX4_longestOf_70 : decode cX4_longestOf 70 = .ok (.if_icmp .le 15, 3) := by decide +kernel
theorem dX4_longestOf_73 : decode cX4_longestOf 73 = .ok (.aload_n 0, 1) := by decide +kernel
theorem dX4_longestOf_74 : decode cX4_longestOf 74 = .ok (.getfield 34, 3) := by decide +kernel
theorem dX4_longestOf_77 : decode cX4_longestOf 77 = .ok (.iload 6, 2) := by decide +kernel
theorem dX4_longestOf_79 : decode cX4_longestOf 79 = .ok (.iaload, 1) := by decide +kernel
theorem dX4_longestOf_80 : decode cX4_longestOf 80 = .ok (.istore 4, 2) := by decide +kernel
theorem dX4_longestOf_82 : decode cX4_longestOf 82 = .ok (.iload 5, 2) := by decide +kernel
theorem dX4_longestOf_84 : decode cX4_longestOf 84 = .ok (.istore_n 3, 1) := by decide +kernel
theorem dX4_longestOf_85 : decode cX4_longestOf 85 = .ok (.iinc 5 1, 3) := by decide +kernel
theorem dX4_longestOf_88 : decode cX4_longestOf 88 = .ok (.goto (-68), 3) := by decide +kernel
theorem dX4_longestOf_91 : decode cX4_longestOf 91 = .ok (.iload_n 3, 1) := by decide +kernel
theorem dX4_longestOf_92 : decode cX4_longestOf 92 = .ok (.ireturn, 1) := by decide +kernel
theorem mw_X4_longestOf : MW yX4_longestOf cX4_longestOf 7 0 2 false := ⟨tm 1115 (by decide +kernel) rfl, tm 240 (by decide +kernel) rfl, by decide, by decide, (by rw [if_neg (by decide)]; exact ⟨tm 1114 (by decide +kernel) rfl, tm 63 (by decide +kernel) rfl⟩)⟩
def Pr_longestOf_L20 (pr0 : Nat) (a1 : Int) (a2 : Int) : Nat → Int → Int → Int → Sg → Rs
  | 0, _, _, _, _ => none
  | n + 1, v3, v4, v5, σ => (if v5 < (σ pr0 10) then (if v5 < 8 then (nm (w32 ((w32 (a1 * 8)) + v5)) (fun x1 => (rd 6 a1 (σ (pr0 + 7) (Int.toNat a1)) (fun x2 => (if (an32 (an32 x2 a2) (sl32 1 v5)) = 0 then (nm (w32 (v5 + 1)) (fun x3 => (Pr_longestOf_L20 pr0 a1 a2 n v3 v4 x3 σ))) else (rd 48 x1 (σ (pr0 + 8) (Int.toNat x1)) (fun x4 => (if v4 < x4 then (rd 48 x1 (σ (pr0 + 8) (Int.toNat x1)) (fun x5 => (nm (w32 (v5 + 1)) (fun x6 => (Pr_longestOf_L20 pr0 a1 a2 n v5 x5 x6 σ))))) else (nm (w32 (v5 + 1)) (fun x7 => (Pr_longestOf_L20 pr0 a1 a2 n v3 v4 x7 σ))))))))))) else (some (v3, σ))) else (some (v3, σ)))
theorem ok_Pr_longestOf_L20 (pr0 : Nat) (a1 : Int) (a2 : Int) (hpr0 : Kh[pr0]? = some (.inl 4)) : ∀ (n : Nat) (v3 v4 v5 : Int) (σ : Sg), G l Kh Ph RX4 cX4_longestOf 7 0 1 20 [some (.inr (.inr pr0)), some (.inl a1), some (.inl a2), some (.inl v3), some (.inl v4), some (.inl v5), none] [] σ (Pr_longestOf_L20 pr0 a1 a2 n v3 v4 v5 σ) := by
  intro n
  induction n with
  | zero => intros; exact G.none_
  | succ n ih =>
    intro v3 v4 v5 σ
    rw [Pr_longestOf_L20]
    refine g_iload dX4_longestOf_20 rfl ?_
    refine g_aload_n dX4_longestOf_22 rfl rfl ?_
    refine g_geti fl_RX4_50 hpr0 (by decide) dX4_longestOf_23 ?_
    refine g_icmpge (tgt := 91) dX4_longestOf_26 (by decide) ?_ ?_
    · refine g_iload dX4_longestOf_29 rfl ?_
      refine g_bipush dX4_longestOf_31 (by decide) ?_
      refine g_icmpge (tgt := 91) dX4_longestOf_33 (by decide) ?_ ?_
      · refine g_iload_n dX4_longestOf_36 rfl rfl ?_
        refine g_bipush dX4_longestOf_37 (by decide) ?_
        refine g_imul dX4_longestOf_39 ?_
        refine g_iload dX4_longestOf_40 rfl ?_
        refine g_iadd dX4_longestOf_42 ?_
        refine n_istore (fun x1 => [some (.inr (.inr pr0)), some (.inl a1), some (.inl a2), some (.inl v3), some (.inl v4), some (.inl v5), some (.inl x1)]) dX4_longestOf_43 (Nat.le_of_ble_eq_true rfl) (fun _ => rfl) ?_
        intro x1
        refine g_aload_n dX4_longestOf_45 rfl rfl ?_
        refine g_getr' (q := (pr0 + 7)) fl_RX4_31 hpr0 (by decide) (qp6 hpr0) dX4_longestOf_46 ?_
        refine g_iload_n dX4_longestOf_49 rfl rfl ?_
        refine g_iald (kp6 hpr0) dX4_longestOf_50 ?_
        intro x2
        refine g_iload_n dX4_longestOf_51 rfl rfl ?_
        refine g_iand dX4_longestOf_52 ?_
        refine g_iconst dX4_longestOf_53 (by decide) ?_
        refine g_iload dX4_longestOf_54 rfl ?_
        refine g_ishl dX4_longestOf_56 ?_
        refine g_iand dX4_longestOf_57 ?_
        refine g_ifeq (tgt := 85) dX4_longestOf_58 (by decide) ?_ ?_
        · refine n_iinc (fun x3 => [some (.inr (.inr pr0)), some (.inl a1), some (.inl a2), some (.inl v3), some (.inl v4), some (.inl x3), some (.inl x1)]) dX4_longestOf_85 rfl (Nat.le_of_ble_eq_true rfl) (fun _ => rfl) ?_
          intro x3
          refine g_goto (tgt := 20) dX4_longestOf_88 (by decide) ?_
          exact (g_weak [true, true, true, true, true, true, false] (ih v3 v4 x3 σ))
        · refine g_aload_n dX4_longestOf_61 rfl rfl ?_
          refine g_getr' (q := (pr0 + 8)) fl_RX4_34 hpr0 (by decide) (qp7 hpr0) dX4_longestOf_62 ?_
          refine g_iload dX4_longestOf_65 rfl ?_
          refine g_iald (kp7 hpr0) dX4_longestOf_67 ?_
          intro x4
          refine g_iload dX4_longestOf_68 rfl ?_
          refine g_icmple (tgt := 85) dX4_longestOf_70 (by decide) ?_ ?_
          · refine g_aload_n dX4_longestOf_73 rfl rfl ?_
            refine g_getr' (q := (pr0 + 8)) fl_RX4_34 hpr0 (by decide) (qp7 hpr0) dX4_longestOf_74 ?_
            refine g_iload dX4_longestOf_77 rfl ?_
            refine g_iald (kp7 hpr0) dX4_longestOf_79 ?_
            intro x5
            refine g_istore (lv' := [some (.inr (.inr pr0)), some (.inl a1), some (.inl a2), some (.inl v3), some (.inl x5), some (.inl v5), some (.inl x1)]) dX4_longestOf_80 (Nat.le_of_ble_eq_true rfl) rfl ?_
            refine g_iload dX4_longestOf_82 rfl ?_
            refine g_istore_n (lv' := [some (.inr (.inr pr0)), some (.inl a1), some (.inl a2), some (.inl v5), some (.inl x5), some (.inl v5), some (.inl x1)]) dX4_longestOf_84 rfl (Nat.le_of_ble_eq_true rfl) rfl ?_
            refine n_iinc (fun x6 => [some (.inr (.inr pr0)), some (.inl a1), some (.inl a2), some (.inl v5), some (.inl x5), some (.inl x6), some (.inl x1)]) dX4_longestOf_85 rfl (Nat.le_of_ble_eq_true rfl) (fun _ => rfl) ?_
            intro x6
            refine g_goto (tgt := 20) dX4_longestOf_88 (by decide) ?_
            exact (g_weak [true, true, true, true, true, true, false] (ih v5 x5 x6 σ))
          · refine n_iinc (fun x7 => [some (.inr (.inr pr0)), some (.inl a1), some (.inl a2), some (.inl v3), some (.inl v4), some (.inl x7), some (.inl x1)]) dX4_longestOf_85 rfl (Nat.le_of_ble_eq_true rfl) (fun _ => rfl) ?_
            intro x7
            refine g_goto (tgt := 20) dX4_longestOf_88 (by decide) ?_
            exact (g_weak [true, true, true, true, true, true, false] (ih v3 v4 x7 σ))
      · refine g_iload_n dX4_longestOf_91 rfl rfl ?_
        exact g_iret dX4_longestOf_92
    · refine g_iload_n dX4_longestOf_91 rfl rfl ?_
      exact g_iret dX4_longestOf_92
def Pr_longestOf (pr0 : Nat) (a1 : Int) (a2 : Int) (σ : Sg) : Rs := (if a1 < 0 then (some ((-1), σ)) else (if a1 < 6 then (Pr_longestOf_L20 pr0 a1 a2 fu (-1) (-1) 0 σ) else (some ((-1), σ))))
theorem ok_Pr_longestOf (pr0 : Nat) (a1 : Int) (a2 : Int) (hpr0 : Kh[pr0]? = some (.inl 4)) (σ : Sg) : MC l Kh Ph yX4_longestOf cX4_longestOf 7 0 1 [.inr (.inr pr0), .inl a1, .inl a2] σ (Pr_longestOf pr0 a1 a2 σ) := by
  refine mc_of (by decide) (Nat.le_of_ble_eq_true rfl) ?_
  change G l Kh Ph RX4 cX4_longestOf 7 0 1 0 [some (.inr (.inr pr0)), some (.inl a1), some (.inl a2), none, none, none, none] [] σ (Pr_longestOf pr0 a1 a2 σ)
  unfold Pr_longestOf
  refine g_iload_n dX4_longestOf_0 rfl rfl ?_
  refine g_iflt (tgt := 10) dX4_longestOf_1 (by decide) ?_ ?_
  · refine g_iconst dX4_longestOf_10 (by decide) ?_
    exact g_iret dX4_longestOf_11
  · refine g_iload_n dX4_longestOf_4 rfl rfl ?_
    refine g_bipush dX4_longestOf_5 (by decide) ?_
    refine g_icmplt (tgt := 12) dX4_longestOf_7 (by decide) ?_ ?_
    · refine g_iconst dX4_longestOf_12 (by decide) ?_
      refine g_istore_n (lv' := [some (.inr (.inr pr0)), some (.inl a1), some (.inl a2), some (.inl (-1)), none, none, none]) dX4_longestOf_13 rfl (Nat.le_of_ble_eq_true rfl) rfl ?_
      refine g_iconst dX4_longestOf_14 (by decide) ?_
      refine g_istore (lv' := [some (.inr (.inr pr0)), some (.inl a1), some (.inl a2), some (.inl (-1)), some (.inl (-1)), none, none]) dX4_longestOf_15 (Nat.le_of_ble_eq_true rfl) rfl ?_
      refine g_iconst dX4_longestOf_17 (by decide) ?_
      refine g_istore (lv' := [some (.inr (.inr pr0)), some (.inl a1), some (.inl a2), some (.inl (-1)), some (.inl (-1)), some (.inl 0), none]) dX4_longestOf_18 (Nat.le_of_ble_eq_true rfl) rfl ?_
      refine (ok_Pr_longestOf_L20 pr0 a1 a2 hpr0 fu (-1) (-1) 0 σ)
    · refine g_iconst dX4_longestOf_10 (by decide) ?_
      exact g_iret dX4_longestOf_11
theorem dX4_speak_0 : decode cX4_speak 0 = .ok (.aload_n 0, 1) := by decide +kernel
theorem dX4_speak_1 : decode cX4_speak 1 = .ok (.iload_n 1, 1) := by decide +kernel
theorem dX4_speak_2 : decode cX4_speak 2 = .ok (.invokevirtual 87, 3) := by decide +kernel
theorem dX4_speak_5 : decode cX4_speak 5 = .ok (.ifCond .eq 45, 3) := by decide +kernel
theorem dX4_speak_8 : decode cX4_speak 8 = .ok (.aload_n 0, 1) := by decide +kernel
theorem dX4_speak_9 : decode cX4_speak 9 = .ok (.iload_n 2, 1) := by decide +kernel
theorem dX4_speak_10 : decode cX4_speak 10 = .ok (.invokevirtual 80, 3) := by decide +kernel
theorem dX4_speak_13 : decode cX4_speak 13 = .ok (.ifCond .eq 37, 3) := by decide +kernel
theorem dX4_speak_16 : decode cX4_speak 16 = .ok (.aload_n 0, 1) := by decide +kernel
theorem dX4_speak_17 : decode cX4_speak 17 = .ok (.iload_n 3, 1) := by decide +kernel
theorem dX4_speak_18 : decode cX4_speak 18 = .ok (.invokevirtual 87, 3) := by decide +kernel
theorem dX4_speak_21 : decode cX4_speak 21 = .ok (.ifCond .eq 29, 3) := by decide +kernel
theorem dX4_speak_24 : decode cX4_speak 24 = .ok (.aload_n 0, 1) := by decide +kernel
theorem dX4_speak_25 : decode cX4_speak 25 = .ok (.getfield 28, 3) := by decide +kernel
theorem dX4_speak_28 : decode cX4_speak 28 = .ok (.iload_n 3, 1) := by decide +kernel
theorem dX4_speak_29 : decode cX4_speak 29 = .ok (.dup2, 1) := by decide +kernel
theorem dX4_speak_30 : decode cX4_speak 30 = .ok (.iaload, 1) := by decide +kernel
theorem dX4_speak_31 : decode cX4_speak 31 = .ok (.iconst 1, 1) := by decide +kernel
theorem dX4_speak_32 : decode cX4_speak 32 = .ok (.iload_n 2, 1) := by decide +kernel
theorem dX4_speak_33 : decode cX4_speak 33 = .ok (.ishl, 1) := by decide +kernel
theorem dX4_speak_34 : decode cX4_speak 34 = .ok (.ior, 1) := by decide +kernel
theorem dX4_speak_35 : decode cX4_speak 35 = .ok (.iastore, 1) := by decide +kernel
theorem dX4_speak_36 : decode cX4_speak 36 = .ok (.aload_n 0, 1) := by decide +kernel
theorem dX4_speak_37 : decode cX4_speak 37 = .ok (.getfield 31, 3) := by decide +kernel
theorem dX4_speak_40 : decode cX4_speak 40 = .ok (.iload_n 1, 1) := by decide +kernel
theorem dX4_speak_41 : decode cX4_speak 41 = .ok (.dup2, 1) := by decide +kernel
theorem dX4_speak_42 : decode cX4_speak 42 = .ok (.iaload, 1) := by decide +kernel
theorem dX4_speak_43 : decode cX4_speak 43 = .ok (.iconst 1, 1) := by decide +kernel
theorem dX4_speak_44 : decode cX4_speak 44 = .ok (.iload_n 2, 1) := by decide +kernel
theorem dX4_speak_45 : decode cX4_speak 45 = .ok (.ishl, 1) := by decide +kernel
theorem dX4_speak_46 : decode cX4_speak 46 = .ok (.iconst (-1), 1) := by decide +kernel
theorem dX4_speak_47 : decode cX4_speak 47 = .ok (.ixor, 1) := by decide +kernel
theorem dX4_speak_48 : decode cX4_speak 48 = .ok (.iand, 1) := by decide +kernel
theorem dX4_speak_49 : decode cX4_speak 49 = .ok (.iastore, 1) := by decide +kernel
theorem dX4_speak_50 : decode cX4_speak 50 = .ok (.return_, 1) := by decide +kernel
theorem mw_X4_speak : MW yX4_speak cX4_speak 4 2 3 false := ⟨tm 1154 (by decide +kernel) rfl, tm 240 (by decide +kernel) rfl, by decide, by decide, (by rw [if_neg (by decide)]; exact ⟨tm 1153 (by decide +kernel) rfl, tm 69 (by decide +kernel) rfl⟩)⟩
def Pr_speak (pr0 : Nat) (a1 : Int) (a2 : Int) (a3 : Int) (σ : Sg) : Rs := (bd (Pr_isPerson pr0 a1 σ) (fun r1 s2 => (if r1 = 0 then (some (0, s2)) else (bd (Pr_isWord pr0 a2 s2) (fun r3 s4 => (if r3 = 0 then (some (0, s4)) else (bd (Pr_isPerson pr0 a3 s4) (fun r5 s6 => (if r5 = 0 then (some (0, s6)) else (rd 6 a3 (s6 (pr0 + 6) (Int.toNat a3)) (fun x7 => (wr 6 a3 (up_s s6 (pr0 + 6) (Int.toNat a3) (or32 x7 (sl32 1 a2))) (fun s8 => (rd 6 a1 (s8 (pr0 + 7) (Int.toNat a1)) (fun x9 => (wr 6 a1 (up_s s8 (pr0 + 7) (Int.toNat a1) (an32 x9 (xo32 (sl32 1 a2) (-1)))) (fun s10 => (some (0, s10)))))))))))))))))))
theorem ok_Pr_speak (pr0 : Nat) (a1 : Int) (a2 : Int) (a3 : Int) (hpr0 : Kh[pr0]? = some (.inl 4)) (σ : Sg) : MC l Kh Ph yX4_speak cX4_speak 4 2 2 [.inr (.inr pr0), .inl a1, .inl a2, .inl a3] σ (Pr_speak pr0 a1 a2 a3 σ) := by
  refine mc_of (by decide) (Nat.le_of_ble_eq_true rfl) ?_
  change G l Kh Ph RX4 cX4_speak 4 2 2 0 [some (.inr (.inr pr0)), some (.inl a1), some (.inl a2), some (.inl a3)] [] σ (Pr_speak pr0 a1 a2 a3 σ)
  unfold Pr_speak
  refine g_aload_n dX4_speak_0 rfl rfl ?_
  refine g_iload_n dX4_speak_1 rfl rfl ?_
  refine g_callv3 (st := []) 4 mw_X4_isPerson lk_RX4_87 rfl hpr0 (ok_Pr_isPerson pr0 a1 hpr0 σ) (Nat.le_of_ble_eq_true rfl) rfl rfl (Nat.le_of_ble_eq_true rfl) dX4_speak_2 ?_
  intro r1 s2
  refine g_ifeq (tgt := 50) dX4_speak_5 (by decide) ?_ ?_
  · exact g_vret dX4_speak_50
  · refine g_aload_n dX4_speak_8 rfl rfl ?_
    refine g_iload_n dX4_speak_9 rfl rfl ?_
    refine g_callv3 (st := []) 4 mw_X4_isWord lk_RX4_80 rfl hpr0 (ok_Pr_isWord pr0 a2 hpr0 s2) (Nat.le_of_ble_eq_true rfl) rfl rfl (Nat.le_of_ble_eq_true rfl) dX4_speak_10 ?_
    intro r3 s4
    refine g_ifeq (tgt := 50) dX4_speak_13 (by decide) ?_ ?_
    · exact g_vret dX4_speak_50
    · refine g_aload_n dX4_speak_16 rfl rfl ?_
      refine g_iload_n dX4_speak_17 rfl rfl ?_
      refine g_callv3 (st := []) 4 mw_X4_isPerson lk_RX4_87 rfl hpr0 (ok_Pr_isPerson pr0 a3 hpr0 s4) (Nat.le_of_ble_eq_true rfl) rfl rfl (Nat.le_of_ble_eq_true rfl) dX4_speak_18 ?_
      intro r5 s6
      refine g_ifeq (tgt := 50) dX4_speak_21 (by decide) ?_ ?_
      · exact g_vret dX4_speak_50
      · refine g_aload_n dX4_speak_24 rfl rfl ?_
        refine g_getr' (q := (pr0 + 6)) fl_RX4_28 hpr0 (by decide) (qp5 hpr0) dX4_speak_25 ?_
        refine g_iload_n dX4_speak_28 rfl rfl ?_
        refine g_dup2 dX4_speak_29 rfl rfl ?_
        refine g_iald (kp5 hpr0) dX4_speak_30 ?_
        intro x7
        refine g_iconst dX4_speak_31 (by decide) ?_
        refine g_iload_n dX4_speak_32 rfl rfl ?_
        refine g_ishl dX4_speak_33 ?_
        refine g_ior dX4_speak_34 ?_
        refine g_iast (kp5 hpr0) dX4_speak_35 ?_
        intro s8
        refine g_aload_n dX4_speak_36 rfl rfl ?_
        refine g_getr' (q := (pr0 + 7)) fl_RX4_31 hpr0 (by decide) (qp6 hpr0) dX4_speak_37 ?_
        refine g_iload_n dX4_speak_40 rfl rfl ?_
        refine g_dup2 dX4_speak_41 rfl rfl ?_
        refine g_iald (kp6 hpr0) dX4_speak_42 ?_
        intro x9
        refine g_iconst dX4_speak_43 (by decide) ?_
        refine g_iload_n dX4_speak_44 rfl rfl ?_
        refine g_ishl dX4_speak_45 ?_
        refine g_iconst dX4_speak_46 (by decide) ?_
        refine g_ixor dX4_speak_47 ?_
        refine g_iand dX4_speak_48 ?_
        refine g_iast (kp6 hpr0) dX4_speak_49 ?_
        intro s10
        exact g_vret dX4_speak_50
theorem dX4_blurt_0 : decode cX4_blurt 0 = .ok (.aload_n 0, 1) := by decide +kernel
theorem dX4_blurt_1 : decode cX4_blurt 1 = .ok (.iload_n 1, 1) := by decide +kernel
theorem dX4_blurt_2 : decode cX4_blurt 2 = .ok (.invokevirtual 87, 3) := by decide +kernel
theorem dX4_blurt_5 : decode cX4_blurt 5 = .ok (.ifCond .eq 25, 3) := by decide +kernel
theorem dX4_blurt_8 : decode cX4_blurt 8 = .ok (.aload_n 0, 1) := by decide +kernel
theorem dX4_blurt_9 : decode cX4_blurt 9 = .ok (.iload_n 2, 1) := by decide +kernel
theorem dX4_blurt_10 : decode cX4_blurt 10 = .ok (.invokevirtual 87, 3) := by decide +kernel
theorem dX4_blurt_13 : decode cX4_blurt 13 = .ok (.ifCond .eq 17, 3) := by decide +kernel
theorem dX4_blurt_16 : decode cX4_blurt 16 = .ok (.aload_n 0, 1) := by decide +kernel
theorem dX4_blurt_17 : decode cX4_blurt 17 = .ok (.iload_n 1, 1) := by decide +kernel
theorem dX4_blurt_18 : decode cX4_blurt 18 = .ok (.invokevirtual 90, 3) := by decide +kernel
theorem dX4_blurt_21 : decode cX4_blurt 21 = .ok (.aload_n 0, 1) := by decide +kernel
theorem dX4_blurt_22 : decode cX4_blurt 22 = .ok (.getfield 25, 3) := by decide +kernel
theorem dX4_blurt_25 : decode cX4_blurt 25 = .ok (.iload_n 1, 1) := by decide +kernel
theorem dX4_blurt_26 : decode cX4_blurt 26 = .ok (.iaload, 1) := by decide +kernel
theorem dX4_blurt_27 : decode cX4_blurt 27 = .ok (.if_icmp .gt 4, 3) := by decide +kernel
theorem dX4_blurt_30 : decode cX4_blurt 30 = .ok (.return_, 1) := by decide +kernel
theorem dX4_blurt_31 : decode cX4_blurt 31 = .ok (.aload_n 0, 1) := by decide +kernel
theorem dX4_blurt_32 : decode cX4_blurt 32 = .ok (.iload_n 1, 1) := by decide +kernel
theorem dX4_blurt_33 : decode cX4_blurt 33 = .ok (.aload_n 0, 1) := by decide +kernel
theorem dX4_blurt_34 : decode cX4_blurt 34 = .ok (.getfield 28, 3) := by decide +kernel
theorem dX4_blurt_37 : decode cX4_blurt 37 = .ok (.iload_n 2, 1) := by decide +kernel
theorem dX4_blurt_38 : decode cX4_blurt 38 = .ok (.iaload, 1) := by decide +kernel
theorem dX4_blurt_39 : decode cX4_blurt 39 = .ok (.iconst (-1), 1) := by decide +kernel
theorem dX4_blurt_40 : decode cX4_blurt 40 = .ok (.ixor, 1) := by decide +kernel
theorem dX4_blurt_41 : decode cX4_blurt 41 = .ok (.invokevirtual 134, 3) := by decide +kernel
theorem dX4_blurt_44 : decode cX4_blurt 44 = .ok (.istore_n 3, 1) := by decide +kernel
theorem dX4_blurt_45 : decode cX4_blurt 45 = .ok (.iload_n 3, 1) := by decide +kernel
theorem dX4_blurt_46 : decode cX4_blurt 46 = .ok (.iconst (-1), 1) := by decide +kernel
theorem dX4_blurt_47 : decode cX4_blurt 47 = .ok (.if_icmp .eq 20, 3) := by decide +kernel
theorem dX4_blurt_50 : decode cX4_blurt 50 = .ok (.aload_n 0, 1) := by decide +kernel
theorem dX4_blurt_51 : decode cX4_blurt 51 = .ok (.iload_n 1, 1) := by decide +kernel
theorem dX4_blurt_52 : decode cX4_blurt 52 = .ok (.iload_n 3, 1) := by decide +kernel
theorem dX4_blurt_53 : decode cX4_blurt 53 = .ok (.iload_n 2, 1) := by decide +kernel
theorem dX4_blurt_54 : decode cX4_blurt 54 = .ok (.invokevirtual 137, 3) := by decide +kernel
theorem dX4_blurt_57 : decode cX4_blurt 57 = .ok (.aload_n 0, 1) := by decide +kernel
theorem dX4_blurt_58 : decode cX4_blurt 58 = .ok (.dup, 1) := by decide +kernel
theorem dX4_blurt_59 : decode cX4_blurt 59 = .ok (.getfield 68, 3) := by decide +kernel
theorem dX4_blurt_62 : decode cX4_blurt 62 = .ok (.iconst 1, 1) := by decide +kernel
theorem dX4_blurt_63 : decode cX4_blurt 63 = .ok (.iadd, 1) := by decide +kernel
theorem dX4_blurt_64 : decode cX4_blurt 64 = .ok (.putfield 68, 3) := by decide +kernel
theorem dX4_blurt_67 : decode cX4_blurt 67 = .ok (.return_, 1) := by decide +kernel
theorem mw_X4_blurt : MW yX4_blurt cX4_blurt 4 2 2 false := ⟨tm 1149 (by decide +kernel) rfl, tm 240 (by decide +kernel) rfl, by decide, by decide, (by rw [if_neg (by decide)]; exact ⟨tm 1148 (by decide +kernel) rfl, tm 68 (by decide +kernel) rfl⟩)⟩
theorem lk_RX4_90 : LK RX4 90 yX4_hairOf := Or.inl (tm 1057 (by decide +kernel) rfl)
theorem lk_RX4_134 : LK RX4 134 yX4_longestOf := Or.inl (tm 1150 (by decide +kernel) rfl)
theorem lk_RX4_137 : LK RX4 137 yX4_speak := Or.inl (tm 1151 (by decide +kernel) rfl)
def Pr_blurt (pr0 : Nat) (a1 : Int) (a2 : Int) (σ : Sg) : Rs := (bd (Pr_isPerson pr0 a1 σ) (fun r1 s2 => (if r1 = 0 then (some (0, s2)) else (bd (Pr_isPerson pr0 a2 s2) (fun r3 s4 => (if r3 = 0 then (some (0, s4)) else (bd (Pr_hairOf pr0 a1 s4) (fun r5 s6 => (rd 6 a1 (s6 (pr0 + 5) (Int.toNat a1)) (fun x7 => (if x7 < r5 then (rd 6 a2 (s6 (pr0 + 6) (Int.toNat a2)) (fun x8 => (bd (Pr_longestOf pr0 a1 (xo32 x8 (-1)) s6) (fun r9 s10 => (if r9 = (-1) then (some (0, s10)) else (bd (Pr_speak pr0 a1 r9 a2 s10) (fun r11 s12 => (nm (up_s s12 pr0 18 (w32 ((s12 pr0 18) + 1))) (fun s13 => (some (0, s13))))))))))) else (some (0, s6)))))))))))))
theorem ok_Pr_blurt (pr0 : Nat) (a1 : Int) (a2 : Int) (hpr0 : Kh[pr0]? = some (.inl 4)) (σ : Sg) : MC l Kh Ph yX4_blurt cX4_blurt 4 2 3 [.inr (.inr pr0), .inl a1, .inl a2] σ (Pr_blurt pr0 a1 a2 σ) := by
  refine mc_of (by decide) (Nat.le_of_ble_eq_true rfl) ?_
  change G l Kh Ph RX4 cX4_blurt 4 2 3 0 [some (.inr (.inr pr0)), some (.inl a1), some (.inl a2), none] [] σ (Pr_blurt pr0 a1 a2 σ)
  unfold Pr_blurt
  refine g_aload_n dX4_blurt_0 rfl rfl ?_
  refine g_iload_n dX4_blurt_1 rfl rfl ?_
  refine g_callv3 (st := []) 4 mw_X4_isPerson lk_RX4_87 rfl hpr0 (ok_Pr_isPerson pr0 a1 hpr0 σ) (Nat.le_of_ble_eq_true rfl) rfl rfl (Nat.le_of_ble_eq_true rfl) dX4_blurt_2 ?_
  intro r1 s2
  refine g_ifeq (tgt := 30) dX4_blurt_5 (by decide) ?_ ?_
  · exact g_vret dX4_blurt_30
  · refine g_aload_n dX4_blurt_8 rfl rfl ?_
    refine g_iload_n dX4_blurt_9 rfl rfl ?_
    refine g_callv3 (st := []) 4 mw_X4_isPerson lk_RX4_87 rfl hpr0 (ok_Pr_isPerson pr0 a2 hpr0 s2) (Nat.le_of_ble_eq_true rfl) rfl rfl (Nat.le_of_ble_eq_true rfl) dX4_blurt_10 ?_
    intro r3 s4
    refine g_ifeq (tgt := 30) dX4_blurt_13 (by decide) ?_ ?_
    · exact g_vret dX4_blurt_30
    · refine g_aload_n dX4_blurt_16 rfl rfl ?_
      refine g_iload_n dX4_blurt_17 rfl rfl ?_
      refine g_callv0 (st := []) 4 mw_X4_hairOf lk_RX4_90 rfl hpr0 (ok_Pr_hairOf pr0 a1 hpr0 s4) (Nat.le_of_ble_eq_true rfl) rfl rfl (Nat.le_of_ble_eq_true rfl) dX4_blurt_18 ?_
      intro r5 s6
      refine g_aload_n dX4_blurt_21 rfl rfl ?_
      refine g_getr' (q := (pr0 + 5)) fl_RX4_25 hpr0 (by decide) (qp4 hpr0) dX4_blurt_22 ?_
      refine g_iload_n dX4_blurt_25 rfl rfl ?_
      refine g_iald (kp4 hpr0) dX4_blurt_26 ?_
      intro x7
      refine g_icmpgt (tgt := 31) dX4_blurt_27 (by decide) ?_ ?_
      · refine g_aload_n dX4_blurt_31 rfl rfl ?_
        refine g_iload_n dX4_blurt_32 rfl rfl ?_
        refine g_aload_n dX4_blurt_33 rfl rfl ?_
        refine g_getr' (q := (pr0 + 6)) fl_RX4_28 hpr0 (by decide) (qp5 hpr0) dX4_blurt_34 ?_
        refine g_iload_n dX4_blurt_37 rfl rfl ?_
        refine g_iald (kp5 hpr0) dX4_blurt_38 ?_
        intro x8
        refine g_iconst dX4_blurt_39 (by decide) ?_
        refine g_ixor dX4_blurt_40 ?_
        refine g_callv0 (st := []) 4 mw_X4_longestOf lk_RX4_134 rfl hpr0 (ok_Pr_longestOf pr0 a1 (xo32 x8 (-1)) hpr0 s6) (Nat.le_of_ble_eq_true rfl) rfl rfl (Nat.le_of_ble_eq_true rfl) dX4_blurt_41 ?_
        intro r9 s10
        refine g_istore_n (lv' := [some (.inr (.inr pr0)), some (.inl a1), some (.inl a2), some (.inl r9)]) dX4_blurt_44 rfl (Nat.le_of_ble_eq_true rfl) rfl ?_
        refine g_iload_n dX4_blurt_45 rfl rfl ?_
        refine g_iconst dX4_blurt_46 (by decide) ?_
        refine g_icmpeq (tgt := 67) dX4_blurt_47 (by decide) ?_ ?_
        · exact g_vret dX4_blurt_67
        · refine g_aload_n dX4_blurt_50 rfl rfl ?_
          refine g_iload_n dX4_blurt_51 rfl rfl ?_
          refine g_iload_n dX4_blurt_52 rfl rfl ?_
          refine g_iload_n dX4_blurt_53 rfl rfl ?_
          refine g_callv2 (st := []) 4 mw_X4_speak lk_RX4_137 rfl hpr0 (ok_Pr_speak pr0 a1 r9 a2 hpr0 s10) (Nat.le_of_ble_eq_true rfl) rfl rfl (Nat.le_of_ble_eq_true rfl) dX4_blurt_54 ?_
          intro r11 s12
          refine g_aload_n dX4_blurt_57 rfl rfl ?_
          refine g_dup dX4_blurt_58 rfl ?_
          refine g_geti fl_RX4_68 hpr0 (by decide) dX4_blurt_59 ?_
          refine g_iconst dX4_blurt_62 (by decide) ?_
          refine g_iadd dX4_blurt_63 ?_
          refine g_puti fl_RX4_68 hpr0 (by decide) dX4_blurt_64 ?_
          intro s13
          exact g_vret dX4_blurt_67
      · exact g_vret dX4_blurt_30
theorem dX4_isDinner_0 : decode cX4_isDinner 0 = .ok (.iload_n 1, 1) := by decide +kernel
theorem dX4_isDinner_1 : decode cX4_isDinner 1 = .ok (.ifCond .lt 21, 3) := by decide +kernel
theorem dX4_isDinner_4 : decode cX4_isDinner 4 = .ok (.iload_n 1, 1) := by decide +kernel
theorem dX4_isDinner_5 : decode cX4_isDinner 5 = .ok (.aload_n 0, 1) := by decide +kernel
theorem dX4_isDinner_6 : decode cX4_isDinner 6 = .ok (.getfield 56, 3) := by decide +kernel
theorem dX4_isDinner_9 : decode cX4_isDinner 9 = .ok (.if_icmp .ge 13, 3) := by decide +kernel
theorem dX4_isDinner_12 : decode cX4_isDinner 12 = .ok (.iload_n 1, 1) := by decide +kernel
theorem dX4_isDinner_13 : decode cX4_isDinner 13 = .ok (.bipush 6, 2) := by decide +kernel
theorem dX4_isDinner_15 : decode cX4_isDinner 15 = .ok (.if_icmp .ge 7, 3) := by decide +kernel
theorem dX4_isDinner_18 : decode cX4_isDinner 18 = .ok (.iconst 1, 1) := by decide +kernel
theorem dX4_isDinner_19 : decode cX4_isDinner 19 = .ok (.goto 4, 3) := by decide +kernel
theorem dX4_isDinner_22 : decode cX4_isDinner 22 = .ok (.iconst 0, 1) := by decide +kernel
theorem dX4_isDinner_23 : decode cX4_isDinner 23 = .ok (.ireturn, 1) := by decide +kernel
theorem mw_X4_isDinner : MW yX4_isDinner cX4_isDinner 2 3 1 false := ⟨tm 1107 (by decide +kernel) rfl, tm 240 (by decide +kernel) rfl, by decide, by decide, (by rw [if_neg (by decide)]; exact ⟨tm 1106 (by decide +kernel) rfl, tm 62 (by decide +kernel) rfl⟩)⟩
def Pr_isDinner (pr0 : Nat) (a1 : Int) (σ : Sg) : Rs := (if a1 < 0 then (some (0, σ)) else (if a1 < (σ pr0 12) then (if a1 < 6 then (some (1, σ)) else (some (0, σ))) else (some (0, σ))))
theorem ok_Pr_isDinner (pr0 : Nat) (a1 : Int) (hpr0 : Kh[pr0]? = some (.inl 4)) (σ : Sg) : MC l Kh Ph yX4_isDinner cX4_isDinner 2 3 1 [.inr (.inr pr0), .inl a1] σ (Pr_isDinner pr0 a1 σ) := by
  refine mc_of (by decide) (Nat.le_of_ble_eq_true rfl) ?_
  change G l Kh Ph RX4 cX4_isDinner 2 3 1 0 [some (.inr (.inr pr0)), some (.inl a1)] [] σ (Pr_isDinner pr0 a1 σ)
  unfold Pr_isDinner
  refine g_iload_n dX4_isDinner_0 rfl rfl ?_
  refine g_iflt (tgt := 22) dX4_isDinner_1 (by decide) ?_ ?_
  · refine g_iconst dX4_isDinner_22 (by decide) ?_
    exact g_zret0 dX4_isDinner_23
  · refine g_iload_n dX4_isDinner_4 rfl rfl ?_
    refine g_aload_n dX4_isDinner_5 rfl rfl ?_
    refine g_geti fl_RX4_56 hpr0 (by decide) dX4_isDinner_6 ?_
    refine g_icmpge (tgt := 22) dX4_isDinner_9 (by decide) ?_ ?_
    · refine g_iload_n dX4_isDinner_12 rfl rfl ?_
      refine g_bipush dX4_isDinner_13 (by decide) ?_
      refine g_icmpge (tgt := 22) dX4_isDinner_15 (by decide) ?_ ?_
      · refine g_iconst dX4_isDinner_18 (by decide) ?_
        refine g_goto (tgt := 23) dX4_isDinner_19 (by decide) ?_
        exact g_zret1 dX4_isDinner_23
      · refine g_iconst dX4_isDinner_22 (by decide) ?_
        exact g_zret0 dX4_isDinner_23
    · refine g_iconst dX4_isDinner_22 (by decide) ?_
      exact g_zret0 dX4_isDinner_23
theorem dX4_dinnerFact_0 : decode cX4_dinnerFact 0 = .ok (.aload_n 0, 1) := by decide +kernel
theorem dX4_dinnerFact_1 : decode cX4_dinnerFact 1 = .ok (.iload_n 1, 1) := by decide +kernel
theorem dX4_dinnerFact_2 : decode cX4_dinnerFact 2 = .ok (.invokevirtual 84, 3) := by decide +kernel
theorem dX4_dinnerFact_5 : decode cX4_dinnerFact 5 = .ok (.ifCond .eq 16, 3) := by decide +kernel
theorem dX4_dinnerFact_8 : decode cX4_dinnerFact 8 = .ok (.iload_n 2, 1) := by decide +kernel
theorem dX4_dinnerFact_9 : decode cX4_dinnerFact 9 = .ok (.ifCond .lt 12, 3) := by decide +kernel
theorem dX4_dinnerFact_12 : decode cX4_dinnerFact 12 = .ok (.iload_n 2, 1) := by decide +kernel
theorem dX4_dinnerFact_13 : decode cX4_dinnerFact 13 = .ok (.iconst 3, 1) := by decide +kernel
theorem dX4_dinnerFact_14 : decode cX4_dinnerFact 14 = .ok (.if_icmp .ge 7, 3) := by decide +kernel
theorem dX4_dinnerFact_17 : decode cX4_dinnerFact 17 = .ok (.iconst 1, 1) := by decide +kernel
theorem dX4_dinnerFact_18 : decode cX4_dinnerFact 18 = .ok (.goto 4, 3) := by decide +kernel
theorem dX4_dinnerFact_21 : decode cX4_dinnerFact 21 = .ok (.iconst 0, 1) := by decide +kernel
theorem dX4_dinnerFact_22 : decode cX4_dinnerFact 22 = .ok (.istore_n 3, 1) := by decide +kernel
theorem dX4_dinnerFact_23 : decode cX4_dinnerFact 23 = .ok (.iload_n 3, 1) := by decide +kernel
theorem dX4_dinnerFact_24 : decode cX4_dinnerFact 24 = .ok (.ifCond .eq 16, 3) := by decide +kernel
theorem dX4_dinnerFact_27 : decode cX4_dinnerFact 27 = .ok (.aload_n 0, 1) := by decide +kernel
theorem dX4_dinnerFact_28 : decode cX4_dinnerFact 28 = .ok (.getfield 40, 3) := by decide +kernel
theorem dX4_dinnerFact_31 : decode cX4_dinnerFact 31 = .ok (.iload_n 1, 1) := by decide +kernel
theorem dX4_dinnerFact_32 : decode cX4_dinnerFact 32 = .ok (.iconst 3, 1) := by decide +kernel
theorem dX4_dinnerFact_33 : decode cX4_dinnerFact 33 = .ok (.imul, 1) := by decide +kernel
theorem dX4_dinnerFact_34 : decode cX4_dinnerFact 34 = .ok (.iload_n 2, 1) := by decide +kernel
theorem dX4_dinnerFact_35 : decode cX4_dinnerFact 35 = .ok (.iadd, 1) := by decide +kernel
theorem dX4_dinnerFact_36 : decode cX4_dinnerFact 36 = .ok (.iaload, 1) := by decide +kernel
theorem dX4_dinnerFact_37 : decode cX4_dinnerFact 37 = .ok (.goto 4, 3) := by decide +kernel
theorem dX4_dinnerFact_40 : decode cX4_dinnerFact 40 = .ok (.iconst (-1), 1) := by decide +kernel
theorem dX4_dinnerFact_41 : decode cX4_dinnerFact 41 = .ok (.ireturn, 1) := by decide +kernel
theorem mw_X4_dinnerFact : MW yX4_dinnerFact cX4_dinnerFact 4 0 2 false := ⟨tm 1103 (by decide +kernel) rfl, tm 240 (by decide +kernel) rfl, by decide, by decide, (by rw [if_neg (by decide)]; exact ⟨tm 1102 (by decide +kernel) rfl, tm 61 (by decide +kernel) rfl⟩)⟩
theorem lk_RX4_84 : LK RX4 84 yX4_isDinner := Or.inl (tm 1104 (by decide +kernel) rfl)
def Pr_dinnerFact_J22 (pr0 : Nat) (a1 : Int) (a2 : Int) (t0 : Int) (σ : Sg) : Rs := (if t0 = 0 then (some ((-1), σ)) else (rd 18 (w32 ((w32 (a1 * 3)) + a2)) (σ (pr0 + 10) (Int.toNat (w32 ((w32 (a1 * 3)) + a2)))) (fun x3 => (some (x3, σ)))))
theorem ok_Pr_dinnerFact_J22 (pr0 : Nat) (a1 : Int) (a2 : Int) (hpr0 : Kh[pr0]? = some (.inl 4)) : ∀ (t0 : Int) (σ : Sg), G l Kh Ph RX4 cX4_dinnerFact 4 0 2 22 [some (.inr (.inr pr0)), some (.inl a1), some (.inl a2), none] [.inl t0] σ (Pr_dinnerFact_J22 pr0 a1 a2 t0 σ) := by
  intro t0 σ
  unfold Pr_dinnerFact_J22
  refine g_istore_n (lv' := [some (.inr (.inr pr0)), some (.inl a1), some (.inl a2), some (.inl t0)]) dX4_dinnerFact_22 rfl (Nat.le_of_ble_eq_true rfl) rfl ?_
  refine g_iload_n dX4_dinnerFact_23 rfl rfl ?_
  refine g_ifeq (tgt := 40) dX4_dinnerFact_24 (by decide) ?_ ?_
  · refine g_iconst dX4_dinnerFact_40 (by decide) ?_
    exact g_iret dX4_dinnerFact_41
  · refine g_aload_n dX4_dinnerFact_27 rfl rfl ?_
    refine g_getr' (q := (pr0 + 10)) fl_RX4_40 hpr0 (by decide) (qp9 hpr0) dX4_dinnerFact_28 ?_
    refine g_iload_n dX4_dinnerFact_31 rfl rfl ?_
    refine g_iconst dX4_dinnerFact_32 (by decide) ?_
    refine g_imul dX4_dinnerFact_33 ?_
    refine g_iload_n dX4_dinnerFact_34 rfl rfl ?_
    refine g_iadd dX4_dinnerFact_35 ?_
    refine g_iald (kp9 hpr0) dX4_dinnerFact_36 ?_
    intro x3
    refine g_goto (tgt := 41) dX4_dinnerFact_37 (by decide) ?_
    exact g_iret dX4_dinnerFact_41
def Pr_dinnerFact_J21 (pr0 : Nat) (a1 : Int) (a2 : Int) (σ : Sg) : Rs := (Pr_dinnerFact_J22 pr0 a1 a2 0 σ)
theorem ok_Pr_dinnerFact_J21 (pr0 : Nat) (a1 : Int) (a2 : Int) (hpr0 : Kh[pr0]? = some (.inl 4)) : ∀ (σ : Sg), G l Kh Ph RX4 cX4_dinnerFact 4 0 2 21 [some (.inr (.inr pr0)), some (.inl a1), some (.inl a2), none] [] σ (Pr_dinnerFact_J21 pr0 a1 a2  σ) := by
  intro σ
  unfold Pr_dinnerFact_J21
  refine g_iconst dX4_dinnerFact_21 (by decide) ?_
  refine (ok_Pr_dinnerFact_J22 pr0 a1 a2 hpr0 0 σ)
def Pr_dinnerFact (pr0 : Nat) (a1 : Int) (a2 : Int) (σ : Sg) : Rs := (bd (Pr_isDinner pr0 a1 σ) (fun r1 s2 => (if r1 = 0 then (Pr_dinnerFact_J21 pr0 a1 a2 s2) else (if a2 < 0 then (Pr_dinnerFact_J21 pr0 a1 a2 s2) else (if a2 < 3 then (Pr_dinnerFact_J22 pr0 a1 a2 1 s2) else (Pr_dinnerFact_J21 pr0 a1 a2 s2))))))
theorem ok_Pr_dinnerFact (pr0 : Nat) (a1 : Int) (a2 : Int) (hpr0 : Kh[pr0]? = some (.inl 4)) (σ : Sg) : MC l Kh Ph yX4_dinnerFact cX4_dinnerFact 4 0 2 [.inr (.inr pr0), .inl a1, .inl a2] σ (Pr_dinnerFact pr0 a1 a2 σ) := by
  refine mc_of (by decide) (Nat.le_of_ble_eq_true rfl) ?_
  change G l Kh Ph RX4 cX4_dinnerFact 4 0 2 0 [some (.inr (.inr pr0)), some (.inl a1), some (.inl a2), none] [] σ (Pr_dinnerFact pr0 a1 a2 σ)
  unfold Pr_dinnerFact
  refine g_aload_n dX4_dinnerFact_0 rfl rfl ?_
  refine g_iload_n dX4_dinnerFact_1 rfl rfl ?_
  refine g_callv3 (st := []) 4 mw_X4_isDinner lk_RX4_84 rfl hpr0 (ok_Pr_isDinner pr0 a1 hpr0 σ) (Nat.le_of_ble_eq_true rfl) rfl rfl (Nat.le_of_ble_eq_true rfl) dX4_dinnerFact_2 ?_
  intro r1 s2
  refine g_ifeq (tgt := 21) dX4_dinnerFact_5 (by decide) ?_ ?_
  · refine (ok_Pr_dinnerFact_J21 pr0 a1 a2 hpr0 s2)
  · refine g_iload_n dX4_dinnerFact_8 rfl rfl ?_
    refine g_iflt (tgt := 21) dX4_dinnerFact_9 (by decide) ?_ ?_
    · refine (ok_Pr_dinnerFact_J21 pr0 a1 a2 hpr0 s2)
    · refine g_iload_n dX4_dinnerFact_12 rfl rfl ?_
      refine g_iconst dX4_dinnerFact_13 (by decide) ?_
      refine g_icmpge (tgt := 21) dX4_dinnerFact_14 (by decide) ?_ ?_
      · refine g_iconst dX4_dinnerFact_17 (by decide) ?_
        refine g_goto (tgt := 22) dX4_dinnerFact_18 (by decide) ?_
        refine (ok_Pr_dinnerFact_J22 pr0 a1 a2 hpr0 1 s2)
      · refine (ok_Pr_dinnerFact_J21 pr0 a1 a2 hpr0 s2)
theorem dX4_daysSinceDinner_0 : decode cX4_daysSinceDinner 0 = .ok (.aload_n 0, 1) := by decide +kernel
theorem dX4_daysSinceDinner_1 : decode cX4_daysSinceDinner 1 = .ok (.iload_n 1, 1) := by decide +kernel
theorem dX4_daysSinceDinner_2 : decode cX4_daysSinceDinner 2 = .ok (.iconst 2, 1) := by decide +kernel
theorem dX4_daysSinceDinner_3 : decode cX4_daysSinceDinner 3 = .ok (.invokevirtual 115, 3) := by decide +kernel
theorem dX4_daysSinceDinner_6 : decode cX4_daysSinceDinner 6 = .ok (.istore_n 2, 1) := by decide +kernel
theorem dX4_daysSinceDinner_7 : decode cX4_daysSinceDinner 7 = .ok (.iload_n 2, 1) := by decide +kernel
theorem dX4_daysSinceDinner_8 : decode cX4_daysSinceDinner 8 = .ok (.ifCond .le 12, 3) := by decide +kernel
theorem dX4_daysSinceDinner_11 : decode cX4_daysSinceDinner 11 = .ok (.aload_n 0, 1) := by decide +kernel
theorem dX4_daysSinceDinner_12 : decode cX4_daysSinceDinner 12 = .ok (.getfield 62, 3) := by decide +kernel
theorem dX4_daysSinceDinner_15 : decode cX4_daysSinceDinner 15 = .ok (.iload_n 2, 1) := by decide +kernel
theorem dX4_daysSinceDinner_16 : decode cX4_daysSinceDinner 16 = .ok (.irem, 1) := by decide +kernel
theorem dX4_daysSinceDinner_17 : decode cX4_daysSinceDinner 17 = .ok (.goto 4, 3) := by decide +kernel
theorem dX4_daysSinceDinner_20 : decode cX4_daysSinceDinner 20 = .ok (.iconst (-1), 1) := by decide +kernel
theorem dX4_daysSinceDinner_21 : decode cX4_daysSinceDinner 21 = .ok (.ireturn, 1) := by decide +kernel
theorem mw_X4_daysSinceDinner : MW yX4_daysSinceDinner cX4_daysSinceDinner 3 0 1 false := ⟨tm 1144 (by decide +kernel) rfl, tm 240 (by decide +kernel) rfl, by decide, by decide, (by rw [if_neg (by decide)]; exact ⟨tm 1143 (by decide +kernel) rfl, tm 67 (by decide +kernel) rfl⟩)⟩
theorem lk_RX4_115 : LK RX4 115 yX4_dinnerFact := Or.inl (tm 1145 (by decide +kernel) rfl)
def Pr_daysSinceDinner (pr0 : Nat) (a1 : Int) (σ : Sg) : Rs := (bd (Pr_dinnerFact pr0 a1 2 σ) (fun r1 s2 => (if 0 < r1 then (dv r1 (rm32 (s2 pr0 16) r1) (fun x3 => (some (x3, s2)))) else (some ((-1), s2)))))
theorem ok_Pr_daysSinceDinner (pr0 : Nat) (a1 : Int) (hpr0 : Kh[pr0]? = some (.inl 4)) (σ : Sg) : MC l Kh Ph yX4_daysSinceDinner cX4_daysSinceDinner 3 0 3 [.inr (.inr pr0), .inl a1] σ (Pr_daysSinceDinner pr0 a1 σ) := by
  refine mc_of (by decide) (Nat.le_of_ble_eq_true rfl) ?_
  change G l Kh Ph RX4 cX4_daysSinceDinner 3 0 3 0 [some (.inr (.inr pr0)), some (.inl a1), none] [] σ (Pr_daysSinceDinner pr0 a1 σ)
  unfold Pr_daysSinceDinner
  refine g_aload_n dX4_daysSinceDinner_0 rfl rfl ?_
  refine g_iload_n dX4_daysSinceDinner_1 rfl rfl ?_
  refine g_iconst dX4_daysSinceDinner_2 (by decide) ?_
  refine g_callv0 (st := []) 4 mw_X4_dinnerFact lk_RX4_115 rfl hpr0 (ok_Pr_dinnerFact pr0 a1 2 hpr0 σ) (Nat.le_of_ble_eq_true rfl) rfl rfl (Nat.le_of_ble_eq_true rfl) dX4_daysSinceDinner_3 ?_
  intro r1 s2
  refine g_istore_n (lv' := [some (.inr (.inr pr0)), some (.inl a1), some (.inl r1)]) dX4_daysSinceDinner_6 rfl (Nat.le_of_ble_eq_true rfl) rfl ?_
  refine g_iload_n dX4_daysSinceDinner_7 rfl rfl ?_
  refine g_ifle (tgt := 20) dX4_daysSinceDinner_8 (by decide) ?_ ?_
  · refine g_aload_n dX4_daysSinceDinner_11 rfl rfl ?_
    refine g_geti fl_RX4_62 hpr0 (by decide) dX4_daysSinceDinner_12 ?_
    refine g_iload_n dX4_daysSinceDinner_15 rfl rfl ?_
    refine g_irem dX4_daysSinceDinner_16 ?_
    intro x3
    refine g_goto (tgt := 21) dX4_daysSinceDinner_17 (by decide) ?_
    exact g_iret dX4_daysSinceDinner_21
  · refine g_iconst dX4_daysSinceDinner_20 (by decide) ?_
    exact g_iret dX4_daysSinceDinner_21
theorem dX4_isKept_0 : decode cX4_isKept 0 = .ok (.iload_n 1, 1) := by decide +kernel
theorem dX4_isKept_1 : decode cX4_isKept 1 = .ok (.ifCond .lt 47, 3) := by decide +kernel
theorem dX4_isKept_4 : decode cX4_isKept 4 = .ok (.iload_n 1, 1) := by decide +kernel
theorem dX4_isKept_5 : decode cX4_isKept 5 = .ok (.aload_n 0, 1) := by decide +kernel
theorem dX4_isKept_6 : decode cX4_isKept 6 = .ok (.getfield 53, 3) := by decide +kernel
theorem dX4_isKept_9 : decode cX4_isKept 9 = .ok (.if_icmp .ge 39, 3) := by decide +kernel
theorem dX4_isKept_12 : decode cX4_isKept 12 = .ok (.iload_n 1, 1) := by decide +kernel
theorem dX4_isKept_13 : decode cX4_isKept 13 = .ok (.bipush 6, 2) := by decide +kernel
theorem dX4_isKept_15 : decode cX4_isKept 15 = .ok (.if_icmp .ge 33, 3) := by decide +kernel
theorem dX4_isKept_18 : decode cX4_isKept 18 = .ok (.iload_n 2, 1) := by decide +kernel
theorem dX4_isKept_19 : decode cX4_isKept 19 = .ok (.ifCond .lt 29, 3) := by decide +kernel
theorem dX4_isKept_22 : decode cX4_isKept 22 = .ok (.iload_n 2, 1) := by decide +kernel
theorem dX4_isKept_23 : decode cX4_isKept 23 = .ok (.aload_n 0, 1) := by decide +kernel
theorem dX4_isKept_24 : decode cX4_isKept 24 = .ok (.getfield 50, 3) := by decide +kernel
theorem dX4_isKept_27 : decode cX4_isKept 27 = .ok (.if_icmp .ge 21, 3) := by decide +kernel
theorem dX4_isKept_30 : decode cX4_isKept 30 = .ok (.aload_n 0, 1) := by decide +kernel
theorem dX4_isKept_31 : decode cX4_isKept 31 = .ok (.getfield 31, 3) := by decide +kernel
theorem dX4_isKept_34 : decode cX4_isKept 34 = .ok (.iload_n 1, 1) := by decide +kernel
theorem dX4_isKept_35 : decode cX4_isKept 35 = .ok (.iaload, 1) := by decide +kernel
theorem dX4_isKept_36 : decode cX4_isKept 36 = .ok (.iload_n 2, 1) := by decide +kernel
theorem dX4_isKept_37 : decode cX4_isKept 37 = .ok (.ishr, 1) := by decide +kernel
theorem dX4_isKept_38 : decode cX4_isKept 38 = .ok (.iconst 1, 1) := by decide +kernel
theorem dX4_isKept_39 : decode cX4_isKept 39 = .ok (.iand, 1) := by decide +kernel
theorem dX4_isKept_40 : decode cX4_isKept 40 = .ok (.iconst 1, 1) := by decide +kernel
theorem dX4_isKept_41 : decode cX4_isKept 41 = .ok (.if_icmp .ne 7, 3) := by decide +kernel
theorem dX4_isKept_44 : decode cX4_isKept 44 = .ok (.iconst 1, 1) := by decide +kernel
theorem dX4_isKept_45 : decode cX4_isKept 45 = .ok (.goto 4, 3) := by decide +kernel
theorem dX4_isKept_48 : decode cX4_isKept 48 = .ok (.iconst 0, 1) := by decide +kernel
theorem dX4_isKept_49 : decode cX4_isKept 49 = .ok (.ireturn, 1) := by decide +kernel
theorem mw_X4_isKept : MW yX4_isKept cX4_isKept 3 3 2 false := ⟨tm 1095 (by decide +kernel) rfl, tm 240 (by decide +kernel) rfl, by decide, by decide, (by rw [if_neg (by decide)]; exact ⟨tm 1094 (by decide +kernel) rfl, tm 60 (by decide +kernel) rfl⟩)⟩
def Pr_isKept (pr0 : Nat) (a1 : Int) (a2 : Int) (σ : Sg) : Rs := (if a1 < 0 then (some (0, σ)) else (if a1 < (σ pr0 11) then (if a1 < 6 then (if a2 < 0 then (some (0, σ)) else (if a2 < (σ pr0 10) then (rd 6 a1 (σ (pr0 + 7) (Int.toNat a1)) (fun x1 => (if (an32 (sr32 x1 a2) 1) = 1 then (some (1, σ)) else (some (0, σ))))) else (some (0, σ)))) else (some (0, σ))) else (some (0, σ))))
theorem ok_Pr_isKept (pr0 : Nat) (a1 : Int) (a2 : Int) (hpr0 : Kh[pr0]? = some (.inl 4)) (σ : Sg) : MC l Kh Ph yX4_isKept cX4_isKept 3 3 1 [.inr (.inr pr0), .inl a1, .inl a2] σ (Pr_isKept pr0 a1 a2 σ) := by
  refine mc_of (by decide) (Nat.le_of_ble_eq_true rfl) ?_
  change G l Kh Ph RX4 cX4_isKept 3 3 1 0 [some (.inr (.inr pr0)), some (.inl a1), some (.inl a2)] [] σ (Pr_isKept pr0 a1 a2 σ)
  unfold Pr_isKept
  refine g_iload_n dX4_isKept_0 rfl rfl ?_
  refine g_iflt (tgt := 48) dX4_isKept_1 (by decide) ?_ ?_
  · refine g_iconst dX4_isKept_48 (by decide) ?_
    exact g_zret0 dX4_isKept_49
  · refine g_iload_n dX4_isKept_4 rfl rfl ?_
    refine g_aload_n dX4_isKept_5 rfl rfl ?_
    refine g_geti fl_RX4_53 hpr0 (by decide) dX4_isKept_6 ?_
    refine g_icmpge (tgt := 48) dX4_isKept_9 (by decide) ?_ ?_
    · refine g_iload_n dX4_isKept_12 rfl rfl ?_
      refine g_bipush dX4_isKept_13 (by decide) ?_
      refine g_icmpge (tgt := 48) dX4_isKept_15 (by decide) ?_ ?_
      · refine g_iload_n dX4_isKept_18 rfl rfl ?_
        refine g_iflt (tgt := 48) dX4_isKept_19 (by decide) ?_ ?_
        · refine g_iconst dX4_isKept_48 (by decide) ?_
          exact g_zret0 dX4_isKept_49
        · refine g_iload_n dX4_isKept_22 rfl rfl ?_
          refine g_aload_n dX4_isKept_23 rfl rfl ?_
          refine g_geti fl_RX4_50 hpr0 (by decide) dX4_isKept_24 ?_
          refine g_icmpge (tgt := 48) dX4_isKept_27 (by decide) ?_ ?_
          · refine g_aload_n dX4_isKept_30 rfl rfl ?_
            refine g_getr' (q := (pr0 + 7)) fl_RX4_31 hpr0 (by decide) (qp6 hpr0) dX4_isKept_31 ?_
            refine g_iload_n dX4_isKept_34 rfl rfl ?_
            refine g_iald (kp6 hpr0) dX4_isKept_35 ?_
            intro x1
            refine g_iload_n dX4_isKept_36 rfl rfl ?_
            refine g_ishr dX4_isKept_37 ?_
            refine g_iconst dX4_isKept_38 (by decide) ?_
            refine g_iand dX4_isKept_39 ?_
            refine g_iconst dX4_isKept_40 (by decide) ?_
            refine g_icmpne (tgt := 48) dX4_isKept_41 (by decide) ?_ ?_
            · refine g_iconst dX4_isKept_44 (by decide) ?_
              refine g_goto (tgt := 49) dX4_isKept_45 (by decide) ?_
              exact g_zret1 dX4_isKept_49
            · refine g_iconst dX4_isKept_48 (by decide) ?_
              exact g_zret0 dX4_isKept_49
          · refine g_iconst dX4_isKept_48 (by decide) ?_
            exact g_zret0 dX4_isKept_49
      · refine g_iconst dX4_isKept_48 (by decide) ?_
        exact g_zret0 dX4_isKept_49
    · refine g_iconst dX4_isKept_48 (by decide) ?_
      exact g_zret0 dX4_isKept_49
end WK
