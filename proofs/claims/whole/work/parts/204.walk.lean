section WK
variable {l : Launch}
theorem dX2_holds_0 : decode cX2_holds 0 = .ok (.aload_n 1, 1) := by decide +kernel
theorem dX2_holds_1 : decode cX2_holds 1 = .ok (.getfield 31, 3) := by decide +kernel
theorem dX2_holds_4 : decode cX2_holds 4 = .ok (.iload_n 2, 1) := by decide +kernel
theorem dX2_holds_5 : decode cX2_holds 5 = .ok (.iaload, 1) := by decide +kernel
theorem dX2_holds_6 : decode cX2_holds 6 = .ok (.bipush 20, 2) := by decide +kernel
theorem dX2_holds_8 : decode cX2_holds 8 = .ok (.if_icmp .ne 20, 3) := by decide +kernel
theorem dX2_holds_11 : decode cX2_holds 11 = .ok (.aload_n 0, 1) := by decide +kernel
theorem dX2_holds_12 : decode cX2_holds 12 = .ok (.aload_n 1, 1) := by decide +kernel
theorem dX2_holds_13 : decode cX2_holds 13 = .ok (.getfield 57, 3) := by decide +kernel
theorem dX2_holds_16 : decode cX2_holds 16 = .ok (.iload_n 2, 1) := by decide +kernel
theorem dX2_holds_17 : decode cX2_holds 17 = .ok (.iaload, 1) := by decide +kernel
theorem dX2_holds_18 : decode cX2_holds 18 = .ok (.aload_n 1, 1) := by decide +kernel
theorem dX2_holds_19 : decode cX2_holds 19 = .ok (.getfield 60, 3) := by decide +kernel
theorem dX2_holds_22 : decode cX2_holds 22 = .ok (.iload_n 2, 1) := by decide +kernel
theorem dX2_holds_23 : decode cX2_holds 23 = .ok (.iaload, 1) := by decide +kernel
theorem dX2_holds_24 : decode cX2_holds 24 = .ok (.invokevirtual 63, 3) := by decide +kernel
theorem dX2_holds_27 : decode cX2_holds 27 = .ok (.ireturn, 1) := by decide +kernel
theorem dX2_holds_28 : decode cX2_holds 28 = .ok (.aload_n 0, 1) := by decide +kernel
theorem dX2_holds_29 : decode cX2_holds 29 = .ok (.aload_n 1, 1) := by decide +kernel
theorem dX2_holds_30 : decode cX2_holds 30 = .ok (.getfield 57, 3) := by decide +kernel
theorem dX2_holds_33 : decode cX2_holds 33 = .ok (.iload_n 2, 1) := by decide +kernel
theorem dX2_holds_34 : decode cX2_holds 34 = .ok (.iaload, 1) := by decide +kernel
theorem dX2_holds_35 : decode cX2_holds 35 = .ok (.invokevirtual 69, 3) := by decide +kernel
theorem dX2_holds_38 : decode cX2_holds 38 = .ok (.istore_n 3, 1) := by decide +kernel
theorem dX2_holds_39 : decode cX2_holds 39 = .ok (.aload_n 1, 1) := by decide +kernel
theorem dX2_holds_40 : decode cX2_holds 40 = .ok (.getfield 73, 3) := by decide +kernel
theorem dX2_holds_43 : decode cX2_holds 43 = .ok (.iload_n 2, 1) := by decide +kernel
theorem dX2_holds_44 : decode cX2_holds 44 = .ok (.iaload, 1) := by decide +kernel
theorem dX2_holds_45 : decode cX2_holds 45 = .ok (.istore 4, 2) := by decide +kernel
theorem dX2_holds_47 : decode cX2_holds 47 = .ok (.aload_n 1, 1) := by decide +kernel
theorem dX2_holds_48 : decode cX2_holds 48 = .ok (.getfield 60, 3) := by decide +kernel
theorem dX2_holds_51 : decode cX2_holds 51 = .ok (.iload_n 2, 1) := by decide +kernel
theorem dX2_holds_52 : decode cX2_holds 52 = .ok (.iaload, 1) := by decide +kernel
theorem dX2_holds_53 : decode cX2_holds 53 = .ok (.lookupswitch 51 #[(60, 27), (62, 39)], 27) := by decide +kernel
theorem dX2_holds_80 : decode cX2_holds 80 = .ok (.iload_n 3, 1) := by decide +kernel
theorem dX2_holds_81 : decode cX2_holds 81 = .ok (.iload 4, 2) := by decide +kernel
theorem dX2_holds_83 : decode cX2_holds 83 = .ok (.if_icmp .ge 7, 3) := by decide +kernel
theorem dX2_holds_86 : decode cX2_holds 86 = .ok (.iconst 1, 1) := by decide +kernel
theorem dX2_holds_87 : decode cX2_holds 87 = .ok (.goto 4, 3) := by decide +kernel
theorem dX2_holds_90 : decode cX2_holds 90 = .ok (.iconst 0, 1) := by decide +kernel
theorem dX2_holds_91 : decode cX2_holds 91 = .ok (.ireturn, 1) := by decide +kernel
theorem dX2_holds_92 : decode cX2_holds 92 = .ok (.iload_n 3, 1) := by decide +kernel
theorem dX2_holds_93 : decode cX2_holds 93 = .ok (.iload 4, 2) := by decide +kernel
theorem dX2_holds_95 : decode cX2_holds 95 = .ok (.if_icmp .le 7, 3) := by decide +kernel
theorem dX2_holds_98 : decode cX2_holds 98 = .ok (.iconst 1, 1) := by decide +kernel
theorem dX2_holds_99 : decode cX2_holds 99 = .ok (.goto 4, 3) := by decide +kernel
theorem dX2_holds_102 : decode cX2_holds 102 = .ok (.iconst 0, 1) := by decide +kernel
theorem dX2_holds_103 : decode cX2_holds 103 = .ok (.ireturn, 1) := by decide +kernel
theorem dX2_holds_104 : decode cX2_holds 104 = .ok (.iload_n 3, 1) := by decide +kernel
theorem dX2_holds_105 : decode cX2_holds 105 = .ok (.iload 4, 2) := by decide +kernel
theorem dX2_holds_107 : decode cX2_holds 107 = .ok (.if_icmp .ne 7, 3) := by decide +kernel
theorem dX2_holds_110 : decode cX2_holds 110 = .ok (.iconst 1, 1) := by decide +kernel
theorem dX2_holds_111 : decode cX2_holds 111 = .ok (.goto 4, 3) := by decide +kernel
theorem dX2_holds_114 : decode cX2_holds 114 = .ok (.iconst 0, 1) := by decide +kernel
theorem dX2_holds_115 : decode cX2_holds 115 = .ok (.ireturn, 1) := by decide +kernel
theorem mw_X2_holds : MW yX2_holds cX2_holds 5 3 3 true := ⟨tm 1506 (by decide +kernel) rfl, tm 244 (by decide +kernel) rfl, by decide, by decide, (by rw [if_pos rfl]; exact tm 1505 (by decide +kernel) rfl)⟩
theorem lk_RX2_63 : LK RX2 63 yX4_isKnown := Or.inr ⟨"HairProvince", tm 1507 (by decide +kernel) rfl⟩
theorem lk_RX2_69 : LK RX2 69 yX4_hairOf := Or.inr ⟨"HairProvince", tm 1508 (by decide +kernel) rfl⟩
theorem fl_RX2_31 : FL RX2 31 8 0 := ⟨_, _, _, _, cw_8, by decide, Or.inr (Or.inr (Or.inr (by decide))), Or.inl (by decide), Or.inr ⟨"HairProvince", tm 499 (by decide +kernel) rfl⟩⟩
theorem fl_RX2_57 : FL RX2 57 8 1 := ⟨_, _, _, _, cw_8, by decide, Or.inr (Or.inr (Or.inr (by decide))), Or.inl (by decide), Or.inr ⟨"HairProvince", tm 501 (by decide +kernel) rfl⟩⟩
theorem fl_RX2_60 : FL RX2 60 8 2 := ⟨_, _, _, _, cw_8, by decide, Or.inr (Or.inr (Or.inr (by decide))), Or.inl (by decide), Or.inr ⟨"HairProvince", tm 503 (by decide +kernel) rfl⟩⟩
theorem fl_RX2_73 : FL RX2 73 8 3 := ⟨_, _, _, _, cw_8, by decide, Or.inr (Or.inr (Or.inr (by decide))), Or.inl (by decide), Or.inr ⟨"HairProvince", tm 505 (by decide +kernel) rfl⟩⟩
def Li_holds (pr0 : Nat) (ye1 : Nat) (a2 : Int) (σ : Sg) : Rs := (rd 60 a2 (σ (ye1 + 1) (Int.toNat a2)) (fun x1 => (if x1 = 20 then (rd 60 a2 (σ (ye1 + 2) (Int.toNat a2)) (fun x2 => (rd 60 a2 (σ (ye1 + 3) (Int.toNat a2)) (fun x3 => (bd (Pr_isKnown pr0 x2 x3 σ) (fun r4 s5 => (zb r4 (some (r4, s5))))))))) else (rd 60 a2 (σ (ye1 + 2) (Int.toNat a2)) (fun x6 => (bd (Pr_hairOf pr0 x6 σ) (fun r7 s8 => (rd 60 a2 (s8 (ye1 + 4) (Int.toNat a2)) (fun x9 => (rd 60 a2 (s8 (ye1 + 3) (Int.toNat a2)) (fun x10 => (if x10 = 60 then (if r7 < x9 then (some (1, s8)) else (some (0, s8))) else if x10 = 62 then (if x9 < r7 then (some (1, s8)) else (some (0, s8))) else (if r7 = x9 then (some (1, s8)) else (some (0, s8)))))))))))))))
theorem ok_Li_holds (pr0 : Nat) (ye1 : Nat) (a2 : Int) (hpr0 : Kh[pr0]? = some (.inl 4)) (hye1 : Kh[ye1]? = some (.inl 8)) (σ : Sg) : MC l Kh Ph yX2_holds cX2_holds 5 3 4 [.inr (.inr pr0), .inr (.inr ye1), .inl a2] σ (Li_holds pr0 ye1 a2 σ) := by
  refine mc_of (by decide) (Nat.le_of_ble_eq_true rfl) ?_
  change G l Kh Ph RX2 cX2_holds 5 3 4 0 [some (.inr (.inr pr0)), some (.inr (.inr ye1)), some (.inl a2), none, none] [] σ (Li_holds pr0 ye1 a2 σ)
  unfold Li_holds
  refine g_aload_n dX2_holds_0 rfl rfl ?_
  refine g_getr' (q := (ye1 + 1)) fl_RX2_31 hye1 (by decide) (qy0 hye1) dX2_holds_1 ?_
  refine g_iload_n dX2_holds_4 rfl rfl ?_
  refine g_iald (ky0 hye1) dX2_holds_5 ?_
  intro x1
  refine g_bipush dX2_holds_6 (by decide) ?_
  refine g_icmpne (tgt := 28) dX2_holds_8 (by decide) ?_ ?_
  · refine g_aload_n dX2_holds_11 rfl rfl ?_
    refine g_aload_n dX2_holds_12 rfl rfl ?_
    refine g_getr' (q := (ye1 + 2)) fl_RX2_57 hye1 (by decide) (qy1 hye1) dX2_holds_13 ?_
    refine g_iload_n dX2_holds_16 rfl rfl ?_
    refine g_iald (ky1 hye1) dX2_holds_17 ?_
    intro x2
    refine g_aload_n dX2_holds_18 rfl rfl ?_
    refine g_getr' (q := (ye1 + 3)) fl_RX2_60 hye1 (by decide) (qy2 hye1) dX2_holds_19 ?_
    refine g_iload_n dX2_holds_22 rfl rfl ?_
    refine g_iald (ky2 hye1) dX2_holds_23 ?_
    intro x3
    refine g_callv3 (st := []) 4 mw_X4_isKnown lk_RX2_63 rfl hpr0 (ok_Pr_isKnown pr0 x2 x3 hpr0 σ) (Nat.le_of_ble_eq_true rfl) rfl rfl (Nat.le_of_ble_eq_true rfl) dX2_holds_24 ?_
    intro r4 s5
    exact g_zret dX2_holds_27
  · refine g_aload_n dX2_holds_28 rfl rfl ?_
    refine g_aload_n dX2_holds_29 rfl rfl ?_
    refine g_getr' (q := (ye1 + 2)) fl_RX2_57 hye1 (by decide) (qy1 hye1) dX2_holds_30 ?_
    refine g_iload_n dX2_holds_33 rfl rfl ?_
    refine g_iald (ky1 hye1) dX2_holds_34 ?_
    intro x6
    refine g_callv0 (st := []) 4 mw_X4_hairOf lk_RX2_69 rfl hpr0 (ok_Pr_hairOf pr0 x6 hpr0 σ) (Nat.le_of_ble_eq_true rfl) rfl rfl (Nat.le_of_ble_eq_true rfl) dX2_holds_35 ?_
    intro r7 s8
    refine g_istore_n (lv' := [some (.inr (.inr pr0)), some (.inr (.inr ye1)), some (.inl a2), some (.inl r7), none]) dX2_holds_38 rfl (Nat.le_of_ble_eq_true rfl) rfl ?_
    refine g_aload_n dX2_holds_39 rfl rfl ?_
    refine g_getr' (q := (ye1 + 4)) fl_RX2_73 hye1 (by decide) (qy3 hye1) dX2_holds_40 ?_
    refine g_iload_n dX2_holds_43 rfl rfl ?_
    refine g_iald (ky3 hye1) dX2_holds_44 ?_
    intro x9
    refine g_istore (lv' := [some (.inr (.inr pr0)), some (.inr (.inr ye1)), some (.inl a2), some (.inl r7), some (.inl x9)]) dX2_holds_45 (Nat.le_of_ble_eq_true rfl) rfl ?_
    refine g_aload_n dX2_holds_47 rfl rfl ?_
    refine g_getr' (q := (ye1 + 3)) fl_RX2_60 hye1 (by decide) (qy2 hye1) dX2_holds_48 ?_
    refine g_iload_n dX2_holds_51 rfl rfl ?_
    refine g_iald (ky2 hye1) dX2_holds_52 ?_
    intro x10
    refine g_lsw2 (t1 := 80) (t2 := 92) (td := 104) dX2_holds_53 (by decide) ?_ ?_ ?_
    · refine g_iload_n dX2_holds_80 rfl rfl ?_
      refine g_iload dX2_holds_81 rfl ?_
      refine g_icmpge (tgt := 90) dX2_holds_83 (by decide) ?_ ?_
      · refine g_iconst dX2_holds_86 (by decide) ?_
        refine g_goto (tgt := 91) dX2_holds_87 (by decide) ?_
        exact g_zret1 dX2_holds_91
      · refine g_iconst dX2_holds_90 (by decide) ?_
        exact g_zret0 dX2_holds_91
    · refine g_iload_n dX2_holds_92 rfl rfl ?_
      refine g_iload dX2_holds_93 rfl ?_
      refine g_icmple (tgt := 102) dX2_holds_95 (by decide) ?_ ?_
      · refine g_iconst dX2_holds_98 (by decide) ?_
        refine g_goto (tgt := 103) dX2_holds_99 (by decide) ?_
        exact g_zret1 dX2_holds_103
      · refine g_iconst dX2_holds_102 (by decide) ?_
        exact g_zret0 dX2_holds_103
    · refine g_iload_n dX2_holds_104 rfl rfl ?_
      refine g_iload dX2_holds_105 rfl ?_
      refine g_icmpne (tgt := 114) dX2_holds_107 (by decide) ?_ ?_
      · refine g_iconst dX2_holds_110 (by decide) ?_
        refine g_goto (tgt := 115) dX2_holds_111 (by decide) ?_
        exact g_zret1 dX2_holds_115
      · refine g_iconst dX2_holds_114 (by decide) ?_
        exact g_zret0 dX2_holds_115
theorem dX2_behindBeginning_0 : decode cX2_behindBeginning 0 = .ok (.aload_n 2, 1) := by decide +kernel
theorem dX2_behindBeginning_1 : decode cX2_behindBeginning 1 = .ok (.getfield 50, 3) := by decide +kernel
theorem dX2_behindBeginning_4 : decode cX2_behindBeginning 4 = .ok (.iload_n 3, 1) := by decide +kernel
theorem dX2_behindBeginning_5 : decode cX2_behindBeginning 5 = .ok (.iaload, 1) := by decide +kernel
theorem dX2_behindBeginning_6 : decode cX2_behindBeginning 6 = .ok (.istore 4, 2) := by decide +kernel
theorem dX2_behindBeginning_8 : decode cX2_behindBeginning 8 = .ok (.aload_n 2, 1) := by decide +kernel
theorem dX2_behindBeginning_9 : decode cX2_behindBeginning 9 = .ok (.getfield 31, 3) := by decide +kernel
theorem dX2_behindBeginning_12 : decode cX2_behindBeginning 12 = .ok (.iload_n 3, 1) := by decide +kernel
theorem dX2_behindBeginning_13 : decode cX2_behindBeginning 13 = .ok (.iaload, 1) := by decide +kernel
theorem dX2_behindBeginning_14 : decode cX2_behindBeginning 14 = .ok (.bipush 22, 2) := by decide +kernel
theorem dX2_behindBeginning_16 : decode cX2_behindBeginning 16 = .ok (.if_icmp .eq 23, 3) := by decide +kernel
theorem dX2_behindBeginning_19 : decode cX2_behindBeginning 19 = .ok (.aload_n 1, 1) := by decide +kernel
theorem dX2_behindBeginning_20 : decode cX2_behindBeginning 20 = .ok (.aload_n 2, 1) := by decide +kernel
theorem dX2_behindBeginning_21 : decode cX2_behindBeginning 21 = .ok (.iload_n 3, 1) := by decide +kernel
theorem dX2_behindBeginning_22 : decode cX2_behindBeginning 22 = .ok (.invokestatic 53, 3) := by decide +kernel
theorem dX2_behindBeginning_25 : decode cX2_behindBeginning 25 = .ok (.ifCond .eq 9, 3) := by decide +kernel
theorem dX2_behindBeginning_28 : decode cX2_behindBeginning 28 = .ok (.iload_n 3, 1) := by decide +kernel
theorem dX2_behindBeginning_29 : decode cX2_behindBeginning 29 = .ok (.iconst 1, 1) := by decide +kernel
theorem dX2_behindBeginning_30 : decode cX2_behindBeginning 30 = .ok (.iadd, 1) := by decide +kernel
theorem dX2_behindBeginning_31 : decode cX2_behindBeginning 31 = .ok (.goto 7, 3) := by decide +kernel
theorem dX2_behindBeginning_34 : decode cX2_behindBeginning 34 = .ok (.iload 4, 2) := by decide +kernel
theorem dX2_behindBeginning_36 : decode cX2_behindBeginning 36 = .ok (.iconst 1, 1) := by decide +kernel
theorem dX2_behindBeginning_37 : decode cX2_behindBeginning 37 = .ok (.iadd, 1) := by decide +kernel
theorem dX2_behindBeginning_38 : decode cX2_behindBeginning 38 = .ok (.ireturn, 1) := by decide +kernel
theorem dX2_behindBeginning_39 : decode cX2_behindBeginning 39 = .ok (.aload_n 0, 1) := by decide +kernel
theorem dX2_behindBeginning_40 : decode cX2_behindBeginning 40 = .ok (.getfield 17, 3) := by decide +kernel
theorem dX2_behindBeginning_43 : decode cX2_behindBeginning 43 = .ok (.iload_n 3, 1) := by decide +kernel
theorem dX2_behindBeginning_44 : decode cX2_behindBeginning 44 = .ok (.aload_n 2, 1) := by decide +kernel
theorem dX2_behindBeginning_45 : decode cX2_behindBeginning 45 = .ok (.getfield 57, 3) := by decide +kernel
theorem dX2_behindBeginning_48 : decode cX2_behindBeginning 48 = .ok (.iload_n 3, 1) := by decide +kernel
theorem dX2_behindBeginning_49 : decode cX2_behindBeginning 49 = .ok (.iaload, 1) := by decide +kernel
theorem dX2_behindBeginning_50 : decode cX2_behindBeginning 50 = .ok (.iastore, 1) := by decide +kernel
theorem dX2_behindBeginning_51 : decode cX2_behindBeginning 51 = .ok (.iload 4, 2) := by decide +kernel
theorem dX2_behindBeginning_53 : decode cX2_behindBeginning 53 = .ok (.iload_n 3, 1) := by decide +kernel
theorem dX2_behindBeginning_54 : decode cX2_behindBeginning 54 = .ok (.iconst 1, 1) := by decide +kernel
theorem dX2_behindBeginning_55 : decode cX2_behindBeginning 55 = .ok (.iadd, 1) := by decide +kernel
theorem dX2_behindBeginning_56 : decode cX2_behindBeginning 56 = .ok (.if_icmp .ne 10, 3) := by decide +kernel
theorem dX2_behindBeginning_59 : decode cX2_behindBeginning 59 = .ok (.iload 4, 2) := by decide +kernel
theorem dX2_behindBeginning_61 : decode cX2_behindBeginning 61 = .ok (.iconst 1, 1) := by decide +kernel
theorem dX2_behindBeginning_62 : decode cX2_behindBeginning 62 = .ok (.iadd, 1) := by decide +kernel
theorem dX2_behindBeginning_63 : decode cX2_behindBeginning 63 = .ok (.goto 6, 3) := by decide +kernel
theorem dX2_behindBeginning_66 : decode cX2_behindBeginning 66 = .ok (.iload_n 3, 1) := by decide +kernel
theorem dX2_behindBeginning_67 : decode cX2_behindBeginning 67 = .ok (.iconst 1, 1) := by decide +kernel
theorem dX2_behindBeginning_68 : decode cX2_behindBeginning 68 = .ok (.iadd, 1) := by decide +kernel
theorem dX2_behindBeginning_69 : decode cX2_behindBeginning 69 = .ok (.ireturn, 1) := by decide +kernel
theorem mw_X2_behindBeginning : MW yX2_behindBeginning cX2_behindBeginning 5 0 3 false := ⟨tm 1503 (by decide +kernel) rfl, tm 244 (by decide +kernel) rfl, by decide, by decide, (by rw [if_neg (by decide)]; exact ⟨tm 1502 (by decide +kernel) rfl, tm 114 (by decide +kernel) rfl⟩)⟩
theorem lk_RX2_53 : LK RX2 53 yX2_holds := Or.inl (tm 1504 (by decide +kernel) rfl)
theorem fl_RX2_17 : FL RX2 17 2 1 := ⟨_, _, _, _, cw_2, by decide, Or.inr (Or.inr (Or.inr (by decide))), Or.inl (by decide), Or.inl (tm 543 (by decide +kernel) rfl)⟩
theorem fl_RX2_50 : FL RX2 50 8 4 := ⟨_, _, _, _, cw_8, by decide, Or.inr (Or.inr (Or.inr (by decide))), Or.inl (by decide), Or.inr ⟨"HairProvince", tm 507 (by decide +kernel) rfl⟩⟩
def Li_behindBeginning (pr1 : Nat) (ye2 : Nat) (a3 : Int) (σ : Sg) : Rs := (rd 60 a3 (σ (ye2 + 5) (Int.toNat a3)) (fun x1 => (rd 60 a3 (σ (ye2 + 1) (Int.toNat a3)) (fun x2 => (if x2 = 22 then (rd 60 a3 (σ (ye2 + 2) (Int.toNat a3)) (fun x3 => (wr 60 a3 (up_s σ 97 (Int.toNat a3) x3) (fun s4 => (if x1 = (w32 (a3 + 1)) then (some ((w32 (x1 + 1)), s4)) else (some ((w32 (a3 + 1)), s4))))))) else (bd (Li_holds pr1 ye2 a3 σ) (fun r5 s6 => (if r5 = 0 then (some ((w32 (x1 + 1)), s6)) else (some ((w32 (a3 + 1)), s6))))))))))
theorem ok_Li_behindBeginning (pr1 : Nat) (ye2 : Nat) (a3 : Int) (hpr1 : Kh[pr1]? = some (.inl 4)) (hye2 : Kh[ye2]? = some (.inl 8)) (σ : Sg) : MC l Kh Ph yX2_behindBeginning cX2_behindBeginning 5 0 5 [.inr (.inr 95), .inr (.inr pr1), .inr (.inr ye2), .inl a3] σ (Li_behindBeginning pr1 ye2 a3 σ) := by
  refine mc_of (by decide) (Nat.le_of_ble_eq_true rfl) ?_
  change G l Kh Ph RX2 cX2_behindBeginning 5 0 5 0 [some (.inr (.inr 95)), some (.inr (.inr pr1)), some (.inr (.inr ye2)), some (.inl a3), none] [] σ (Li_behindBeginning pr1 ye2 a3 σ)
  unfold Li_behindBeginning
  refine g_aload_n dX2_behindBeginning_0 rfl rfl ?_
  refine g_getr' (q := (ye2 + 5)) fl_RX2_50 hye2 (by decide) (qy4 hye2) dX2_behindBeginning_1 ?_
  refine g_iload_n dX2_behindBeginning_4 rfl rfl ?_
  refine g_iald (ky4 hye2) dX2_behindBeginning_5 ?_
  intro x1
  refine g_istore (lv' := [some (.inr (.inr 95)), some (.inr (.inr pr1)), some (.inr (.inr ye2)), some (.inl a3), some (.inl x1)]) dX2_behindBeginning_6 (Nat.le_of_ble_eq_true rfl) rfl ?_
  refine g_aload_n dX2_behindBeginning_8 rfl rfl ?_
  refine g_getr' (q := (ye2 + 1)) fl_RX2_31 hye2 (by decide) (qy0 hye2) dX2_behindBeginning_9 ?_
  refine g_iload_n dX2_behindBeginning_12 rfl rfl ?_
  refine g_iald (ky0 hye2) dX2_behindBeginning_13 ?_
  intro x2
  refine g_bipush dX2_behindBeginning_14 (by decide) ?_
  refine g_icmpeq (tgt := 39) dX2_behindBeginning_16 (by decide) ?_ ?_
  · refine g_aload_n dX2_behindBeginning_39 rfl rfl ?_
    refine g_getr' (q := 97) fl_RX2_17 kh_95 (by decide) rfl dX2_behindBeginning_40 ?_
    refine g_iload_n dX2_behindBeginning_43 rfl rfl ?_
    refine g_aload_n dX2_behindBeginning_44 rfl rfl ?_
    refine g_getr' (q := (ye2 + 2)) fl_RX2_57 hye2 (by decide) (qy1 hye2) dX2_behindBeginning_45 ?_
    refine g_iload_n dX2_behindBeginning_48 rfl rfl ?_
    refine g_iald (ky1 hye2) dX2_behindBeginning_49 ?_
    intro x3
    refine g_iast kh_97 dX2_behindBeginning_50 ?_
    intro s4
    refine g_iload dX2_behindBeginning_51 rfl ?_
    refine g_iload_n dX2_behindBeginning_53 rfl rfl ?_
    refine g_iconst dX2_behindBeginning_54 (by decide) ?_
    refine g_iadd dX2_behindBeginning_55 ?_
    refine g_icmpne (tgt := 66) dX2_behindBeginning_56 (by decide) ?_ ?_
    · refine g_iload dX2_behindBeginning_59 rfl ?_
      refine g_iconst dX2_behindBeginning_61 (by decide) ?_
      refine g_iadd dX2_behindBeginning_62 ?_
      refine g_goto (tgt := 69) dX2_behindBeginning_63 (by decide) ?_
      exact g_iret dX2_behindBeginning_69
    · refine g_iload_n dX2_behindBeginning_66 rfl rfl ?_
      refine g_iconst dX2_behindBeginning_67 (by decide) ?_
      refine g_iadd dX2_behindBeginning_68 ?_
      exact g_iret dX2_behindBeginning_69
  · refine g_aload_n dX2_behindBeginning_19 rfl rfl ?_
    refine g_aload_n dX2_behindBeginning_20 rfl rfl ?_
    refine g_iload_n dX2_behindBeginning_21 rfl rfl ?_
    refine g_calls3 (st := []) mw_X2_holds lk_RX2_53 (ok_Li_holds pr1 ye2 a3 hpr1 hye2 σ) (Nat.le_of_ble_eq_true rfl) rfl rfl (Nat.le_of_ble_eq_true rfl) dX2_behindBeginning_22 ?_
    intro r5 s6
    refine g_ifeq (tgt := 34) dX2_behindBeginning_25 (by decide) ?_ ?_
    · refine g_iload dX2_behindBeginning_34 rfl ?_
      refine g_iconst dX2_behindBeginning_36 (by decide) ?_
      refine g_iadd dX2_behindBeginning_37 ?_
      exact g_iret dX2_behindBeginning_38
    · refine g_iload_n dX2_behindBeginning_28 rfl rfl ?_
      refine g_iconst dX2_behindBeginning_29 (by decide) ?_
      refine g_iadd dX2_behindBeginning_30 ?_
      refine g_goto (tgt := 38) dX2_behindBeginning_31 (by decide) ?_
      exact g_iret dX2_behindBeginning_38
theorem dX9_isOrder_0 : decode cX9_isOrder 0 = .ok (.iload_n 1, 1) := by decide +kernel
theorem dX9_isOrder_1 : decode cX9_isOrder 1 = .ok (.ifCond .lt 21, 3) := by decide +kernel
theorem dX9_isOrder_4 : decode cX9_isOrder 4 = .ok (.iload_n 1, 1) := by decide +kernel
theorem dX9_isOrder_5 : decode cX9_isOrder 5 = .ok (.aload_n 0, 1) := by decide +kernel
theorem dX9_isOrder_6 : decode cX9_isOrder 6 = .ok (.getfield 27, 3) := by decide +kernel
theorem dX9_isOrder_9 : decode cX9_isOrder 9 = .ok (.if_icmp .ge 13, 3) := by decide +kernel
theorem dX9_isOrder_12 : decode cX9_isOrder 12 = .ok (.iload_n 1, 1) := by decide +kernel
theorem dX9_isOrder_13 : decode cX9_isOrder 13 = .ok (.bipush 60, 2) := by decide +kernel
theorem dX9_isOrder_15 : decode cX9_isOrder 15 = .ok (.if_icmp .ge 7, 3) := by decide +kernel
theorem dX9_isOrder_18 : decode cX9_isOrder 18 = .ok (.iconst 1, 1) := by decide +kernel
theorem dX9_isOrder_19 : decode cX9_isOrder 19 = .ok (.goto 4, 3) := by decide +kernel
theorem dX9_isOrder_22 : decode cX9_isOrder 22 = .ok (.iconst 0, 1) := by decide +kernel
theorem dX9_isOrder_23 : decode cX9_isOrder 23 = .ok (.ireturn, 1) := by decide +kernel
theorem mw_X9_isOrder : MW yX9_isOrder cX9_isOrder 2 3 1 false := ⟨tm 1009 (by decide +kernel) rfl, tm 243 (by decide +kernel) rfl, by decide, by decide, (by rw [if_neg (by decide)]; exact ⟨tm 1008 (by decide +kernel) rfl, tm 51 (by decide +kernel) rfl⟩)⟩
def Ye_isOrder (ye0 : Nat) (a1 : Int) (σ : Sg) : Rs := (if a1 < 0 then (some (0, σ)) else (if a1 < (σ ye0 5) then (if a1 < 60 then (some (1, σ)) else (some (0, σ))) else (some (0, σ))))
theorem ok_Ye_isOrder (ye0 : Nat) (a1 : Int) (hye0 : Kh[ye0]? = some (.inl 8)) (σ : Sg) : MC l Kh Ph yX9_isOrder cX9_isOrder 2 3 1 [.inr (.inr ye0), .inl a1] σ (Ye_isOrder ye0 a1 σ) := by
  refine mc_of (by decide) (Nat.le_of_ble_eq_true rfl) ?_
  change G l Kh Ph RX9 cX9_isOrder 2 3 1 0 [some (.inr (.inr ye0)), some (.inl a1)] [] σ (Ye_isOrder ye0 a1 σ)
  unfold Ye_isOrder
  refine g_iload_n dX9_isOrder_0 rfl rfl ?_
  refine g_iflt (tgt := 22) dX9_isOrder_1 (by decide) ?_ ?_
  · refine g_iconst dX9_isOrder_22 (by decide) ?_
    exact g_zret0 dX9_isOrder_23
  · refine g_iload_n dX9_isOrder_4 rfl rfl ?_
    refine g_aload_n dX9_isOrder_5 rfl rfl ?_
    refine g_geti fl_RX9_27 hye0 (by decide) dX9_isOrder_6 ?_
    refine g_icmpge (tgt := 22) dX9_isOrder_9 (by decide) ?_ ?_
    · refine g_iload_n dX9_isOrder_12 rfl rfl ?_
      refine g_bipush dX9_isOrder_13 (by decide) ?_
      refine g_icmpge (tgt := 22) dX9_isOrder_15 (by decide) ?_ ?_
      · refine g_iconst dX9_isOrder_18 (by decide) ?_
        refine g_goto (tgt := 23) dX9_isOrder_19 (by decide) ?_
        exact g_zret1 dX9_isOrder_23
      · refine g_iconst dX9_isOrder_22 (by decide) ?_
        exact g_zret0 dX9_isOrder_23
    · refine g_iconst dX9_isOrder_22 (by decide) ?_
      exact g_zret0 dX9_isOrder_23
theorem dX2_behindEnd_0 : decode cX2_behindEnd 0 = .ok (.aload_n 1, 1) := by decide +kernel
theorem dX2_behindEnd_1 : decode cX2_behindEnd 1 = .ok (.getfield 50, 3) := by decide +kernel
theorem dX2_behindEnd_4 : decode cX2_behindEnd 4 = .ok (.iload_n 2, 1) := by decide +kernel
theorem dX2_behindEnd_5 : decode cX2_behindEnd 5 = .ok (.iaload, 1) := by decide +kernel
theorem dX2_behindEnd_6 : decode cX2_behindEnd 6 = .ok (.istore_n 3, 1) := by decide +kernel
theorem dX2_behindEnd_7 : decode cX2_behindEnd 7 = .ok (.aload_n 1, 1) := by decide +kernel
theorem dX2_behindEnd_8 : decode cX2_behindEnd 8 = .ok (.iload_n 3, 1) := by decide +kernel
theorem dX2_behindEnd_9 : decode cX2_behindEnd 9 = .ok (.invokevirtual 27, 3) := by decide +kernel
theorem dX2_behindEnd_12 : decode cX2_behindEnd 12 = .ok (.ifCond .eq 14, 3) := by decide +kernel
theorem dX2_behindEnd_15 : decode cX2_behindEnd 15 = .ok (.aload_n 1, 1) := by decide +kernel
theorem dX2_behindEnd_16 : decode cX2_behindEnd 16 = .ok (.getfield 31, 3) := by decide +kernel
theorem dX2_behindEnd_19 : decode cX2_behindEnd 19 = .ok (.iload_n 3, 1) := by decide +kernel
theorem dX2_behindEnd_20 : decode cX2_behindEnd 20 = .ok (.iaload, 1) := by decide +kernel
theorem dX2_behindEnd_21 : decode cX2_behindEnd 21 = .ok (.bipush 22, 2) := by decide +kernel
theorem dX2_behindEnd_23 : decode cX2_behindEnd 23 = .ok (.if_icmp .eq 7, 3) := by decide +kernel
theorem dX2_behindEnd_26 : decode cX2_behindEnd 26 = .ok (.iload_n 2, 1) := by decide +kernel
theorem dX2_behindEnd_27 : decode cX2_behindEnd 27 = .ok (.iconst 1, 1) := by decide +kernel
theorem dX2_behindEnd_28 : decode cX2_behindEnd 28 = .ok (.iadd, 1) := by decide +kernel
theorem dX2_behindEnd_29 : decode cX2_behindEnd 29 = .ok (.ireturn, 1) := by decide +kernel
theorem dX2_behindEnd_30 : decode cX2_behindEnd 30 = .ok (.aload_n 0, 1) := by decide +kernel
theorem dX2_behindEnd_31 : decode cX2_behindEnd 31 = .ok (.getfield 17, 3) := by decide +kernel
theorem dX2_behindEnd_34 : decode cX2_behindEnd 34 = .ok (.iload_n 3, 1) := by decide +kernel
theorem dX2_behindEnd_35 : decode cX2_behindEnd 35 = .ok (.dup2, 1) := by decide +kernel
theorem dX2_behindEnd_36 : decode cX2_behindEnd 36 = .ok (.iaload, 1) := by decide +kernel
theorem dX2_behindEnd_37 : decode cX2_behindEnd 37 = .ok (.iconst 1, 1) := by decide +kernel
theorem dX2_behindEnd_38 : decode cX2_behindEnd 38 = .ok (.isub, 1) := by decide +kernel
theorem dX2_behindEnd_39 : decode cX2_behindEnd 39 = .ok (.iastore, 1) := by decide +kernel
theorem dX2_behindEnd_40 : decode cX2_behindEnd 40 = .ok (.aload_n 0, 1) := by decide +kernel
theorem dX2_behindEnd_41 : decode cX2_behindEnd 41 = .ok (.getfield 17, 3) := by decide +kernel
theorem dX2_behindEnd_44 : decode cX2_behindEnd 44 = .ok (.iload_n 3, 1) := by decide +kernel
theorem dX2_behindEnd_45 : decode cX2_behindEnd 45 = .ok (.iaload, 1) := by decide +kernel
theorem dX2_behindEnd_46 : decode cX2_behindEnd 46 = .ok (.ifCond .le 9, 3) := by decide +kernel
theorem dX2_behindEnd_49 : decode cX2_behindEnd 49 = .ok (.iload_n 3, 1) := by decide +kernel
theorem dX2_behindEnd_50 : decode cX2_behindEnd 50 = .ok (.iconst 1, 1) := by decide +kernel
theorem dX2_behindEnd_51 : decode cX2_behindEnd 51 = .ok (.iadd, 1) := by decide +kernel
theorem dX2_behindEnd_52 : decode cX2_behindEnd 52 = .ok (.goto 6, 3) := by decide +kernel
theorem dX2_behindEnd_55 : decode cX2_behindEnd 55 = .ok (.iload_n 2, 1) := by decide +kernel
theorem dX2_behindEnd_56 : decode cX2_behindEnd 56 = .ok (.iconst 1, 1) := by decide +kernel
theorem dX2_behindEnd_57 : decode cX2_behindEnd 57 = .ok (.iadd, 1) := by decide +kernel
theorem dX2_behindEnd_58 : decode cX2_behindEnd 58 = .ok (.ireturn, 1) := by decide +kernel
theorem mw_X2_behindEnd : MW yX2_behindEnd cX2_behindEnd 4 0 2 false := ⟨tm 1498 (by decide +kernel) rfl, tm 244 (by decide +kernel) rfl, by decide, by decide, (by rw [if_neg (by decide)]; exact ⟨tm 1497 (by decide +kernel) rfl, tm 113 (by decide +kernel) rfl⟩)⟩
theorem lk_RX2_27 : LK RX2 27 yX9_isOrder := Or.inr ⟨"HairProvince", tm 1494 (by decide +kernel) rfl⟩
def Li_behindEnd (ye1 : Nat) (a2 : Int) (σ : Sg) : Rs := (rd 60 a2 (σ (ye1 + 5) (Int.toNat a2)) (fun x1 => (bd (Ye_isOrder ye1 x1 σ) (fun r2 s3 => (if r2 = 0 then (some ((w32 (a2 + 1)), s3)) else (rd 60 x1 (s3 (ye1 + 1) (Int.toNat x1)) (fun x4 => (if x4 = 22 then (rd 60 x1 (s3 97 (Int.toNat x1)) (fun x5 => (wr 60 x1 (up_s s3 97 (Int.toNat x1) (w32 (x5 - 1))) (fun s6 => (rd 60 x1 (s6 97 (Int.toNat x1)) (fun x7 => (if 0 < x7 then (some ((w32 (x1 + 1)), s6)) else (some ((w32 (a2 + 1)), s6))))))))) else (some ((w32 (a2 + 1)), s3))))))))))
theorem ok_Li_behindEnd (ye1 : Nat) (a2 : Int) (hye1 : Kh[ye1]? = some (.inl 8)) (σ : Sg) : MC l Kh Ph yX2_behindEnd cX2_behindEnd 4 0 2 [.inr (.inr 95), .inr (.inr ye1), .inl a2] σ (Li_behindEnd ye1 a2 σ) := by
  refine mc_of (by decide) (Nat.le_of_ble_eq_true rfl) ?_
  change G l Kh Ph RX2 cX2_behindEnd 4 0 2 0 [some (.inr (.inr 95)), some (.inr (.inr ye1)), some (.inl a2), none] [] σ (Li_behindEnd ye1 a2 σ)
  unfold Li_behindEnd
  refine g_aload_n dX2_behindEnd_0 rfl rfl ?_
  refine g_getr' (q := (ye1 + 5)) fl_RX2_50 hye1 (by decide) (qy4 hye1) dX2_behindEnd_1 ?_
  refine g_iload_n dX2_behindEnd_4 rfl rfl ?_
  refine g_iald (ky4 hye1) dX2_behindEnd_5 ?_
  intro x1
  refine g_istore_n (lv' := [some (.inr (.inr 95)), some (.inr (.inr ye1)), some (.inl a2), some (.inl x1)]) dX2_behindEnd_6 rfl (Nat.le_of_ble_eq_true rfl) rfl ?_
  refine g_aload_n dX2_behindEnd_7 rfl rfl ?_
  refine g_iload_n dX2_behindEnd_8 rfl rfl ?_
  refine g_callv3 (st := []) 8 mw_X9_isOrder lk_RX2_27 rfl hye1 (ok_Ye_isOrder ye1 x1 hye1 σ) (Nat.le_of_ble_eq_true rfl) rfl rfl (Nat.le_of_ble_eq_true rfl) dX2_behindEnd_9 ?_
  intro r2 s3
  refine g_ifeq (tgt := 26) dX2_behindEnd_12 (by decide) ?_ ?_
  · refine g_iload_n dX2_behindEnd_26 rfl rfl ?_
    refine g_iconst dX2_behindEnd_27 (by decide) ?_
    refine g_iadd dX2_behindEnd_28 ?_
    exact g_iret dX2_behindEnd_29
  · refine g_aload_n dX2_behindEnd_15 rfl rfl ?_
    refine g_getr' (q := (ye1 + 1)) fl_RX2_31 hye1 (by decide) (qy0 hye1) dX2_behindEnd_16 ?_
    refine g_iload_n dX2_behindEnd_19 rfl rfl ?_
    refine g_iald (ky0 hye1) dX2_behindEnd_20 ?_
    intro x4
    refine g_bipush dX2_behindEnd_21 (by decide) ?_
    refine g_icmpeq (tgt := 30) dX2_behindEnd_23 (by decide) ?_ ?_
    · refine g_aload_n dX2_behindEnd_30 rfl rfl ?_
      refine g_getr' (q := 97) fl_RX2_17 kh_95 (by decide) rfl dX2_behindEnd_31 ?_
      refine g_iload_n dX2_behindEnd_34 rfl rfl ?_
      refine g_dup2 dX2_behindEnd_35 rfl rfl ?_
      refine g_iald kh_97 dX2_behindEnd_36 ?_
      intro x5
      refine g_iconst dX2_behindEnd_37 (by decide) ?_
      refine g_isub dX2_behindEnd_38 ?_
      refine g_iast kh_97 dX2_behindEnd_39 ?_
      intro s6
      refine g_aload_n dX2_behindEnd_40 rfl rfl ?_
      refine g_getr' (q := 97) fl_RX2_17 kh_95 (by decide) rfl dX2_behindEnd_41 ?_
      refine g_iload_n dX2_behindEnd_44 rfl rfl ?_
      refine g_iald kh_97 dX2_behindEnd_45 ?_
      intro x7
      refine g_ifle (tgt := 55) dX2_behindEnd_46 (by decide) ?_ ?_
      · refine g_iload_n dX2_behindEnd_49 rfl rfl ?_
        refine g_iconst dX2_behindEnd_50 (by decide) ?_
        refine g_iadd dX2_behindEnd_51 ?_
        refine g_goto (tgt := 58) dX2_behindEnd_52 (by decide) ?_
        exact g_iret dX2_behindEnd_58
      · refine g_iload_n dX2_behindEnd_55 rfl rfl ?_
        refine g_iconst dX2_behindEnd_56 (by decide) ?_
        refine g_iadd dX2_behindEnd_57 ?_
        exact g_iret dX2_behindEnd_58
    · refine g_iload_n dX2_behindEnd_26 rfl rfl ?_
      refine g_iconst dX2_behindEnd_27 (by decide) ?_
      refine g_iadd dX2_behindEnd_28 ?_
      exact g_iret dX2_behindEnd_29
theorem dX2_draw_0 : decode cX2_draw 0 = .ok (.aload_n 0, 1) := by decide +kernel
theorem dX2_draw_1 : decode cX2_draw 1 = .ok (.aload_n 0, 1) := by decide +kernel
theorem dX2_draw_2 : decode cX2_draw 2 = .ok (.getfield 24, 3) := by decide +kernel
theorem dX2_draw_5 : decode cX2_draw 5 = .ok (.sipush 2971, 3) := by decide +kernel
theorem dX2_draw_8 : decode cX2_draw 8 = .ok (.imul, 1) := by decide +kernel
theorem dX2_draw_9 : decode cX2_draw 9 = .ok (.sipush 10789, 3) := by decide +kernel
theorem dX2_draw_12 : decode cX2_draw 12 = .ok (.iadd, 1) := by decide +kernel
theorem dX2_draw_13 : decode cX2_draw 13 = .ok (.ldc 128, 2) := by decide +kernel
theorem dX2_draw_15 : decode cX2_draw 15 = .ok (.irem, 1) := by decide +kernel
theorem dX2_draw_16 : decode cX2_draw 16 = .ok (.putfield 24, 3) := by decide +kernel
theorem dX2_draw_19 : decode cX2_draw 19 = .ok (.iload_n 1, 1) := by decide +kernel
theorem dX2_draw_20 : decode cX2_draw 20 = .ok (.ifCond .le 15, 3) := by decide +kernel
theorem dX2_draw_23 : decode cX2_draw 23 = .ok (.aload_n 0, 1) := by decide +kernel
theorem dX2_draw_24 : decode cX2_draw 24 = .ok (.getfield 24, 3) := by decide +kernel
theorem dX2_draw_27 : decode cX2_draw 27 = .ok (.bipush 8, 2) := by decide +kernel
theorem dX2_draw_29 : decode cX2_draw 29 = .ok (.idiv, 1) := by decide +kernel
theorem dX2_draw_30 : decode cX2_draw 30 = .ok (.iload_n 1, 1) := by decide +kernel
theorem dX2_draw_31 : decode cX2_draw 31 = .ok (.irem, 1) := by decide +kernel
theorem dX2_draw_32 : decode cX2_draw 32 = .ok (.goto 4, 3) := by decide +kernel
theorem dX2_draw_35 : decode cX2_draw 35 = .ok (.iconst 0, 1) := by decide +kernel
theorem dX2_draw_36 : decode cX2_draw 36 = .ok (.ireturn, 1) := by decide +kernel
theorem mw_X2_draw : MW yX2_draw cX2_draw 2 0 1 false := ⟨tm 1539 (by decide +kernel) rfl, tm 244 (by decide +kernel) rfl, by decide, by decide, (by rw [if_neg (by decide)]; exact ⟨tm 1538 (by decide +kernel) rfl, tm 120 (by decide +kernel) rfl⟩)⟩
theorem fl_RX2_24 : FL RX2 24 2 3 := ⟨_, _, _, _, cw_2, by decide, Or.inl (by decide), Or.inr (by decide), Or.inl (tm 546 (by decide +kernel) rfl)⟩
def Li_draw (a1 : Int) (σ : Sg) : Rs := (dv 65536 (rm32 (w32 ((w32 ((σ 95 3) * 2971)) + 10789)) 65536) (fun x1 => (nm (up_s σ 95 3 x1) (fun s2 => (if 0 < a1 then (dv 8 (dv32 (s2 95 3) 8) (fun x3 => (dv a1 (rm32 x3 a1) (fun x4 => (some (x4, s2)))))) else (some (0, s2)))))))
theorem ok_Li_draw (a1 : Int) (σ : Sg) : MC l Kh Ph yX2_draw cX2_draw 2 0 1 [.inr (.inr 95), .inl a1] σ (Li_draw a1 σ) := by
  refine mc_of (by decide) (Nat.le_of_ble_eq_true rfl) ?_
  change G l Kh Ph RX2 cX2_draw 2 0 1 0 [some (.inr (.inr 95)), some (.inl a1)] [] σ (Li_draw a1 σ)
  unfold Li_draw
  refine g_aload_n dX2_draw_0 rfl rfl ?_
  refine g_aload_n dX2_draw_1 rfl rfl ?_
  refine g_geti fl_RX2_24 kh_95 (by decide) dX2_draw_2 ?_
  refine g_sipush dX2_draw_5 (by decide) ?_
  refine g_imul dX2_draw_8 ?_
  refine g_sipush dX2_draw_9 (by decide) ?_
  refine g_iadd dX2_draw_12 ?_
  refine g_ldc (n := 65536) (tm 1540 (by decide +kernel) rfl) (by decide) dX2_draw_13 ?_
  refine g_irem dX2_draw_15 ?_
  intro x1
  refine g_puti fl_RX2_24 kh_95 (by decide) dX2_draw_16 ?_
  intro s2
  refine g_iload_n dX2_draw_19 rfl rfl ?_
  refine g_ifle (tgt := 35) dX2_draw_20 (by decide) ?_ ?_
  · refine g_aload_n dX2_draw_23 rfl rfl ?_
    refine g_geti fl_RX2_24 kh_95 (by decide) dX2_draw_24 ?_
    refine g_bipush dX2_draw_27 (by decide) ?_
    refine g_idiv dX2_draw_29 ?_
    intro x3
    refine g_iload_n dX2_draw_30 rfl rfl ?_
    refine g_irem dX2_draw_31 ?_
    intro x4
    refine g_goto (tgt := 36) dX2_draw_32 (by decide) ?_
    exact g_iret dX2_draw_36
  · refine g_iconst dX2_draw_35 (by decide) ?_
    exact g_iret dX2_draw_36
theorem dX4_canSpeak_0 : decode cX4_canSpeak 0 = .ok (.aload_n 0, 1) := by decide +kernel
theorem dX4_canSpeak_1 : decode cX4_canSpeak 1 = .ok (.iload_n 1, 1) := by decide +kernel
theorem dX4_canSpeak_2 : decode cX4_canSpeak 2 = .ok (.iload_n 2, 1) := by decide +kernel
theorem dX4_canSpeak_3 : decode cX4_canSpeak 3 = .ok (.invokevirtual 90, 3) := by decide +kernel
theorem dX4_canSpeak_6 : decode cX4_canSpeak 6 = .ok (.ifCond .eq 29, 3) := by decide +kernel
theorem dX4_canSpeak_9 : decode cX4_canSpeak 9 = .ok (.aload_n 0, 1) := by decide +kernel
theorem dX4_canSpeak_10 : decode cX4_canSpeak 10 = .ok (.iload_n 3, 1) := by decide +kernel
theorem dX4_canSpeak_11 : decode cX4_canSpeak 11 = .ok (.invokevirtual 87, 3) := by decide +kernel
theorem dX4_canSpeak_14 : decode cX4_canSpeak 14 = .ok (.ifCond .eq 21, 3) := by decide +kernel
theorem dX4_canSpeak_17 : decode cX4_canSpeak 17 = .ok (.iload_n 1, 1) := by decide +kernel
theorem dX4_canSpeak_18 : decode cX4_canSpeak 18 = .ok (.iload_n 3, 1) := by decide +kernel
theorem dX4_canSpeak_19 : decode cX4_canSpeak 19 = .ok (.if_icmp .eq 16, 3) := by decide +kernel
theorem dX4_canSpeak_22 : decode cX4_canSpeak 22 = .ok (.aload_n 0, 1) := by decide +kernel
theorem dX4_canSpeak_23 : decode cX4_canSpeak 23 = .ok (.iload_n 3, 1) := by decide +kernel
theorem dX4_canSpeak_24 : decode cX4_canSpeak 24 = .ok (.iload_n 2, 1) := by decide +kernel
theorem dX4_canSpeak_25 : decode cX4_canSpeak 25 = .ok (.invokevirtual 115, 3) := by decide +kernel
theorem dX4_canSpeak_28 : decode cX4_canSpeak 28 = .ok (.ifCond .ne 7, 3) := by decide +kernel
theorem dX4_canSpeak_31 : decode cX4_canSpeak 31 = .ok (.iconst 1, 1) := by decide +kernel
theorem dX4_canSpeak_32 : decode cX4_canSpeak 32 = .ok (.goto 4, 3) := by decide +kernel
theorem dX4_canSpeak_35 : decode cX4_canSpeak 35 = .ok (.iconst 0, 1) := by decide +kernel
theorem dX4_canSpeak_36 : decode cX4_canSpeak 36 = .ok (.ireturn, 1) := by decide +kernel
theorem mw_X4_canSpeak : MW yX4_canSpeak cX4_canSpeak 4 3 3 false := ⟨tm 1164 (by decide +kernel) rfl, tm 242 (by decide +kernel) rfl, by decide, by decide, (by rw [if_neg (by decide)]; exact ⟨tm 1163 (by decide +kernel) rfl, tm 70 (by decide +kernel) rfl⟩)⟩
def Pr_canSpeak (pr0 : Nat) (a1 : Int) (a2 : Int) (a3 : Int) (σ : Sg) : Rs := (bd (Pr_isKept pr0 a1 a2 σ) (fun r1 s2 => (if r1 = 0 then (some (0, s2)) else (bd (Pr_isPerson pr0 a3 s2) (fun r3 s4 => (if r3 = 0 then (some (0, s4)) else (if a1 = a3 then (some (0, s4)) else (bd (Pr_isKnown pr0 a3 a2 s4) (fun r5 s6 => (if r5 = 0 then (some (1, s6)) else (some (0, s6))))))))))))
theorem ok_Pr_canSpeak (pr0 : Nat) (a1 : Int) (a2 : Int) (a3 : Int) (hpr0 : Kh[pr0]? = some (.inl 4)) (σ : Sg) : MC l Kh Ph yX4_canSpeak cX4_canSpeak 4 3 2 [.inr (.inr pr0), .inl a1, .inl a2, .inl a3] σ (Pr_canSpeak pr0 a1 a2 a3 σ) := by
  refine mc_of (by decide) (Nat.le_of_ble_eq_true rfl) ?_
  change G l Kh Ph RX4 cX4_canSpeak 4 3 2 0 [some (.inr (.inr pr0)), some (.inl a1), some (.inl a2), some (.inl a3)] [] σ (Pr_canSpeak pr0 a1 a2 a3 σ)
  unfold Pr_canSpeak
  refine g_aload_n dX4_canSpeak_0 rfl rfl ?_
  refine g_iload_n dX4_canSpeak_1 rfl rfl ?_
  refine g_iload_n dX4_canSpeak_2 rfl rfl ?_
  refine g_callv3 (st := []) 4 mw_X4_isKept lk_RX4_90 rfl hpr0 (ok_Pr_isKept pr0 a1 a2 hpr0 σ) (Nat.le_of_ble_eq_true rfl) rfl rfl (Nat.le_of_ble_eq_true rfl) dX4_canSpeak_3 ?_
  intro r1 s2
  refine g_ifeq (tgt := 35) dX4_canSpeak_6 (by decide) ?_ ?_
  · refine g_iconst dX4_canSpeak_35 (by decide) ?_
    exact g_zret0 dX4_canSpeak_36
  · refine g_aload_n dX4_canSpeak_9 rfl rfl ?_
    refine g_iload_n dX4_canSpeak_10 rfl rfl ?_
    refine g_callv3 (st := []) 4 mw_X4_isPerson lk_RX4_87 rfl hpr0 (ok_Pr_isPerson pr0 a3 hpr0 s2) (Nat.le_of_ble_eq_true rfl) rfl rfl (Nat.le_of_ble_eq_true rfl) dX4_canSpeak_11 ?_
    intro r3 s4
    refine g_ifeq (tgt := 35) dX4_canSpeak_14 (by decide) ?_ ?_
    · refine g_iconst dX4_canSpeak_35 (by decide) ?_
      exact g_zret0 dX4_canSpeak_36
    · refine g_iload_n dX4_canSpeak_17 rfl rfl ?_
      refine g_iload_n dX4_canSpeak_18 rfl rfl ?_
      refine g_icmpeq (tgt := 35) dX4_canSpeak_19 (by decide) ?_ ?_
      · refine g_iconst dX4_canSpeak_35 (by decide) ?_
        exact g_zret0 dX4_canSpeak_36
      · refine g_aload_n dX4_canSpeak_22 rfl rfl ?_
        refine g_iload_n dX4_canSpeak_23 rfl rfl ?_
        refine g_iload_n dX4_canSpeak_24 rfl rfl ?_
        refine g_callv3 (st := []) 4 mw_X4_isKnown lk_RX4_115 rfl hpr0 (ok_Pr_isKnown pr0 a3 a2 hpr0 s4) (Nat.le_of_ble_eq_true rfl) rfl rfl (Nat.le_of_ble_eq_true rfl) dX4_canSpeak_25 ?_
        intro r5 s6
        refine g_ifne (tgt := 35) dX4_canSpeak_28 (by decide) ?_ ?_
        · refine g_iconst dX4_canSpeak_31 (by decide) ?_
          refine g_goto (tgt := 36) dX4_canSpeak_32 (by decide) ?_
          exact g_zret1 dX4_canSpeak_36
        · refine g_iconst dX4_canSpeak_35 (by decide) ?_
          exact g_zret0 dX4_canSpeak_36
theorem dX2_tellOn_0 : decode cX2_tellOn 0 = .ok (.aload_n 1, 1) := by decide +kernel
theorem dX2_tellOn_1 : decode cX2_tellOn 1 = .ok (.iload_n 2, 1) := by decide +kernel
theorem dX2_tellOn_2 : decode cX2_tellOn 2 = .ok (.iload_n 3, 1) := by decide +kernel
theorem dX2_tellOn_3 : decode cX2_tellOn 3 = .ok (.iload 4, 2) := by decide +kernel
theorem dX2_tellOn_5 : decode cX2_tellOn 5 = .ok (.invokevirtual 104, 3) := by decide +kernel
theorem dX2_tellOn_8 : decode cX2_tellOn 8 = .ok (.ifCond .ne 5, 3) := by decide +kernel
theorem dX2_tellOn_11 : decode cX2_tellOn 11 = .ok (.iconst 0, 1) := by decide +kernel
theorem dX2_tellOn_12 : decode cX2_tellOn 12 = .ok (.ireturn, 1) := by decide +kernel
theorem dX2_tellOn_13 : decode cX2_tellOn 13 = .ok (.aload_n 1, 1) := by decide +kernel
theorem dX2_tellOn_14 : decode cX2_tellOn 14 = .ok (.iload_n 2, 1) := by decide +kernel
theorem dX2_tellOn_15 : decode cX2_tellOn 15 = .ok (.iload_n 3, 1) := by decide +kernel
theorem dX2_tellOn_16 : decode cX2_tellOn 16 = .ok (.iload 4, 2) := by decide +kernel
theorem dX2_tellOn_18 : decode cX2_tellOn 18 = .ok (.invokevirtual 108, 3) := by decide +kernel
theorem dX2_tellOn_21 : decode cX2_tellOn 21 = .ok (.aload_n 0, 1) := by decide +kernel
theorem dX2_tellOn_22 : decode cX2_tellOn 22 = .ok (.getfield 11, 3) := by decide +kernel
theorem dX2_tellOn_25 : decode cX2_tellOn 25 = .ok (.iconst 2, 1) := by decide +kernel
theorem dX2_tellOn_26 : decode cX2_tellOn 26 = .ok (.dup2, 1) := by decide +kernel
theorem dX2_tellOn_27 : decode cX2_tellOn 27 = .ok (.iaload, 1) := by decide +kernel
theorem dX2_tellOn_28 : decode cX2_tellOn 28 = .ok (.iconst 1, 1) := by decide +kernel
theorem dX2_tellOn_29 : decode cX2_tellOn 29 = .ok (.iadd, 1) := by decide +kernel
theorem dX2_tellOn_30 : decode cX2_tellOn 30 = .ok (.iastore, 1) := by decide +kernel
theorem dX2_tellOn_31 : decode cX2_tellOn 31 = .ok (.iconst 1, 1) := by decide +kernel
theorem dX2_tellOn_32 : decode cX2_tellOn 32 = .ok (.ireturn, 1) := by decide +kernel
theorem mw_X2_tellOn : MW yX2_tellOn cX2_tellOn 5 3 4 false := ⟨tm 1523 (by decide +kernel) rfl, tm 244 (by decide +kernel) rfl, by decide, by decide, (by rw [if_neg (by decide)]; exact ⟨tm 1522 (by decide +kernel) rfl, tm 117 (by decide +kernel) rfl⟩)⟩
theorem lk_RX2_104 : LK RX2 104 yX4_canSpeak := Or.inr ⟨"HairProvince", tm 1524 (by decide +kernel) rfl⟩
theorem lk_RX2_108 : LK RX2 108 yX4_speak := Or.inr ⟨"HairProvince", tm 1525 (by decide +kernel) rfl⟩
theorem fl_RX2_11 : FL RX2 11 2 0 := ⟨_, _, _, _, cw_2, by decide, Or.inr (Or.inr (Or.inr (by decide))), Or.inl (by decide), Or.inl (tm 541 (by decide +kernel) rfl)⟩
def Li_tellOn (pr1 : Nat) (a2 : Int) (a3 : Int) (a4 : Int) (σ : Sg) : Rs := (bd (Pr_canSpeak pr1 a2 a3 a4 σ) (fun r1 s2 => (if r1 = 0 then (some (0, s2)) else (bd (Pr_speak pr1 a2 a3 a4 s2) (fun r3 s4 => (rd 5 2 (s4 96 (Int.toNat 2)) (fun x5 => (wr 5 2 (up_s s4 96 (Int.toNat 2) (w32 (x5 + 1))) (fun s6 => (some (1, s6)))))))))))
theorem ok_Li_tellOn (pr1 : Nat) (a2 : Int) (a3 : Int) (a4 : Int) (hpr1 : Kh[pr1]? = some (.inl 4)) (σ : Sg) : MC l Kh Ph yX2_tellOn cX2_tellOn 5 3 3 [.inr (.inr 95), .inr (.inr pr1), .inl a2, .inl a3, .inl a4] σ (Li_tellOn pr1 a2 a3 a4 σ) := by
  refine mc_of (by decide) (Nat.le_of_ble_eq_true rfl) ?_
  change G l Kh Ph RX2 cX2_tellOn 5 3 3 0 [some (.inr (.inr 95)), some (.inr (.inr pr1)), some (.inl a2), some (.inl a3), some (.inl a4)] [] σ (Li_tellOn pr1 a2 a3 a4 σ)
  unfold Li_tellOn
  refine g_aload_n dX2_tellOn_0 rfl rfl ?_
  refine g_iload_n dX2_tellOn_1 rfl rfl ?_
  refine g_iload_n dX2_tellOn_2 rfl rfl ?_
  refine g_iload dX2_tellOn_3 rfl ?_
  refine g_callv3 (st := []) 4 mw_X4_canSpeak lk_RX2_104 rfl hpr1 (ok_Pr_canSpeak pr1 a2 a3 a4 hpr1 σ) (Nat.le_of_ble_eq_true rfl) rfl rfl (Nat.le_of_ble_eq_true rfl) dX2_tellOn_5 ?_
  intro r1 s2
  refine g_ifne (tgt := 13) dX2_tellOn_8 (by decide) ?_ ?_
  · refine g_iconst dX2_tellOn_11 (by decide) ?_
    exact g_zret0 dX2_tellOn_12
  · refine g_aload_n dX2_tellOn_13 rfl rfl ?_
    refine g_iload_n dX2_tellOn_14 rfl rfl ?_
    refine g_iload_n dX2_tellOn_15 rfl rfl ?_
    refine g_iload dX2_tellOn_16 rfl ?_
    refine g_callv2 (st := []) 4 mw_X4_speak lk_RX2_108 rfl hpr1 (ok_Pr_speak pr1 a2 a3 a4 hpr1 s2) (Nat.le_of_ble_eq_true rfl) rfl rfl (Nat.le_of_ble_eq_true rfl) dX2_tellOn_18 ?_
    intro r3 s4
    refine g_aload_n dX2_tellOn_21 rfl rfl ?_
    refine g_getr' (q := 96) fl_RX2_11 kh_95 (by decide) rfl dX2_tellOn_22 ?_
    refine g_iconst dX2_tellOn_25 (by decide) ?_
    refine g_dup2 dX2_tellOn_26 rfl rfl ?_
    refine g_iald kh_96 dX2_tellOn_27 ?_
    intro x5
    refine g_iconst dX2_tellOn_28 (by decide) ?_
    refine g_iadd dX2_tellOn_29 ?_
    refine g_iast kh_96 dX2_tellOn_30 ?_
    intro s6
    refine g_iconst dX2_tellOn_31 (by decide) ?_
    exact g_zret1 dX2_tellOn_32
theorem dX2_anything_0 : decode cX2_anything 0 = .ok (.aload_n 1, 1) := by decide +kernel
theorem dX2_anything_1 : decode cX2_anything 1 = .ok (.getfield 119, 3) := by decide +kernel
theorem dX2_anything_4 : decode cX2_anything 4 = .ok (.ifCond .eq 10, 3) := by decide +kernel
theorem dX2_anything_7 : decode cX2_anything 7 = .ok (.aload_n 1, 1) := by decide +kernel
theorem dX2_anything_8 : decode cX2_anything 8 = .ok (.getfield 122, 3) := by decide +kernel
theorem dX2_anything_11 : decode cX2_anything 11 = .ok (.ifCond .ne 5, 3) := by decide +kernel
theorem dX2_anything_14 : decode cX2_anything 14 = .ok (.iconst 0, 1) := by decide +kernel
theorem dX2_anything_15 : decode cX2_anything 15 = .ok (.ireturn, 1) := by decide +kernel
theorem dX2_anything_16 : decode cX2_anything 16 = .ok (.aload_n 0, 1) := by decide +kernel
theorem dX2_anything_17 : decode cX2_anything 17 = .ok (.aload_n 1, 1) := by decide +kernel
theorem dX2_anything_18 : decode cX2_anything 18 = .ok (.getfield 119, 3) := by decide +kernel
theorem dX2_anything_21 : decode cX2_anything 21 = .ok (.invokevirtual 125, 3) := by decide +kernel
theorem dX2_anything_24 : decode cX2_anything 24 = .ok (.istore_n 2, 1) := by decide +kernel
theorem dX2_anything_25 : decode cX2_anything 25 = .ok (.aload_n 0, 1) := by decide +kernel
theorem dX2_anything_26 : decode cX2_anything 26 = .ok (.aload_n 1, 1) := by decide +kernel
theorem dX2_anything_27 : decode cX2_anything 27 = .ok (.getfield 122, 3) := by decide +kernel
theorem dX2_anything_30 : decode cX2_anything 30 = .ok (.invokevirtual 125, 3) := by decide +kernel
theorem dX2_anything_33 : decode cX2_anything 33 = .ok (.istore_n 3, 1) := by decide +kernel
theorem dX2_anything_34 : decode cX2_anything 34 = .ok (.aload_n 0, 1) := by decide +kernel
theorem dX2_anything_35 : decode cX2_anything 35 = .ok (.aload_n 1, 1) := by decide +kernel
theorem dX2_anything_36 : decode cX2_anything 36 = .ok (.getfield 119, 3) := by decide +kernel
theorem dX2_anything_39 : decode cX2_anything 39 = .ok (.invokevirtual 125, 3) := by decide +kernel
theorem dX2_anything_42 : decode cX2_anything 42 = .ok (.istore 4, 2) := by decide +kernel
theorem dX2_anything_44 : decode cX2_anything 44 = .ok (.aload_n 0, 1) := by decide +kernel
theorem dX2_anything_45 : decode cX2_anything 45 = .ok (.aload_n 1, 1) := by decide +kernel
theorem dX2_anything_46 : decode cX2_anything 46 = .ok (.iload_n 2, 1) := by decide +kernel
theorem dX2_anything_47 : decode cX2_anything 47 = .ok (.iload_n 3, 1) := by decide +kernel
theorem dX2_anything_48 : decode cX2_anything 48 = .ok (.iload 4, 2) := by decide +kernel
theorem dX2_anything_50 : decode cX2_anything 50 = .ok (.invokevirtual 86, 3) := by decide +kernel
theorem dX2_anything_53 : decode cX2_anything 53 = .ok (.ireturn, 1) := by decide +kernel
theorem mw_X2_anything : MW yX2_anything cX2_anything 5 3 1 false := ⟨tm 1535 (by decide +kernel) rfl, tm 244 (by decide +kernel) rfl, by decide, by decide, (by rw [if_neg (by decide)]; exact ⟨tm 1534 (by decide +kernel) rfl, tm 119 (by decide +kernel) rfl⟩)⟩
theorem lk_RX2_86 : LK RX2 86 yX2_tellOn := Or.inl (tm 1520 (by decide +kernel) rfl)
theorem lk_RX2_125 : LK RX2 125 yX2_draw := Or.inl (tm 1536 (by decide +kernel) rfl)
theorem fl_RX2_119 : FL RX2 119 4 11 := ⟨_, _, _, _, cw_4, by decide, Or.inl (by decide), Or.inr (by decide), Or.inr ⟨"HairProvince", tm 427 (by decide +kernel) rfl⟩⟩
theorem fl_RX2_122 : FL RX2 122 4 10 := ⟨_, _, _, _, cw_4, by decide, Or.inl (by decide), Or.inr (by decide), Or.inr ⟨"HairProvince", tm 422 (by decide +kernel) rfl⟩⟩
def Li_anything (pr1 : Nat) (σ : Sg) : Rs := (if (σ pr1 11) = 0 then (some (0, σ)) else (if (σ pr1 10) = 0 then (some (0, σ)) else (bd (Li_draw (σ pr1 11) σ) (fun r1 s2 => (bd (Li_draw (s2 pr1 10) s2) (fun r3 s4 => (bd (Li_draw (s4 pr1 11) s4) (fun r5 s6 => (bd (Li_tellOn pr1 r1 r3 r5 s6) (fun r7 s8 => (zb r7 (some (r7, s8)))))))))))))
theorem ok_Li_anything (pr1 : Nat) (hpr1 : Kh[pr1]? = some (.inl 4)) (σ : Sg) : MC l Kh Ph yX2_anything cX2_anything 5 3 4 [.inr (.inr 95), .inr (.inr pr1)] σ (Li_anything pr1 σ) := by
  refine mc_of (by decide) (Nat.le_of_ble_eq_true rfl) ?_
  change G l Kh Ph RX2 cX2_anything 5 3 4 0 [some (.inr (.inr 95)), some (.inr (.inr pr1)), none, none, none] [] σ (Li_anything pr1 σ)
  unfold Li_anything
  refine g_aload_n dX2_anything_0 rfl rfl ?_
  refine g_geti fl_RX2_119 hpr1 (by decide) dX2_anything_1 ?_
  refine g_ifeq (tgt := 14) dX2_anything_4 (by decide) ?_ ?_
  · refine g_iconst dX2_anything_14 (by decide) ?_
    exact g_zret0 dX2_anything_15
  · refine g_aload_n dX2_anything_7 rfl rfl ?_
    refine g_geti fl_RX2_122 hpr1 (by decide) dX2_anything_8 ?_
    refine g_ifne (tgt := 16) dX2_anything_11 (by decide) ?_ ?_
    · refine g_iconst dX2_anything_14 (by decide) ?_
      exact g_zret0 dX2_anything_15
    · refine g_aload_n dX2_anything_16 rfl rfl ?_
      refine g_aload_n dX2_anything_17 rfl rfl ?_
      refine g_geti fl_RX2_119 hpr1 (by decide) dX2_anything_18 ?_
      refine g_callv0 (st := []) 2 mw_X2_draw lk_RX2_125 rfl kh_95 (ok_Li_draw (σ pr1 11) σ) (Nat.le_of_ble_eq_true rfl) rfl rfl (Nat.le_of_ble_eq_true rfl) dX2_anything_21 ?_
      intro r1 s2
      refine g_istore_n (lv' := [some (.inr (.inr 95)), some (.inr (.inr pr1)), some (.inl r1), none, none]) dX2_anything_24 rfl (Nat.le_of_ble_eq_true rfl) rfl ?_
      refine g_aload_n dX2_anything_25 rfl rfl ?_
      refine g_aload_n dX2_anything_26 rfl rfl ?_
      refine g_geti fl_RX2_122 hpr1 (by decide) dX2_anything_27 ?_
      refine g_callv0 (st := []) 2 mw_X2_draw lk_RX2_125 rfl kh_95 (ok_Li_draw (s2 pr1 10) s2) (Nat.le_of_ble_eq_true rfl) rfl rfl (Nat.le_of_ble_eq_true rfl) dX2_anything_30 ?_
      intro r3 s4
      refine g_istore_n (lv' := [some (.inr (.inr 95)), some (.inr (.inr pr1)), some (.inl r1), some (.inl r3), none]) dX2_anything_33 rfl (Nat.le_of_ble_eq_true rfl) rfl ?_
      refine g_aload_n dX2_anything_34 rfl rfl ?_
      refine g_aload_n dX2_anything_35 rfl rfl ?_
      refine g_geti fl_RX2_119 hpr1 (by decide) dX2_anything_36 ?_
      refine g_callv0 (st := []) 2 mw_X2_draw lk_RX2_125 rfl kh_95 (ok_Li_draw (s4 pr1 11) s4) (Nat.le_of_ble_eq_true rfl) rfl rfl (Nat.le_of_ble_eq_true rfl) dX2_anything_39 ?_
      intro r5 s6
      refine g_istore (lv' := [some (.inr (.inr 95)), some (.inr (.inr pr1)), some (.inl r1), some (.inl r3), some (.inl r5)]) dX2_anything_42 (Nat.le_of_ble_eq_true rfl) rfl ?_
      refine g_aload_n dX2_anything_44 rfl rfl ?_
      refine g_aload_n dX2_anything_45 rfl rfl ?_
      refine g_iload_n dX2_anything_46 rfl rfl ?_
      refine g_iload_n dX2_anything_47 rfl rfl ?_
      refine g_iload dX2_anything_48 rfl ?_
      refine g_callv3 (st := []) 2 mw_X2_tellOn lk_RX2_86 rfl kh_95 (ok_Li_tellOn pr1 r1 r3 r5 hpr1 s6) (Nat.le_of_ble_eq_true rfl) rfl rfl (Nat.le_of_ble_eq_true rfl) dX2_anything_50 ?_
      intro r7 s8
      exact g_zret dX2_anything_53
theorem dX2_begin_0 : decode cX2_begin 0 = .ok (.aload_n 1, 1) := by decide +kernel
theorem dX2_begin_1 : decode cX2_begin 1 = .ok (.iload_n 2, 1) := by decide +kernel
theorem dX2_begin_2 : decode cX2_begin 2 = .ok (.iload_n 3, 1) := by decide +kernel
theorem dX2_begin_3 : decode cX2_begin 3 = .ok (.invokevirtual 97, 3) := by decide +kernel
theorem dX2_begin_6 : decode cX2_begin 6 = .ok (.ifCond .ne 5, 3) := by decide +kernel
theorem dX2_begin_9 : decode cX2_begin 9 = .ok (.iconst 0, 1) := by decide +kernel
theorem dX2_begin_10 : decode cX2_begin 10 = .ok (.ireturn, 1) := by decide +kernel
theorem dX2_begin_11 : decode cX2_begin 11 = .ok (.aload_n 1, 1) := by decide +kernel
theorem dX2_begin_12 : decode cX2_begin 12 = .ok (.iload_n 2, 1) := by decide +kernel
theorem dX2_begin_13 : decode cX2_begin 13 = .ok (.iload_n 3, 1) := by decide +kernel
theorem dX2_begin_14 : decode cX2_begin 14 = .ok (.invokevirtual 100, 3) := by decide +kernel
theorem dX2_begin_17 : decode cX2_begin 17 = .ok (.iconst 1, 1) := by decide +kernel
theorem dX2_begin_18 : decode cX2_begin 18 = .ok (.ireturn, 1) := by decide +kernel
theorem mw_X2_begin : MW yX2_begin cX2_begin 4 3 3 false := ⟨tm 1517 (by decide +kernel) rfl, tm 244 (by decide +kernel) rfl, by decide, by decide, (by rw [if_neg (by decide)]; exact ⟨tm 1516 (by decide +kernel) rfl, tm 116 (by decide +kernel) rfl⟩)⟩
theorem lk_RX2_97 : LK RX2 97 yX4_canStart := Or.inr ⟨"HairProvince", tm 1518 (by decide +kernel) rfl⟩
theorem lk_RX2_100 : LK RX2 100 yX4_startStrand := Or.inr ⟨"HairProvince", tm 1519 (by decide +kernel) rfl⟩
def Li_begin (pr1 : Nat) (a2 : Int) (a3 : Int) (σ : Sg) : Rs := (bd (Pr_canStart pr1 a2 a3 σ) (fun r1 s2 => (if r1 = 0 then (some (0, s2)) else (bd (Pr_startStrand pr1 a2 a3 s2) (fun r3 s4 => (some (1, s4)))))))
theorem ok_Li_begin (pr1 : Nat) (a2 : Int) (a3 : Int) (hpr1 : Kh[pr1]? = some (.inl 4)) (σ : Sg) : MC l Kh Ph yX2_begin cX2_begin 4 3 3 [.inr (.inr 95), .inr (.inr pr1), .inl a2, .inl a3] σ (Li_begin pr1 a2 a3 σ) := by
  refine mc_of (by decide) (Nat.le_of_ble_eq_true rfl) ?_
  change G l Kh Ph RX2 cX2_begin 4 3 3 0 [some (.inr (.inr 95)), some (.inr (.inr pr1)), some (.inl a2), some (.inl a3)] [] σ (Li_begin pr1 a2 a3 σ)
  unfold Li_begin
  refine g_aload_n dX2_begin_0 rfl rfl ?_
  refine g_iload_n dX2_begin_1 rfl rfl ?_
  refine g_iload_n dX2_begin_2 rfl rfl ?_
  refine g_callv3 (st := []) 4 mw_X4_canStart lk_RX2_97 rfl hpr1 (ok_Pr_canStart pr1 a2 a3 hpr1 σ) (Nat.le_of_ble_eq_true rfl) rfl rfl (Nat.le_of_ble_eq_true rfl) dX2_begin_3 ?_
  intro r1 s2
  refine g_ifne (tgt := 11) dX2_begin_6 (by decide) ?_ ?_
  · refine g_iconst dX2_begin_9 (by decide) ?_
    exact g_zret0 dX2_begin_10
  · refine g_aload_n dX2_begin_11 rfl rfl ?_
    refine g_iload_n dX2_begin_12 rfl rfl ?_
    refine g_iload_n dX2_begin_13 rfl rfl ?_
    refine g_callv2 (st := []) 4 mw_X4_startStrand lk_RX2_100 rfl hpr1 (ok_Pr_startStrand pr1 a2 a3 hpr1 s2) (Nat.le_of_ble_eq_true rfl) rfl rfl (Nat.le_of_ble_eq_true rfl) dX2_begin_14 ?_
    intro r3 s4
    refine g_iconst dX2_begin_17 (by decide) ?_
    exact g_zret1 dX2_begin_18
theorem dX2_shear_0 : decode cX2_shear 0 = .ok (.aload_n 1, 1) := by decide +kernel
theorem dX2_shear_1 : decode cX2_shear 1 = .ok (.iload_n 2, 1) := by decide +kernel
theorem dX2_shear_2 : decode cX2_shear 2 = .ok (.iload_n 3, 1) := by decide +kernel
theorem dX2_shear_3 : decode cX2_shear 3 = .ok (.invokevirtual 112, 3) := by decide +kernel
theorem dX2_shear_6 : decode cX2_shear 6 = .ok (.ifCond .ne 5, 3) := by decide +kernel
theorem dX2_shear_9 : decode cX2_shear 9 = .ok (.iconst 0, 1) := by decide +kernel
theorem dX2_shear_10 : decode cX2_shear 10 = .ok (.ireturn, 1) := by decide +kernel
theorem dX2_shear_11 : decode cX2_shear 11 = .ok (.aload_n 1, 1) := by decide +kernel
theorem dX2_shear_12 : decode cX2_shear 12 = .ok (.iload_n 2, 1) := by decide +kernel
theorem dX2_shear_13 : decode cX2_shear 13 = .ok (.iload_n 3, 1) := by decide +kernel
theorem dX2_shear_14 : decode cX2_shear 14 = .ok (.invokevirtual 115, 3) := by decide +kernel
theorem dX2_shear_17 : decode cX2_shear 17 = .ok (.pop, 1) := by decide +kernel
theorem dX2_shear_18 : decode cX2_shear 18 = .ok (.aload_n 0, 1) := by decide +kernel
theorem dX2_shear_19 : decode cX2_shear 19 = .ok (.getfield 11, 3) := by decide +kernel
theorem dX2_shear_22 : decode cX2_shear 22 = .ok (.iconst 3, 1) := by decide +kernel
theorem dX2_shear_23 : decode cX2_shear 23 = .ok (.dup2, 1) := by decide +kernel
theorem dX2_shear_24 : decode cX2_shear 24 = .ok (.iaload, 1) := by decide +kernel
theorem dX2_shear_25 : decode cX2_shear 25 = .ok (.iconst 1, 1) := by decide +kernel
theorem dX2_shear_26 : decode cX2_shear 26 = .ok (.iadd, 1) := by decide +kernel
theorem dX2_shear_27 : decode cX2_shear 27 = .ok (.iastore, 1) := by decide +kernel
theorem dX2_shear_28 : decode cX2_shear 28 = .ok (.iconst 1, 1) := by decide +kernel
theorem dX2_shear_29 : decode cX2_shear 29 = .ok (.ireturn, 1) := by decide +kernel
theorem mw_X2_shear : MW yX2_shear cX2_shear 4 3 3 false := ⟨tm 1529 (by decide +kernel) rfl, tm 244 (by decide +kernel) rfl, by decide, by decide, (by rw [if_neg (by decide)]; exact ⟨tm 1528 (by decide +kernel) rfl, tm 118 (by decide +kernel) rfl⟩)⟩
theorem lk_RX2_112 : LK RX2 112 yX4_canTrim := Or.inr ⟨"HairProvince", tm 1530 (by decide +kernel) rfl⟩
theorem lk_RX2_115 : LK RX2 115 yX4_trim := Or.inr ⟨"HairProvince", tm 1531 (by decide +kernel) rfl⟩
def Li_shear (pr1 : Nat) (a2 : Int) (a3 : Int) (σ : Sg) : Rs := (bd (Pr_canTrim pr1 a2 a3 σ) (fun r1 s2 => (if r1 = 0 then (some (0, s2)) else (bd (Pr_trim pr1 a2 a3 s2) (fun r3 s4 => (rd 5 3 (s4 96 (Int.toNat 3)) (fun x5 => (wr 5 3 (up_s s4 96 (Int.toNat 3) (w32 (x5 + 1))) (fun s6 => (some (1, s6)))))))))))
theorem ok_Li_shear (pr1 : Nat) (a2 : Int) (a3 : Int) (hpr1 : Kh[pr1]? = some (.inl 4)) (σ : Sg) : MC l Kh Ph yX2_shear cX2_shear 4 3 4 [.inr (.inr 95), .inr (.inr pr1), .inl a2, .inl a3] σ (Li_shear pr1 a2 a3 σ) := by
  refine mc_of (by decide) (Nat.le_of_ble_eq_true rfl) ?_
  change G l Kh Ph RX2 cX2_shear 4 3 4 0 [some (.inr (.inr 95)), some (.inr (.inr pr1)), some (.inl a2), some (.inl a3)] [] σ (Li_shear pr1 a2 a3 σ)
  unfold Li_shear
  refine g_aload_n dX2_shear_0 rfl rfl ?_
  refine g_iload_n dX2_shear_1 rfl rfl ?_
  refine g_iload_n dX2_shear_2 rfl rfl ?_
  refine g_callv3 (st := []) 4 mw_X4_canTrim lk_RX2_112 rfl hpr1 (ok_Pr_canTrim pr1 a2 a3 hpr1 σ) (Nat.le_of_ble_eq_true rfl) rfl rfl (Nat.le_of_ble_eq_true rfl) dX2_shear_3 ?_
  intro r1 s2
  refine g_ifne (tgt := 11) dX2_shear_6 (by decide) ?_ ?_
  · refine g_iconst dX2_shear_9 (by decide) ?_
    exact g_zret0 dX2_shear_10
  · refine g_aload_n dX2_shear_11 rfl rfl ?_
    refine g_iload_n dX2_shear_12 rfl rfl ?_
    refine g_iload_n dX2_shear_13 rfl rfl ?_
    refine g_callv0 (st := []) 4 mw_X4_trim lk_RX2_115 rfl hpr1 (ok_Pr_trim pr1 a2 a3 hpr1 s2) (Nat.le_of_ble_eq_true rfl) rfl rfl (Nat.le_of_ble_eq_true rfl) dX2_shear_14 ?_
    intro r3 s4
    refine g_pop dX2_shear_17 rfl ?_
    refine g_aload_n dX2_shear_18 rfl rfl ?_
    refine g_getr' (q := 96) fl_RX2_11 kh_95 (by decide) rfl dX2_shear_19 ?_
    refine g_iconst dX2_shear_22 (by decide) ?_
    refine g_dup2 dX2_shear_23 rfl rfl ?_
    refine g_iald kh_96 dX2_shear_24 ?_
    intro x5
    refine g_iconst dX2_shear_25 (by decide) ?_
    refine g_iadd dX2_shear_26 ?_
    refine g_iast kh_96 dX2_shear_27 ?_
    intro s6
    refine g_iconst dX2_shear_28 (by decide) ?_
    exact g_zret1 dX2_shear_29
theorem dX2_behindPlain_0 : decode cX2_behindPlain 0 = .ok (.aload_n 2, 1) := by decide +kernel
theorem dX2_behindPlain_1 : decode cX2_behindPlain 1 = .ok (.getfield 57, 3) := by decide +kernel
theorem dX2_behindPlain_4 : decode cX2_behindPlain 4 = .ok (.iload_n 3, 1) := by decide +kernel
theorem dX2_behindPlain_5 : decode cX2_behindPlain 5 = .ok (.iaload, 1) := by decide +kernel
theorem dX2_behindPlain_6 : decode cX2_behindPlain 6 = .ok (.istore 4, 2) := by decide +kernel
theorem dX2_behindPlain_8 : decode cX2_behindPlain 8 = .ok (.aload_n 2, 1) := by decide +kernel
theorem dX2_behindPlain_9 : decode cX2_behindPlain 9 = .ok (.getfield 60, 3) := by decide +kernel
theorem dX2_behindPlain_12 : decode cX2_behindPlain 12 = .ok (.iload_n 3, 1) := by decide +kernel
theorem dX2_behindPlain_13 : decode cX2_behindPlain 13 = .ok (.iaload, 1) := by decide +kernel
theorem dX2_behindPlain_14 : decode cX2_behindPlain 14 = .ok (.istore 5, 2) := by decide +kernel
theorem dX2_behindPlain_16 : decode cX2_behindPlain 16 = .ok (.aload_n 2, 1) := by decide +kernel
theorem dX2_behindPlain_17 : decode cX2_behindPlain 17 = .ok (.getfield 31, 3) := by decide +kernel
theorem dX2_behindPlain_20 : decode cX2_behindPlain 20 = .ok (.iload_n 3, 1) := by decide +kernel
theorem dX2_behindPlain_21 : decode cX2_behindPlain 21 = .ok (.iaload, 1) := by decide +kernel
theorem dX2_behindPlain_22 : decode cX2_behindPlain 22 = .ok (.tableswitch 136 12 16 #[34, 88, 102, 136, 122], 34) := by decide +kernel
theorem dX2_behindPlain_56 : decode cX2_behindPlain 56 = .ok (.aload_n 1, 1) := by decide +kernel
theorem dX2_behindPlain_57 : decode cX2_behindPlain 57 = .ok (.getfield 76, 3) := by decide +kernel
theorem dX2_behindPlain_60 : decode cX2_behindPlain 60 = .ok (.iload 4, 2) := by decide +kernel
theorem dX2_behindPlain_62 : decode cX2_behindPlain 62 = .ok (.iadd, 1) := by decide +kernel
theorem dX2_behindPlain_63 : decode cX2_behindPlain 63 = .ok (.sipush 9999, 3) := by decide +kernel
theorem dX2_behindPlain_66 : decode cX2_behindPlain 66 = .ok (.if_icmp .gt 7, 3) := by decide +kernel
theorem dX2_behindPlain_69 : decode cX2_behindPlain 69 = .ok (.iconst 1, 1) := by decide +kernel
theorem dX2_behindPlain_70 : decode cX2_behindPlain 70 = .ok (.goto 4, 3) := by decide +kernel
theorem dX2_behindPlain_73 : decode cX2_behindPlain 73 = .ok (.iconst 0, 1) := by decide +kernel
theorem dX2_behindPlain_74 : decode cX2_behindPlain 74 = .ok (.istore 6, 2) := by decide +kernel
theorem dX2_behindPlain_76 : decode cX2_behindPlain 76 = .ok (.iload 6, 2) := by decide +kernel
theorem dX2_behindPlain_78 : decode cX2_behindPlain 78 = .ok (.ifCond .eq 87, 3) := by decide +kernel
theorem dX2_behindPlain_81 : decode cX2_behindPlain 81 = .ok (.aload_n 0, 1) := by decide +kernel
theorem dX2_behindPlain_82 : decode cX2_behindPlain 82 = .ok (.getfield 11, 3) := by decide +kernel
theorem dX2_behindPlain_85 : decode cX2_behindPlain 85 = .ok (.iconst 2, 1) := by decide +kernel
theorem dX2_behindPlain_86 : decode cX2_behindPlain 86 = .ok (.dup2, 1) := by decide +kernel
theorem dX2_behindPlain_87 : decode cX2_behindPlain 87 = .ok (.iaload, 1) := by decide +kernel
theorem dX2_behindPlain_88 : decode cX2_behindPlain 88 = .ok (.aload_n 1, 1) := by decide +kernel
theorem dX2_behindPlain_89 : decode cX2_behindPlain 89 = .ok (.iload 4, 2) := by decide +kernel
theorem dX2_behindPlain_91 : decode cX2_behindPlain 91 = .ok (.invokevirtual 79, 3) := by decide +kernel
theorem dX2_behindPlain_94 : decode cX2_behindPlain 94 = .ok (.iadd, 1) := by decide +kernel
theorem dX2_behindPlain_95 : decode cX2_behindPlain 95 = .ok (.iastore, 1) := by decide +kernel
theorem dX2_behindPlain_96 : decode cX2_behindPlain 96 = .ok (.aload_n 0, 1) := by decide +kernel
theorem dX2_behindPlain_97 : decode cX2_behindPlain 97 = .ok (.getfield 11, 3) := by decide +kernel
theorem dX2_behindPlain_100 : decode cX2_behindPlain 100 = .ok (.iconst 1, 1) := by decide +kernel
theorem dX2_behindPlain_101 : decode cX2_behindPlain 101 = .ok (.dup2, 1) := by decide +kernel
theorem dX2_behindPlain_102 : decode cX2_behindPlain 102 = .ok (.iaload, 1) := by decide +kernel
theorem dX2_behindPlain_103 : decode cX2_behindPlain 103 = .ok (.iload 4, 2) := by decide +kernel
theorem dX2_behindPlain_105 : decode cX2_behindPlain 105 = .ok (.iadd, 1) := by decide +kernel
theorem dX2_behindPlain_106 : decode cX2_behindPlain 106 = .ok (.iastore, 1) := by decide +kernel
theorem dX2_behindPlain_107 : decode cX2_behindPlain 107 = .ok (.goto 58, 3) := by decide +kernel
theorem dX2_behindPlain_110 : decode cX2_behindPlain 110 = .ok (.aload_n 0, 1) := by decide +kernel
theorem dX2_behindPlain_111 : decode cX2_behindPlain 111 = .ok (.aload_n 1, 1) := by decide +kernel
theorem dX2_behindPlain_112 : decode cX2_behindPlain 112 = .ok (.iload 4, 2) := by decide +kernel
theorem dX2_behindPlain_114 : decode cX2_behindPlain 114 = .ok (.iload 5, 2) := by decide +kernel
theorem dX2_behindPlain_116 : decode cX2_behindPlain 116 = .ok (.invokevirtual 82, 3) := by decide +kernel
theorem dX2_behindPlain_119 : decode cX2_behindPlain 119 = .ok (.istore 6, 2) := by decide +kernel
theorem dX2_behindPlain_121 : decode cX2_behindPlain 121 = .ok (.goto 44, 3) := by decide +kernel
theorem dX2_behindPlain_124 : decode cX2_behindPlain 124 = .ok (.aload_n 0, 1) := by decide +kernel
theorem dX2_behindPlain_125 : decode cX2_behindPlain 125 = .ok (.aload_n 1, 1) := by decide +kernel
theorem dX2_behindPlain_126 : decode cX2_behindPlain 126 = .ok (.iload 4, 2) := by decide +kernel
theorem dX2_behindPlain_128 : decode cX2_behindPlain 128 = .ok (.iload 5, 2) := by decide +kernel
theorem dX2_behindPlain_130 : decode cX2_behindPlain 130 = .ok (.aload_n 2, 1) := by decide +kernel
theorem dX2_behindPlain_131 : decode cX2_behindPlain 131 = .ok (.getfield 73, 3) := by decide +kernel
theorem dX2_behindPlain_134 : decode cX2_behindPlain 134 = .ok (.iload_n 3, 1) := by decide +kernel
theorem dX2_behindPlain_135 : decode cX2_behindPlain 135 = .ok (.iaload, 1) := by decide +kernel
theorem dX2_behindPlain_136 : decode cX2_behindPlain 136 = .ok (.invokevirtual 86, 3) := by decide +kernel
theorem dX2_behindPlain_139 : decode cX2_behindPlain 139 = .ok (.istore 6, 2) := by decide +kernel
theorem dX2_behindPlain_141 : decode cX2_behindPlain 141 = .ok (.goto 24, 3) := by decide +kernel
theorem dX2_behindPlain_144 : decode cX2_behindPlain 144 = .ok (.aload_n 0, 1) := by decide +kernel
theorem dX2_behindPlain_145 : decode cX2_behindPlain 145 = .ok (.aload_n 1, 1) := by decide +kernel
theorem dX2_behindPlain_146 : decode cX2_behindPlain 146 = .ok (.iload 4, 2) := by decide +kernel
theorem dX2_behindPlain_148 : decode cX2_behindPlain 148 = .ok (.iload 5, 2) := by decide +kernel
theorem dX2_behindPlain_150 : decode cX2_behindPlain 150 = .ok (.invokevirtual 90, 3) := by decide +kernel
theorem dX2_behindPlain_153 : decode cX2_behindPlain 153 = .ok (.istore 6, 2) := by decide +kernel
theorem dX2_behindPlain_155 : decode cX2_behindPlain 155 = .ok (.goto 10, 3) := by decide +kernel
theorem dX2_behindPlain_158 : decode cX2_behindPlain 158 = .ok (.aload_n 0, 1) := by decide +kernel
theorem dX2_behindPlain_159 : decode cX2_behindPlain 159 = .ok (.aload_n 1, 1) := by decide +kernel
theorem dX2_behindPlain_160 : decode cX2_behindPlain 160 = .ok (.invokevirtual 93, 3) := by decide +kernel
theorem dX2_behindPlain_163 : decode cX2_behindPlain 163 = .ok (.istore 6, 2) := by decide +kernel
theorem dX2_behindPlain_165 : decode cX2_behindPlain 165 = .ok (.aload_n 0, 1) := by decide +kernel
theorem dX2_behindPlain_166 : decode cX2_behindPlain 166 = .ok (.getfield 11, 3) := by decide +kernel
theorem dX2_behindPlain_169 : decode cX2_behindPlain 169 = .ok (.iconst 0, 1) := by decide +kernel
theorem dX2_behindPlain_170 : decode cX2_behindPlain 170 = .ok (.dup2, 1) := by decide +kernel
theorem dX2_behindPlain_171 : decode cX2_behindPlain 171 = .ok (.iaload, 1) := by decide +kernel
theorem dX2_behindPlain_172 : decode cX2_behindPlain 172 = .ok (.iload 6, 2) := by decide +kernel
theorem dX2_behindPlain_174 : decode cX2_behindPlain 174 = .ok (.ifCond .eq 7, 3) := by decide +kernel
theorem dX2_behindPlain_177 : decode cX2_behindPlain 177 = .ok (.iconst 0, 1) := by decide +kernel
theorem dX2_behindPlain_178 : decode cX2_behindPlain 178 = .ok (.goto 4, 3) := by decide +kernel
theorem dX2_behindPlain_181 : decode cX2_behindPlain 181 = .ok (.iconst 1, 1) := by decide +kernel
theorem dX2_behindPlain_182 : decode cX2_behindPlain 182 = .ok (.iadd, 1) := by decide +kernel
theorem dX2_behindPlain_183 : decode cX2_behindPlain 183 = .ok (.iastore, 1) := by decide +kernel
theorem dX2_behindPlain_184 : decode cX2_behindPlain 184 = .ok (.iload_n 3, 1) := by decide +kernel
theorem dX2_behindPlain_185 : decode cX2_behindPlain 185 = .ok (.iconst 1, 1) := by decide +kernel
theorem dX2_behindPlain_186 : decode cX2_behindPlain 186 = .ok (.iadd, 1) := by decide +kernel
theorem dX2_behindPlain_187 : decode cX2_behindPlain 187 = .ok (.ireturn, 1) := by decide +kernel
theorem mw_X2_behindPlain : MW yX2_behindPlain cX2_behindPlain 7 0 3 false := ⟨tm 1512 (by decide +kernel) rfl, tm 244 (by decide +kernel) rfl, by decide, by decide, (by rw [if_neg (by decide)]; exact ⟨tm 1511 (by decide +kernel) rfl, tm 115 (by decide +kernel) rfl⟩)⟩
theorem lk_RX2_79 : LK RX2 79 yX4_passDays := Or.inr ⟨"HairProvince", tm 1513 (by decide +kernel) rfl⟩
theorem lk_RX2_82 : LK RX2 82 yX2_begin := Or.inl (tm 1514 (by decide +kernel) rfl)
theorem lk_RX2_90 : LK RX2 90 yX2_shear := Or.inl (tm 1526 (by decide +kernel) rfl)
theorem lk_RX2_93 : LK RX2 93 yX2_anything := Or.inl (tm 1532 (by decide +kernel) rfl)
theorem fl_RX2_76 : FL RX2 76 4 16 := ⟨_, _, _, _, cw_4, by decide, Or.inl (by decide), Or.inr (by decide), Or.inr ⟨"HairProvince", tm 442 (by decide +kernel) rfl⟩⟩
def Li_behindPlain_J165 (a3 : Int) (v6 : Int) (σ : Sg) : Rs := (rd 5 0 (σ 96 (Int.toNat 0)) (fun x4 => (if v6 = 0 then (wr 5 0 (up_s σ 96 (Int.toNat 0) (w32 (x4 + 1))) (fun s5 => (some ((w32 (a3 + 1)), s5)))) else (wr 5 0 (up_s σ 96 (Int.toNat 0) (w32 (x4 + 0))) (fun s6 => (some ((w32 (a3 + 1)), s6)))))))
theorem ok_Li_behindPlain_J165 (a3 : Int) (v6 : Int) : ∀ (σ : Sg), G l Kh Ph RX2 cX2_behindPlain 7 0 5 165 [some (.inr (.inr 95)), none, none, some (.inl a3), none, none, some (.inl v6)] [] σ (Li_behindPlain_J165 a3 v6  σ) := by
  intro σ
  unfold Li_behindPlain_J165
  refine g_aload_n dX2_behindPlain_165 rfl rfl ?_
  refine g_getr' (q := 96) fl_RX2_11 kh_95 (by decide) rfl dX2_behindPlain_166 ?_
  refine g_iconst dX2_behindPlain_169 (by decide) ?_
  refine g_dup2 dX2_behindPlain_170 rfl rfl ?_
  refine g_iald kh_96 dX2_behindPlain_171 ?_
  intro x4
  refine g_iload dX2_behindPlain_172 rfl ?_
  refine g_ifeq (tgt := 181) dX2_behindPlain_174 (by decide) ?_ ?_
  · refine g_iconst dX2_behindPlain_181 (by decide) ?_
    refine g_iadd dX2_behindPlain_182 ?_
    refine g_iast kh_96 dX2_behindPlain_183 ?_
    intro s5
    refine g_iload_n dX2_behindPlain_184 rfl rfl ?_
    refine g_iconst dX2_behindPlain_185 (by decide) ?_
    refine g_iadd dX2_behindPlain_186 ?_
    exact g_iret dX2_behindPlain_187
  · refine g_iconst dX2_behindPlain_177 (by decide) ?_
    refine g_goto (tgt := 182) dX2_behindPlain_178 (by decide) ?_
    refine g_iadd dX2_behindPlain_182 ?_
    refine g_iast kh_96 dX2_behindPlain_183 ?_
    intro s6
    refine g_iload_n dX2_behindPlain_184 rfl rfl ?_
    refine g_iconst dX2_behindPlain_185 (by decide) ?_
    refine g_iadd dX2_behindPlain_186 ?_
    exact g_iret dX2_behindPlain_187
def Li_behindPlain_J74 (pr1 : Nat) (a3 : Int) (v4 : Int) (t0 : Int) (σ : Sg) : Rs := (if t0 = 0 then (Li_behindPlain_J165 a3 t0 σ) else (rd 5 2 (σ 96 (Int.toNat 2)) (fun x7 => (bd (Pr_passDays pr1 v4 σ) (fun r8 s9 => (wr 5 2 (up_s s9 96 (Int.toNat 2) (w32 (x7 + r8))) (fun s10 => (rd 5 1 (s10 96 (Int.toNat 1)) (fun x11 => (wr 5 1 (up_s s10 96 (Int.toNat 1) (w32 (x11 + v4))) (fun s12 => (Li_behindPlain_J165 a3 t0 s12))))))))))))
theorem ok_Li_behindPlain_J74 (pr1 : Nat) (a3 : Int) (v4 : Int) (hpr1 : Kh[pr1]? = some (.inl 4)) : ∀ (t0 : Int) (σ : Sg), G l Kh Ph RX2 cX2_behindPlain 7 0 5 74 [some (.inr (.inr 95)), some (.inr (.inr pr1)), none, some (.inl a3), some (.inl v4), none, none] [.inl t0] σ (Li_behindPlain_J74 pr1 a3 v4 t0 σ) := by
  intro t0 σ
  unfold Li_behindPlain_J74
  refine g_istore (lv' := [some (.inr (.inr 95)), some (.inr (.inr pr1)), none, some (.inl a3), some (.inl v4), none, some (.inl t0)]) dX2_behindPlain_74 (Nat.le_of_ble_eq_true rfl) rfl ?_
  refine g_iload dX2_behindPlain_76 rfl ?_
  refine g_ifeq (tgt := 165) dX2_behindPlain_78 (by decide) ?_ ?_
  · refine (g_weak [true, false, false, true, false, false, true] (ok_Li_behindPlain_J165 a3 t0 σ))
  · refine g_aload_n dX2_behindPlain_81 rfl rfl ?_
    refine g_getr' (q := 96) fl_RX2_11 kh_95 (by decide) rfl dX2_behindPlain_82 ?_
    refine g_iconst dX2_behindPlain_85 (by decide) ?_
    refine g_dup2 dX2_behindPlain_86 rfl rfl ?_
    refine g_iald kh_96 dX2_behindPlain_87 ?_
    intro x7
    refine g_aload_n dX2_behindPlain_88 rfl rfl ?_
    refine g_iload dX2_behindPlain_89 rfl ?_
    refine g_callv0 (st := [.inl x7, .inl 2, .inr (.inr 96)]) 4 mw_X4_passDays lk_RX2_79 rfl hpr1 (ok_Pr_passDays pr1 v4 hpr1 σ) (Nat.le_of_ble_eq_true rfl) rfl rfl (Nat.le_of_ble_eq_true rfl) dX2_behindPlain_91 ?_
    intro r8 s9
    refine g_iadd dX2_behindPlain_94 ?_
    refine g_iast kh_96 dX2_behindPlain_95 ?_
    intro s10
    refine g_aload_n dX2_behindPlain_96 rfl rfl ?_
    refine g_getr' (q := 96) fl_RX2_11 kh_95 (by decide) rfl dX2_behindPlain_97 ?_
    refine g_iconst dX2_behindPlain_100 (by decide) ?_
    refine g_dup2 dX2_behindPlain_101 rfl rfl ?_
    refine g_iald kh_96 dX2_behindPlain_102 ?_
    intro x11
    refine g_iload dX2_behindPlain_103 rfl ?_
    refine g_iadd dX2_behindPlain_105 ?_
    refine g_iast kh_96 dX2_behindPlain_106 ?_
    intro s12
    refine g_goto (tgt := 165) dX2_behindPlain_107 (by decide) ?_
    refine (g_weak [true, false, false, true, false, false, true] (ok_Li_behindPlain_J165 a3 t0 s12))
def Li_behindPlain_J158 (pr1 : Nat) (a3 : Int) (σ : Sg) : Rs := (bd (Li_anything pr1 σ) (fun r18 s19 => (Li_behindPlain_J165 a3 r18 s19)))
theorem ok_Li_behindPlain_J158 (pr1 : Nat) (a3 : Int) (hpr1 : Kh[pr1]? = some (.inl 4)) : ∀ (σ : Sg), G l Kh Ph RX2 cX2_behindPlain 7 0 5 158 [some (.inr (.inr 95)), some (.inr (.inr pr1)), none, some (.inl a3), none, none, none] [] σ (Li_behindPlain_J158 pr1 a3  σ) := by
  intro σ
  unfold Li_behindPlain_J158
  refine g_aload_n dX2_behindPlain_158 rfl rfl ?_
  refine g_aload_n dX2_behindPlain_159 rfl rfl ?_
  refine g_callv3 (st := []) 2 mw_X2_anything lk_RX2_93 rfl kh_95 (ok_Li_anything pr1 hpr1 σ) (Nat.le_of_ble_eq_true rfl) rfl rfl (Nat.le_of_ble_eq_true rfl) dX2_behindPlain_160 ?_
  intro r18 s19
  refine g_istore (lv' := [some (.inr (.inr 95)), some (.inr (.inr pr1)), none, some (.inl a3), none, none, some (.inl r18)]) dX2_behindPlain_163 (Nat.le_of_ble_eq_true rfl) rfl ?_
  refine (g_weak [true, false, false, true, false, false, true] (ok_Li_behindPlain_J165 a3 r18 s19))
def Li_behindPlain (pr1 : Nat) (ye2 : Nat) (a3 : Int) (σ : Sg) : Rs := (rd 60 a3 (σ (ye2 + 2) (Int.toNat a3)) (fun x1 => (rd 60 a3 (σ (ye2 + 3) (Int.toNat a3)) (fun x2 => (rd 60 a3 (σ (ye2 + 1) (Int.toNat a3)) (fun x3 => (sw x3 12 [(if 9999 < (w32 ((σ pr1 16) + x1)) then (Li_behindPlain_J74 pr1 a3 x1 0 σ) else (Li_behindPlain_J74 pr1 a3 x1 1 σ)), (bd (Li_begin pr1 x1 x2 σ) (fun r13 s14 => (Li_behindPlain_J165 a3 r13 s14))), (rd 60 a3 (σ (ye2 + 4) (Int.toNat a3)) (fun x15 => (bd (Li_tellOn pr1 x1 x2 x15 σ) (fun r16 s17 => (Li_behindPlain_J165 a3 r16 s17))))), (Li_behindPlain_J158 pr1 a3 σ), (bd (Li_shear pr1 x1 x2 σ) (fun r20 s21 => (Li_behindPlain_J165 a3 r20 s21)))] (Li_behindPlain_J158 pr1 a3 σ))))))))
theorem ok_Li_behindPlain (pr1 : Nat) (ye2 : Nat) (a3 : Int) (hpr1 : Kh[pr1]? = some (.inl 4)) (hye2 : Kh[ye2]? = some (.inl 8)) (σ : Sg) : MC l Kh Ph yX2_behindPlain cX2_behindPlain 7 0 5 [.inr (.inr 95), .inr (.inr pr1), .inr (.inr ye2), .inl a3] σ (Li_behindPlain pr1 ye2 a3 σ) := by
  refine mc_of (by decide) (Nat.le_of_ble_eq_true rfl) ?_
  change G l Kh Ph RX2 cX2_behindPlain 7 0 5 0 [some (.inr (.inr 95)), some (.inr (.inr pr1)), some (.inr (.inr ye2)), some (.inl a3), none, none, none] [] σ (Li_behindPlain pr1 ye2 a3 σ)
  unfold Li_behindPlain
  refine g_aload_n dX2_behindPlain_0 rfl rfl ?_
  refine g_getr' (q := (ye2 + 2)) fl_RX2_57 hye2 (by decide) (qy1 hye2) dX2_behindPlain_1 ?_
  refine g_iload_n dX2_behindPlain_4 rfl rfl ?_
  refine g_iald (ky1 hye2) dX2_behindPlain_5 ?_
  intro x1
  refine g_istore (lv' := [some (.inr (.inr 95)), some (.inr (.inr pr1)), some (.inr (.inr ye2)), some (.inl a3), some (.inl x1), none, none]) dX2_behindPlain_6 (Nat.le_of_ble_eq_true rfl) rfl ?_
  refine g_aload_n dX2_behindPlain_8 rfl rfl ?_
  refine g_getr' (q := (ye2 + 3)) fl_RX2_60 hye2 (by decide) (qy2 hye2) dX2_behindPlain_9 ?_
  refine g_iload_n dX2_behindPlain_12 rfl rfl ?_
  refine g_iald (ky2 hye2) dX2_behindPlain_13 ?_
  intro x2
  refine g_istore (lv' := [some (.inr (.inr 95)), some (.inr (.inr pr1)), some (.inr (.inr ye2)), some (.inl a3), some (.inl x1), some (.inl x2), none]) dX2_behindPlain_14 (Nat.le_of_ble_eq_true rfl) rfl ?_
  refine g_aload_n dX2_behindPlain_16 rfl rfl ?_
  refine g_getr' (q := (ye2 + 1)) fl_RX2_31 hye2 (by decide) (qy0 hye2) dX2_behindPlain_17 ?_
  refine g_iload_n dX2_behindPlain_20 rfl rfl ?_
  refine g_iald (ky0 hye2) dX2_behindPlain_21 ?_
  intro x3
  refine g_tsw (td := 158) [56, 110, 124, 158, 144] dX2_behindPlain_22 (by decide) rfl (And.intro ?_ (And.intro ?_ (And.intro ?_ (And.intro ?_ (And.intro ?_ trivial))))) ?_
  · refine g_aload_n dX2_behindPlain_56 rfl rfl ?_
    refine g_geti fl_RX2_76 hpr1 (by decide) dX2_behindPlain_57 ?_
    refine g_iload dX2_behindPlain_60 rfl ?_
    refine g_iadd dX2_behindPlain_62 ?_
    refine g_sipush dX2_behindPlain_63 (by decide) ?_
    refine g_icmpgt (tgt := 73) dX2_behindPlain_66 (by decide) ?_ ?_
    · refine g_iconst dX2_behindPlain_73 (by decide) ?_
      refine (g_weak [true, true, false, true, true, false, false] (ok_Li_behindPlain_J74 pr1 a3 x1 hpr1 0 σ))
    · refine g_iconst dX2_behindPlain_69 (by decide) ?_
      refine g_goto (tgt := 74) dX2_behindPlain_70 (by decide) ?_
      refine (g_weak [true, true, false, true, true, false, false] (ok_Li_behindPlain_J74 pr1 a3 x1 hpr1 1 σ))
  · refine g_aload_n dX2_behindPlain_110 rfl rfl ?_
    refine g_aload_n dX2_behindPlain_111 rfl rfl ?_
    refine g_iload dX2_behindPlain_112 rfl ?_
    refine g_iload dX2_behindPlain_114 rfl ?_
    refine g_callv3 (st := []) 2 mw_X2_begin lk_RX2_82 rfl kh_95 (ok_Li_begin pr1 x1 x2 hpr1 σ) (Nat.le_of_ble_eq_true rfl) rfl rfl (Nat.le_of_ble_eq_true rfl) dX2_behindPlain_116 ?_
    intro r13 s14
    refine g_istore (lv' := [some (.inr (.inr 95)), some (.inr (.inr pr1)), some (.inr (.inr ye2)), some (.inl a3), some (.inl x1), some (.inl x2), some (.inl r13)]) dX2_behindPlain_119 (Nat.le_of_ble_eq_true rfl) rfl ?_
    refine g_goto (tgt := 165) dX2_behindPlain_121 (by decide) ?_
    refine (g_weak [true, false, false, true, false, false, true] (ok_Li_behindPlain_J165 a3 r13 s14))
  · refine g_aload_n dX2_behindPlain_124 rfl rfl ?_
    refine g_aload_n dX2_behindPlain_125 rfl rfl ?_
    refine g_iload dX2_behindPlain_126 rfl ?_
    refine g_iload dX2_behindPlain_128 rfl ?_
    refine g_aload_n dX2_behindPlain_130 rfl rfl ?_
    refine g_getr' (q := (ye2 + 4)) fl_RX2_73 hye2 (by decide) (qy3 hye2) dX2_behindPlain_131 ?_
    refine g_iload_n dX2_behindPlain_134 rfl rfl ?_
    refine g_iald (ky3 hye2) dX2_behindPlain_135 ?_
    intro x15
    refine g_callv3 (st := []) 2 mw_X2_tellOn lk_RX2_86 rfl kh_95 (ok_Li_tellOn pr1 x1 x2 x15 hpr1 σ) (Nat.le_of_ble_eq_true rfl) rfl rfl (Nat.le_of_ble_eq_true rfl) dX2_behindPlain_136 ?_
    intro r16 s17
    refine g_istore (lv' := [some (.inr (.inr 95)), some (.inr (.inr pr1)), some (.inr (.inr ye2)), some (.inl a3), some (.inl x1), some (.inl x2), some (.inl r16)]) dX2_behindPlain_139 (Nat.le_of_ble_eq_true rfl) rfl ?_
    refine g_goto (tgt := 165) dX2_behindPlain_141 (by decide) ?_
    refine (g_weak [true, false, false, true, false, false, true] (ok_Li_behindPlain_J165 a3 r16 s17))
  · refine (g_weak [true, true, false, true, false, false, false] (ok_Li_behindPlain_J158 pr1 a3 hpr1 σ))
  · refine g_aload_n dX2_behindPlain_144 rfl rfl ?_
    refine g_aload_n dX2_behindPlain_145 rfl rfl ?_
    refine g_iload dX2_behindPlain_146 rfl ?_
    refine g_iload dX2_behindPlain_148 rfl ?_
    refine g_callv3 (st := []) 2 mw_X2_shear lk_RX2_90 rfl kh_95 (ok_Li_shear pr1 x1 x2 hpr1 σ) (Nat.le_of_ble_eq_true rfl) rfl rfl (Nat.le_of_ble_eq_true rfl) dX2_behindPlain_150 ?_
    intro r20 s21
    refine g_istore (lv' := [some (.inr (.inr 95)), some (.inr (.inr pr1)), some (.inr (.inr ye2)), some (.inl a3), some (.inl x1), some (.inl x2), some (.inl r20)]) dX2_behindPlain_153 (Nat.le_of_ble_eq_true rfl) rfl ?_
    refine g_goto (tgt := 165) dX2_behindPlain_155 (by decide) ?_
    refine (g_weak [true, false, false, true, false, false, true] (ok_Li_behindPlain_J165 a3 r20 s21))
  · refine (g_weak [true, true, false, true, false, false, false] (ok_Li_behindPlain_J158 pr1 a3 hpr1 σ))
theorem dX9_isBlock_0 : decode cX9_isBlock 0 = .ok (.iload_n 0, 1) := by decide +kernel
theorem dX9_isBlock_1 : decode cX9_isBlock 1 = .ok (.bipush 20, 2) := by decide +kernel
theorem dX9_isBlock_3 : decode cX9_isBlock 3 = .ok (.if_icmp .eq 15, 3) := by decide +kernel
theorem dX9_isBlock_6 : decode cX9_isBlock 6 = .ok (.iload_n 0, 1) := by decide +kernel
theorem dX9_isBlock_7 : decode cX9_isBlock 7 = .ok (.bipush 21, 2) := by decide +kernel
theorem dX9_isBlock_9 : decode cX9_isBlock 9 = .ok (.if_icmp .eq 9, 3) := by decide +kernel
theorem dX9_isBlock_12 : decode cX9_isBlock 12 = .ok (.iload_n 0, 1) := by decide +kernel
theorem dX9_isBlock_13 : decode cX9_isBlock 13 = .ok (.bipush 22, 2) := by decide +kernel
theorem dX9_isBlock_15 : decode cX9_isBlock 15 = .ok (.if_icmp .ne 7, 3) := by decide +kernel
theorem dX9_isBlock_18 : decode cX9_isBlock 18 = .ok (.iconst 1, 1) := by decide +kernel
theorem dX9_isBlock_19 : decode cX9_isBlock 19 = .ok (.goto 4, 3) := by decide +kernel
theorem dX9_isBlock_22 : decode cX9_isBlock 22 = .ok (.iconst 0, 1) := by decide +kernel
theorem dX9_isBlock_23 : decode cX9_isBlock 23 = .ok (.ireturn, 1) := by decide +kernel
theorem mw_X9_isBlock : MW yX9_isBlock cX9_isBlock 1 3 1 true := ⟨tm 988 (by decide +kernel) rfl, tm 243 (by decide +kernel) rfl, by decide, by decide, (by rw [if_pos rfl]; exact tm 987 (by decide +kernel) rfl)⟩
def Ye_isBlock (a0 : Int) (σ : Sg) : Rs := (if a0 = 20 then (some (1, σ)) else (if a0 = 21 then (some (1, σ)) else (if a0 = 22 then (some (1, σ)) else (some (0, σ)))))
theorem ok_Ye_isBlock (a0 : Int) (σ : Sg) : MC l Kh Ph yX9_isBlock cX9_isBlock 1 3 1 [.inl a0] σ (Ye_isBlock a0 σ) := by
  refine mc_of (by decide) (Nat.le_of_ble_eq_true rfl) ?_
  change G l Kh Ph RX9 cX9_isBlock 1 3 1 0 [some (.inl a0)] [] σ (Ye_isBlock a0 σ)
  unfold Ye_isBlock
  refine g_iload_n dX9_isBlock_0 rfl rfl ?_
  refine g_bipush dX9_isBlock_1 (by decide) ?_
  refine g_icmpeq (tgt := 18) dX9_isBlock_3 (by decide) ?_ ?_
  · refine g_iconst dX9_isBlock_18 (by decide) ?_
    refine g_goto (tgt := 23) dX9_isBlock_19 (by decide) ?_
    exact g_zret1 dX9_isBlock_23
  · refine g_iload_n dX9_isBlock_6 rfl rfl ?_
    refine g_bipush dX9_isBlock_7 (by decide) ?_
    refine g_icmpeq (tgt := 18) dX9_isBlock_9 (by decide) ?_ ?_
    · refine g_iconst dX9_isBlock_18 (by decide) ?_
      refine g_goto (tgt := 23) dX9_isBlock_19 (by decide) ?_
      exact g_zret1 dX9_isBlock_23
    · refine g_iload_n dX9_isBlock_12 rfl rfl ?_
      refine g_bipush dX9_isBlock_13 (by decide) ?_
      refine g_icmpne (tgt := 22) dX9_isBlock_15 (by decide) ?_ ?_
      · refine g_iconst dX9_isBlock_18 (by decide) ?_
        refine g_goto (tgt := 23) dX9_isBlock_19 (by decide) ?_
        exact g_zret1 dX9_isBlock_23
      · refine g_iconst dX9_isBlock_22 (by decide) ?_
        exact g_zret0 dX9_isBlock_23
theorem dX2_run_0 : decode cX2_run 0 = .ok (.iconst 0, 1) := by decide +kernel
theorem dX2_run_1 : decode cX2_run 1 = .ok (.istore 4, 2) := by decide +kernel
theorem dX2_run_3 : decode cX2_run 3 = .ok (.iload 4, 2) := by decide +kernel
theorem dX2_run_5 : decode cX2_run 5 = .ok (.iconst 5, 1) := by decide +kernel
theorem dX2_run_6 : decode cX2_run 6 = .ok (.if_icmp .ge 17, 3) := by decide +kernel
theorem dX2_run_9 : decode cX2_run 9 = .ok (.aload_n 0, 1) := by decide +kernel
theorem dX2_run_10 : decode cX2_run 10 = .ok (.getfield 11, 3) := by decide +kernel
theorem dX2_run_13 : decode cX2_run 13 = .ok (.iload 4, 2) := by decide +kernel
theorem dX2_run_15 : decode cX2_run 15 = .ok (.iconst 0, 1) := by decide +kernel
theorem dX2_run_16 : decode cX2_run 16 = .ok (.iastore, 1) := by decide +kernel
theorem dX2_run_17 : decode cX2_run 17 = .ok (.iinc 4 1, 3) := by decide +kernel
theorem dX2_run_20 : decode cX2_run 20 = .ok (.goto (-17), 3) := by decide +kernel
theorem dX2_run_23 : decode cX2_run 23 = .ok (.aload_n 0, 1) := by decide +kernel
theorem dX2_run_24 : decode cX2_run 24 = .ok (.iconst 0, 1) := by decide +kernel
theorem dX2_run_25 : decode cX2_run 25 = .ok (.putfield 20, 3) := by decide +kernel
theorem dX2_run_28 : decode cX2_run 28 = .ok (.aload_n 0, 1) := by decide +kernel
theorem dX2_run_29 : decode cX2_run 29 = .ok (.iload_n 3, 1) := by decide +kernel
theorem dX2_run_30 : decode cX2_run 30 = .ok (.putfield 24, 3) := by decide +kernel
theorem dX2_run_33 : decode cX2_run 33 = .ok (.iconst 0, 1) := by decide +kernel
theorem dX2_run_34 : decode cX2_run 34 = .ok (.istore 4, 2) := by decide +kernel
theorem dX2_run_36 : decode cX2_run 36 = .ok (.iconst 0, 1) := by decide +kernel
theorem dX2_run_37 : decode cX2_run 37 = .ok (.istore 5, 2) := by decide +kernel
theorem dX2_run_39 : decode cX2_run 39 = .ok (.iload 5, 2) := by decide +kernel
theorem dX2_run_41 : decode cX2_run 41 = .ok (.sipush 1204, 3) := by decide +kernel
theorem dX2_run_44 : decode cX2_run 44 = .ok (.if_icmp .ge 117, 3) := by decide +kernel
theorem dX2_run_47 : decode cX2_run 47 = .ok (.aload_n 2, 1) := by decide +kernel
theorem dX2_run_48 : decode cX2_run 48 = .ok (.iload 4, 2) := by decide +kernel
theorem dX2_run_50 : decode cX2_run 50 = .ok (.invokevirtual 27, 3) := by decide +kernel
theorem dX2_run_53 : decode cX2_run 53 = .ok (.ifCond .eq 108, 3) := by decide +kernel
theorem dX2_run_56 : decode cX2_run 56 = .ok (.aload_n 2, 1) := by decide +kernel
theorem dX2_run_57 : decode cX2_run 57 = .ok (.getfield 31, 3) := by decide +kernel
theorem dX2_run_60 : decode cX2_run 60 = .ok (.iload 4, 2) := by decide +kernel
theorem dX2_run_62 : decode cX2_run 62 = .ok (.iaload, 1) := by decide +kernel
theorem dX2_run_63 : decode cX2_run 63 = .ok (.bipush 23, 2) := by decide +kernel
theorem dX2_run_65 : decode cX2_run 65 = .ok (.if_icmp .ne 15, 3) := by decide +kernel
theorem dX2_run_68 : decode cX2_run 68 = .ok (.aload_n 0, 1) := by decide +kernel
theorem dX2_run_69 : decode cX2_run 69 = .ok (.aload_n 2, 1) := by decide +kernel
theorem dX2_run_70 : decode cX2_run 70 = .ok (.iload 4, 2) := by decide +kernel
theorem dX2_run_72 : decode cX2_run 72 = .ok (.invokevirtual 36, 3) := by decide +kernel
theorem dX2_run_75 : decode cX2_run 75 = .ok (.istore 4, 2) := by decide +kernel
theorem dX2_run_77 : decode cX2_run 77 = .ok (.goto 78, 3) := by decide +kernel
theorem dX2_run_80 : decode cX2_run 80 = .ok (.aload_n 0, 1) := by decide +kernel
theorem dX2_run_81 : decode cX2_run 81 = .ok (.getfield 20, 3) := by decide +kernel
theorem dX2_run_84 : decode cX2_run 84 = .ok (.sipush 300, 3) := by decide +kernel
theorem dX2_run_87 : decode cX2_run 87 = .ok (.if_icmp .lt 11, 3) := by decide +kernel
theorem dX2_run_90 : decode cX2_run 90 = .ok (.aload_n 0, 1) := by decide +kernel
theorem dX2_run_91 : decode cX2_run 91 = .ok (.getfield 11, 3) := by decide +kernel
theorem dX2_run_94 : decode cX2_run 94 = .ok (.iconst 4, 1) := by decide +kernel
theorem dX2_run_95 : decode cX2_run 95 = .ok (.iconst 1, 1) := by decide +kernel
theorem dX2_run_96 : decode cX2_run 96 = .ok (.iastore, 1) := by decide +kernel
theorem dX2_run_97 : decode cX2_run 97 = .ok (.return_, 1) := by decide +kernel
theorem dX2_run_98 : decode cX2_run 98 = .ok (.aload_n 0, 1) := by decide +kernel
theorem dX2_run_99 : decode cX2_run 99 = .ok (.dup, 1) := by decide +kernel
theorem dX2_run_100 : decode cX2_run 100 = .ok (.getfield 20, 3) := by decide +kernel
theorem dX2_run_103 : decode cX2_run 103 = .ok (.iconst 1, 1) := by decide +kernel
theorem dX2_run_104 : decode cX2_run 104 = .ok (.iadd, 1) := by decide +kernel
theorem dX2_run_105 : decode cX2_run 105 = .ok (.putfield 20, 3) := by decide +kernel
theorem dX2_run_108 : decode cX2_run 108 = .ok (.aload_n 2, 1) := by decide +kernel
theorem dX2_run_109 : decode cX2_run 109 = .ok (.getfield 31, 3) := by decide +kernel
theorem dX2_run_112 : decode cX2_run 112 = .ok (.iload 4, 2) := by decide +kernel
theorem dX2_run_114 : decode cX2_run 114 = .ok (.iaload, 1) := by decide +kernel
theorem dX2_run_115 : decode cX2_run 115 = .ok (.bipush 24, 2) := by decide +kernel
theorem dX2_run_117 : decode cX2_run 117 = .ok (.if_icmp .ne 4, 3) := by decide +kernel
theorem dX2_run_120 : decode cX2_run 120 = .ok (.return_, 1) := by decide +kernel
theorem dX2_run_121 : decode cX2_run 121 = .ok (.aload_n 2, 1) := by decide +kernel
theorem dX2_run_122 : decode cX2_run 122 = .ok (.getfield 31, 3) := by decide +kernel
theorem dX2_run_125 : decode cX2_run 125 = .ok (.iload 4, 2) := by decide +kernel
theorem dX2_run_127 : decode cX2_run 127 = .ok (.iaload, 1) := by decide +kernel
theorem dX2_run_128 : decode cX2_run 128 = .ok (.invokestatic 40, 3) := by decide +kernel
theorem dX2_run_131 : decode cX2_run 131 = .ok (.ifCond .eq 14, 3) := by decide +kernel
theorem dX2_run_134 : decode cX2_run 134 = .ok (.aload_n 0, 1) := by decide +kernel
theorem dX2_run_135 : decode cX2_run 135 = .ok (.aload_n 1, 1) := by decide +kernel
theorem dX2_run_136 : decode cX2_run 136 = .ok (.aload_n 2, 1) := by decide +kernel
theorem dX2_run_137 : decode cX2_run 137 = .ok (.iload 4, 2) := by decide +kernel
theorem dX2_run_139 : decode cX2_run 139 = .ok (.invokevirtual 43, 3) := by decide +kernel
theorem dX2_run_142 : decode cX2_run 142 = .ok (.goto 11, 3) := by decide +kernel
theorem dX2_run_145 : decode cX2_run 145 = .ok (.aload_n 0, 1) := by decide +kernel
theorem dX2_run_146 : decode cX2_run 146 = .ok (.aload_n 1, 1) := by decide +kernel
theorem dX2_run_147 : decode cX2_run 147 = .ok (.aload_n 2, 1) := by decide +kernel
theorem dX2_run_148 : decode cX2_run 148 = .ok (.iload 4, 2) := by decide +kernel
theorem dX2_run_150 : decode cX2_run 150 = .ok (.invokevirtual 47, 3) := by decide +kernel
theorem dX2_run_153 : decode cX2_run 153 = .ok (.istore 4, 2) := by decide +kernel
theorem dX2_run_155 : decode cX2_run 155 = .ok (.iinc 5 1, 3) := by decide +kernel
theorem dX2_run_158 : decode cX2_run 158 = .ok (.goto (-119), 3) := by decide +kernel
theorem dX2_run_161 : decode cX2_run 161 = .ok (.return_, 1) := by decide +kernel
theorem mw_X2_run : MW yX2_run cX2_run 6 2 3 false := ⟨tm 1493 (by decide +kernel) rfl, tm 244 (by decide +kernel) rfl, by decide, by decide, (by rw [if_neg (by decide)]; exact ⟨tm 1492 (by decide +kernel) rfl, tm 112 (by decide +kernel) rfl⟩)⟩
theorem lk_RX2_36 : LK RX2 36 yX2_behindEnd := Or.inl (tm 1495 (by decide +kernel) rfl)
theorem lk_RX2_40 : LK RX2 40 yX9_isBlock := Or.inr ⟨"HairProvince", tm 1499 (by decide +kernel) rfl⟩
theorem lk_RX2_43 : LK RX2 43 yX2_behindBeginning := Or.inl (tm 1500 (by decide +kernel) rfl)
theorem lk_RX2_47 : LK RX2 47 yX2_behindPlain := Or.inl (tm 1509 (by decide +kernel) rfl)
theorem fl_RX2_20 : FL RX2 20 2 2 := ⟨_, _, _, _, cw_2, by decide, Or.inl (by decide), Or.inr (by decide), Or.inl (tm 544 (by decide +kernel) rfl)⟩
def Li_run_L3 (pr1 : Nat) (ye2 : Nat) (a3 : Int) (k39 : Int → Int → Sg → Rs) : Nat → Int → Sg → Rs
  | 0, _, _ => none
  | n + 1, v4, σ => (if v4 < 5 then (wr 5 v4 (up_s σ 96 (Int.toNat v4) 0) (fun s1 => (nm (w32 (v4 + 1)) (fun x2 => (Li_run_L3 pr1 ye2 a3 k39 n x2 s1))))) else (nm (up_s σ 95 2 0) (fun s3 => (nm (up_s s3 95 3 a3) (fun s4 => (k39 0 0 s4))))))
theorem ok_Li_run_L3 (pr1 : Nat) (ye2 : Nat) (a3 : Int) (hpr1 : Kh[pr1]? = some (.inl 4)) (hye2 : Kh[ye2]? = some (.inl 8)) (k39 : Int → Int → Sg → Rs) (hk39 : ∀ (y4 y5 : Int) (σ : Sg), G l Kh Ph RX2 cX2_run 6 2 6 39 [some (.inr (.inr 95)), some (.inr (.inr pr1)), some (.inr (.inr ye2)), none, some (.inl y4), some (.inl y5)] [] σ (k39 y4 y5 σ)) : ∀ (n : Nat) (v4 : Int) (σ : Sg), G l Kh Ph RX2 cX2_run 6 2 6 3 [some (.inr (.inr 95)), some (.inr (.inr pr1)), some (.inr (.inr ye2)), some (.inl a3), some (.inl v4), none] [] σ (Li_run_L3 pr1 ye2 a3 k39 n v4 σ) := by
  intro n
  induction n with
  | zero => intros; exact G.none_
  | succ n ih =>
    intro v4 σ
    rw [Li_run_L3]
    refine g_iload dX2_run_3 rfl ?_
    refine g_iconst dX2_run_5 (by decide) ?_
    refine g_icmpge (tgt := 23) dX2_run_6 (by decide) ?_ ?_
    · refine g_aload_n dX2_run_9 rfl rfl ?_
      refine g_getr' (q := 96) fl_RX2_11 kh_95 (by decide) rfl dX2_run_10 ?_
      refine g_iload dX2_run_13 rfl ?_
      refine g_iconst dX2_run_15 (by decide) ?_
      refine g_iast kh_96 dX2_run_16 ?_
      intro s1
      refine n_iinc (fun x2 => [some (.inr (.inr 95)), some (.inr (.inr pr1)), some (.inr (.inr ye2)), some (.inl a3), some (.inl x2), none]) dX2_run_17 rfl (Nat.le_of_ble_eq_true rfl) (fun _ => rfl) ?_
      intro x2
      refine g_goto (tgt := 3) dX2_run_20 (by decide) ?_
      exact (ih x2 s1)
    · refine g_aload_n dX2_run_23 rfl rfl ?_
      refine g_iconst dX2_run_24 (by decide) ?_
      refine g_puti fl_RX2_20 kh_95 (by decide) dX2_run_25 ?_
      intro s3
      refine g_aload_n dX2_run_28 rfl rfl ?_
      refine g_iload_n dX2_run_29 rfl rfl ?_
      refine g_puti fl_RX2_24 kh_95 (by decide) dX2_run_30 ?_
      intro s4
      refine g_iconst dX2_run_33 (by decide) ?_
      refine g_istore (lv' := [some (.inr (.inr 95)), some (.inr (.inr pr1)), some (.inr (.inr ye2)), some (.inl a3), some (.inl 0), none]) dX2_run_34 (Nat.le_of_ble_eq_true rfl) rfl ?_
      refine g_iconst dX2_run_36 (by decide) ?_
      refine g_istore (lv' := [some (.inr (.inr 95)), some (.inr (.inr pr1)), some (.inr (.inr ye2)), some (.inl a3), some (.inl 0), some (.inl 0)]) dX2_run_37 (Nat.le_of_ble_eq_true rfl) rfl ?_
      exact (g_weak [true, true, true, false, true, true] (hk39 0 0 s4))
def Li_run_L39 (pr1 : Nat) (ye2 : Nat) : Nat → Int → Int → Sg → Rs
  | 0, _, _, _ => none
  | n + 1, v4, v5, σ => (if v5 < 1204 then (bd (Ye_isOrder ye2 v4 σ) (fun r8 s9 => (if r8 = 0 then (some (0, s9)) else (rd 60 v4 (s9 (ye2 + 1) (Int.toNat v4)) (fun x10 => (if x10 = 23 then (bd (Li_behindEnd ye2 v4 s9) (fun r11 s12 => (nm (w32 (v5 + 1)) (fun x13 => (Li_run_L39 pr1 ye2 n r11 x13 s12))))) else (if (s9 95 2) < 300 then (nm (up_s s9 95 2 (w32 ((s9 95 2) + 1))) (fun s14 => (rd 60 v4 (s14 (ye2 + 1) (Int.toNat v4)) (fun x15 => (if x15 = 24 then (some (0, s14)) else (rd 60 v4 (s14 (ye2 + 1) (Int.toNat v4)) (fun x16 => (bd (Ye_isBlock x16 s14) (fun r17 s18 => (if r17 = 0 then (bd (Li_behindPlain pr1 ye2 v4 s18) (fun r19 s20 => (nm (w32 (v5 + 1)) (fun x21 => (Li_run_L39 pr1 ye2 n r19 x21 s20))))) else (bd (Li_behindBeginning pr1 ye2 v4 s18) (fun r22 s23 => (nm (w32 (v5 + 1)) (fun x24 => (Li_run_L39 pr1 ye2 n r22 x24 s23))))))))))))))) else (wr 5 4 (up_s s9 96 (Int.toNat 4) 1) (fun s25 => (some (0, s25))))))))))) else (some (0, σ)))
theorem ok_Li_run_L39 (pr1 : Nat) (ye2 : Nat) (hpr1 : Kh[pr1]? = some (.inl 4)) (hye2 : Kh[ye2]? = some (.inl 8)) : ∀ (n : Nat) (v4 v5 : Int) (σ : Sg), G l Kh Ph RX2 cX2_run 6 2 6 39 [some (.inr (.inr 95)), some (.inr (.inr pr1)), some (.inr (.inr ye2)), none, some (.inl v4), some (.inl v5)] [] σ (Li_run_L39 pr1 ye2 n v4 v5 σ) := by
  intro n
  induction n with
  | zero => intros; exact G.none_
  | succ n ih =>
    intro v4 v5 σ
    rw [Li_run_L39]
    refine g_iload dX2_run_39 rfl ?_
    refine g_sipush dX2_run_41 (by decide) ?_
    refine g_icmpge (tgt := 161) dX2_run_44 (by decide) ?_ ?_
    · refine g_aload_n dX2_run_47 rfl rfl ?_
      refine g_iload dX2_run_48 rfl ?_
      refine g_callv3 (st := []) 8 mw_X9_isOrder lk_RX2_27 rfl hye2 (ok_Ye_isOrder ye2 v4 hye2 σ) (Nat.le_of_ble_eq_true rfl) rfl rfl (Nat.le_of_ble_eq_true rfl) dX2_run_50 ?_
      intro r8 s9
      refine g_ifeq (tgt := 161) dX2_run_53 (by decide) ?_ ?_
      · exact g_vret dX2_run_161
      · refine g_aload_n dX2_run_56 rfl rfl ?_
        refine g_getr' (q := (ye2 + 1)) fl_RX2_31 hye2 (by decide) (qy0 hye2) dX2_run_57 ?_
        refine g_iload dX2_run_60 rfl ?_
        refine g_iald (ky0 hye2) dX2_run_62 ?_
        intro x10
        refine g_bipush dX2_run_63 (by decide) ?_
        refine g_icmpne (tgt := 80) dX2_run_65 (by decide) ?_ ?_
        · refine g_aload_n dX2_run_68 rfl rfl ?_
          refine g_aload_n dX2_run_69 rfl rfl ?_
          refine g_iload dX2_run_70 rfl ?_
          refine g_callv0 (st := []) 2 mw_X2_behindEnd lk_RX2_36 rfl kh_95 (ok_Li_behindEnd ye2 v4 hye2 s9) (Nat.le_of_ble_eq_true rfl) rfl rfl (Nat.le_of_ble_eq_true rfl) dX2_run_72 ?_
          intro r11 s12
          refine g_istore (lv' := [some (.inr (.inr 95)), some (.inr (.inr pr1)), some (.inr (.inr ye2)), none, some (.inl r11), some (.inl v5)]) dX2_run_75 (Nat.le_of_ble_eq_true rfl) rfl ?_
          refine g_goto (tgt := 155) dX2_run_77 (by decide) ?_
          refine n_iinc (fun x13 => [some (.inr (.inr 95)), some (.inr (.inr pr1)), some (.inr (.inr ye2)), none, some (.inl r11), some (.inl x13)]) dX2_run_155 rfl (Nat.le_of_ble_eq_true rfl) (fun _ => rfl) ?_
          intro x13
          refine g_goto (tgt := 39) dX2_run_158 (by decide) ?_
          exact (ih r11 x13 s12)
        · refine g_aload_n dX2_run_80 rfl rfl ?_
          refine g_geti fl_RX2_20 kh_95 (by decide) dX2_run_81 ?_
          refine g_sipush dX2_run_84 (by decide) ?_
          refine g_icmplt (tgt := 98) dX2_run_87 (by decide) ?_ ?_
          · refine g_aload_n dX2_run_98 rfl rfl ?_
            refine g_dup dX2_run_99 rfl ?_
            refine g_geti fl_RX2_20 kh_95 (by decide) dX2_run_100 ?_
            refine g_iconst dX2_run_103 (by decide) ?_
            refine g_iadd dX2_run_104 ?_
            refine g_puti fl_RX2_20 kh_95 (by decide) dX2_run_105 ?_
            intro s14
            refine g_aload_n dX2_run_108 rfl rfl ?_
            refine g_getr' (q := (ye2 + 1)) fl_RX2_31 hye2 (by decide) (qy0 hye2) dX2_run_109 ?_
            refine g_iload dX2_run_112 rfl ?_
            refine g_iald (ky0 hye2) dX2_run_114 ?_
            intro x15
            refine g_bipush dX2_run_115 (by decide) ?_
            refine g_icmpne (tgt := 121) dX2_run_117 (by decide) ?_ ?_
            · exact g_vret dX2_run_120
            · refine g_aload_n dX2_run_121 rfl rfl ?_
              refine g_getr' (q := (ye2 + 1)) fl_RX2_31 hye2 (by decide) (qy0 hye2) dX2_run_122 ?_
              refine g_iload dX2_run_125 rfl ?_
              refine g_iald (ky0 hye2) dX2_run_127 ?_
              intro x16
              refine g_calls3 (st := []) mw_X9_isBlock lk_RX2_40 (ok_Ye_isBlock x16 s14) (Nat.le_of_ble_eq_true rfl) rfl rfl (Nat.le_of_ble_eq_true rfl) dX2_run_128 ?_
              intro r17 s18
              refine g_ifeq (tgt := 145) dX2_run_131 (by decide) ?_ ?_
              · refine g_aload_n dX2_run_145 rfl rfl ?_
                refine g_aload_n dX2_run_146 rfl rfl ?_
                refine g_aload_n dX2_run_147 rfl rfl ?_
                refine g_iload dX2_run_148 rfl ?_
                refine g_callv0 (st := []) 2 mw_X2_behindPlain lk_RX2_47 rfl kh_95 (ok_Li_behindPlain pr1 ye2 v4 hpr1 hye2 s18) (Nat.le_of_ble_eq_true rfl) rfl rfl (Nat.le_of_ble_eq_true rfl) dX2_run_150 ?_
                intro r19 s20
                refine g_istore (lv' := [some (.inr (.inr 95)), some (.inr (.inr pr1)), some (.inr (.inr ye2)), none, some (.inl r19), some (.inl v5)]) dX2_run_153 (Nat.le_of_ble_eq_true rfl) rfl ?_
                refine n_iinc (fun x21 => [some (.inr (.inr 95)), some (.inr (.inr pr1)), some (.inr (.inr ye2)), none, some (.inl r19), some (.inl x21)]) dX2_run_155 rfl (Nat.le_of_ble_eq_true rfl) (fun _ => rfl) ?_
                intro x21
                refine g_goto (tgt := 39) dX2_run_158 (by decide) ?_
                exact (ih r19 x21 s20)
              · refine g_aload_n dX2_run_134 rfl rfl ?_
                refine g_aload_n dX2_run_135 rfl rfl ?_
                refine g_aload_n dX2_run_136 rfl rfl ?_
                refine g_iload dX2_run_137 rfl ?_
                refine g_callv0 (st := []) 2 mw_X2_behindBeginning lk_RX2_43 rfl kh_95 (ok_Li_behindBeginning pr1 ye2 v4 hpr1 hye2 s18) (Nat.le_of_ble_eq_true rfl) rfl rfl (Nat.le_of_ble_eq_true rfl) dX2_run_139 ?_
                intro r22 s23
                refine g_goto (tgt := 153) dX2_run_142 (by decide) ?_
                refine g_istore (lv' := [some (.inr (.inr 95)), some (.inr (.inr pr1)), some (.inr (.inr ye2)), none, some (.inl r22), some (.inl v5)]) dX2_run_153 (Nat.le_of_ble_eq_true rfl) rfl ?_
                refine n_iinc (fun x24 => [some (.inr (.inr 95)), some (.inr (.inr pr1)), some (.inr (.inr ye2)), none, some (.inl r22), some (.inl x24)]) dX2_run_155 rfl (Nat.le_of_ble_eq_true rfl) (fun _ => rfl) ?_
                intro x24
                refine g_goto (tgt := 39) dX2_run_158 (by decide) ?_
                exact (ih r22 x24 s23)
          · refine g_aload_n dX2_run_90 rfl rfl ?_
            refine g_getr' (q := 96) fl_RX2_11 kh_95 (by decide) rfl dX2_run_91 ?_
            refine g_iconst dX2_run_94 (by decide) ?_
            refine g_iconst dX2_run_95 (by decide) ?_
            refine g_iast kh_96 dX2_run_96 ?_
            intro s25
            exact g_vret dX2_run_97
    · exact g_vret dX2_run_161
def Li_run (pr1 : Nat) (ye2 : Nat) (a3 : Int) (σ : Sg) : Rs := (Li_run_L3 pr1 ye2 a3 (fun x5 x6 s7 => (Li_run_L39 pr1 ye2 fu x5 x6 s7)) fu 0 σ)
theorem ok_Li_run (pr1 : Nat) (ye2 : Nat) (a3 : Int) (hpr1 : Kh[pr1]? = some (.inl 4)) (hye2 : Kh[ye2]? = some (.inl 8)) (σ : Sg) : MC l Kh Ph yX2_run cX2_run 6 2 6 [.inr (.inr 95), .inr (.inr pr1), .inr (.inr ye2), .inl a3] σ (Li_run pr1 ye2 a3 σ) := by
  refine mc_of (by decide) (Nat.le_of_ble_eq_true rfl) ?_
  change G l Kh Ph RX2 cX2_run 6 2 6 0 [some (.inr (.inr 95)), some (.inr (.inr pr1)), some (.inr (.inr ye2)), some (.inl a3), none, none] [] σ (Li_run pr1 ye2 a3 σ)
  unfold Li_run
  refine g_iconst dX2_run_0 (by decide) ?_
  refine g_istore (lv' := [some (.inr (.inr 95)), some (.inr (.inr pr1)), some (.inr (.inr ye2)), some (.inl a3), some (.inl 0), none]) dX2_run_1 (Nat.le_of_ble_eq_true rfl) rfl ?_
  refine (ok_Li_run_L3 pr1 ye2 a3 hpr1 hye2 _ ?_ fu 0 σ)
  · intro x5 x6 s7
    refine (ok_Li_run_L39 pr1 ye2 hpr1 hye2 fu x5 x6 s7)
theorem dX11_live_0 : decode cX11_live 0 = .ok (.iload_n 1, 1) := by decide +kernel
theorem dX11_live_1 : decode cX11_live 1 = .ok (.iconst 0, 1) := by decide +kernel
theorem dX11_live_2 : decode cX11_live 2 = .ok (.sipush 9999, 3) := by decide +kernel
theorem dX11_live_5 : decode cX11_live 5 = .ok (.invokestatic 135, 3) := by decide +kernel
theorem dX11_live_8 : decode cX11_live 8 = .ok (.ifCond .ne 9, 3) := by decide +kernel
theorem dX11_live_11 : decode cX11_live 11 = .ok (.aload_n 0, 1) := by decide +kernel
theorem dX11_live_12 : decode cX11_live 12 = .ok (.iconst 5, 1) := by decide +kernel
theorem dX11_live_13 : decode cX11_live 13 = .ok (.invokevirtual 147, 3) := by decide +kernel
theorem dX11_live_16 : decode cX11_live 16 = .ok (.ireturn, 1) := by decide +kernel
theorem dX11_live_17 : decode cX11_live 17 = .ok (.aload_n 0, 1) := by decide +kernel
theorem dX11_live_18 : decode cX11_live 18 = .ok (.getfield 53, 3) := by decide +kernel
theorem dX11_live_21 : decode cX11_live 21 = .ok (.getfield 430, 3) := by decide +kernel
theorem dX11_live_24 : decode cX11_live 24 = .ok (.ifCond .ne 10, 3) := by decide +kernel
theorem dX11_live_27 : decode cX11_live 27 = .ok (.aload_n 0, 1) := by decide +kernel
theorem dX11_live_28 : decode cX11_live 28 = .ok (.bipush 8, 2) := by decide +kernel
theorem dX11_live_30 : decode cX11_live 30 = .ok (.invokevirtual 147, 3) := by decide +kernel
theorem dX11_live_33 : decode cX11_live 33 = .ok (.ireturn, 1) := by decide +kernel
theorem dX11_live_34 : decode cX11_live 34 = .ok (.aload_n 0, 1) := by decide +kernel
theorem dX11_live_35 : decode cX11_live 35 = .ok (.getfield 71, 3) := by decide +kernel
theorem dX11_live_38 : decode cX11_live 38 = .ok (.aload_n 0, 1) := by decide +kernel
theorem dX11_live_39 : decode cX11_live 39 = .ok (.getfield 43, 3) := by decide +kernel
theorem dX11_live_42 : decode cX11_live 42 = .ok (.aload_n 0, 1) := by decide +kernel
theorem dX11_live_43 : decode cX11_live 43 = .ok (.getfield 53, 3) := by decide +kernel
theorem dX11_live_46 : decode cX11_live 46 = .ok (.iload_n 1, 1) := by decide +kernel
theorem dX11_live_47 : decode cX11_live 47 = .ok (.invokevirtual 434, 3) := by decide +kernel
theorem dX11_live_50 : decode cX11_live 50 = .ok (.aload_n 0, 1) := by decide +kernel
theorem dX11_live_51 : decode cX11_live 51 = .ok (.getfield 71, 3) := by decide +kernel
theorem dX11_live_54 : decode cX11_live 54 = .ok (.getfield 438, 3) := by decide +kernel
theorem dX11_live_57 : decode cX11_live 57 = .ok (.iconst 0, 1) := by decide +kernel
theorem dX11_live_58 : decode cX11_live 58 = .ok (.aload_n 0, 1) := by decide +kernel
theorem dX11_live_59 : decode cX11_live 59 = .ok (.getfield 75, 3) := by decide +kernel
theorem dX11_live_62 : decode cX11_live 62 = .ok (.iconst 0, 1) := by decide +kernel
theorem dX11_live_63 : decode cX11_live 63 = .ok (.iconst 5, 1) := by decide +kernel
theorem dX11_live_64 : decode cX11_live 64 = .ok (.invokestatic 441, 3) := by decide +kernel
theorem dX11_live_67 : decode cX11_live 67 = .ok (.aload_n 0, 1) := by decide +kernel
theorem dX11_live_68 : decode cX11_live 68 = .ok (.aload_n 0, 1) := by decide +kernel
theorem dX11_live_69 : decode cX11_live 69 = .ok (.getfield 71, 3) := by decide +kernel
theorem dX11_live_72 : decode cX11_live 72 = .ok (.getfield 447, 3) := by decide +kernel
theorem dX11_live_75 : decode cX11_live 75 = .ok (.invokevirtual 194, 3) := by decide +kernel
theorem dX11_live_78 : decode cX11_live 78 = .ok (.ireturn, 1) := by decide +kernel
theorem mw_X11_live : MW yX11_live cX11_live 2 0 1 false := ⟨tm 1489 (by decide +kernel) rfl, tm 235 (by decide +kernel) rfl, by decide, by decide, (by rw [if_neg (by decide)]; exact ⟨tm 1487 (by decide +kernel) rfl, tm 1488 (by decide +kernel) rfl⟩)⟩
theorem lk_RX11_434 : LK RX11 434 yX2_run := Or.inr ⟨"HairProvince", tm 1490 (by decide +kernel) rfl⟩
theorem fl_RX11_71 : FL RX11 71 9 14 := ⟨_, _, _, _, cw_9, by decide, Or.inr (Or.inr (Or.inr (by decide))), Or.inl (by decide), Or.inl (tm 636 (by decide +kernel) rfl)⟩
theorem fl_RX11_75 : FL RX11 75 9 15 := ⟨_, _, _, _, cw_9, by decide, Or.inr (Or.inr (Or.inr (by decide))), Or.inl (by decide), Or.inl (tm 637 (by decide +kernel) rfl)⟩
theorem fl_RX11_430 : FL RX11 430 8 7 := ⟨_, _, _, _, cw_8, by decide, Or.inr (Or.inr (Or.inl (by decide))), Or.inr (by decide), Or.inr ⟨"HairProvince", tm 515 (by decide +kernel) rfl⟩⟩
theorem fl_RX11_438 : FL RX11 438 2 0 := ⟨_, _, _, _, cw_2, by decide, Or.inr (Or.inr (Or.inr (by decide))), Or.inl (by decide), Or.inr ⟨"HairProvince", tm 542 (by decide +kernel) rfl⟩⟩
theorem fl_RX11_447 : FL RX11 447 2 2 := ⟨_, _, _, _, cw_2, by decide, Or.inl (by decide), Or.inr (by decide), Or.inr ⟨"HairProvince", tm 545 (by decide +kernel) rfl⟩⟩
theorem cy_RX11_441 : CY RX11 441 := ⟨tm 1541 (by decide +kernel) rfl, tm 782 (by decide +kernel) rfl, tm 781 (by decide +kernel) rfl, tm 250 (by decide +kernel) rfl⟩
def H_live (a1 : Int) (σ : Sg) : Rs := (bd (H_within a1 0 9999 σ) (fun r1 s2 => (if r1 = 0 then (bd (H_fail 5 s2) (fun r3 s4 => (some (r3, s4)))) else (if (s2 30 7) = 0 then (bd (H_fail 8 s2) (fun r5 s6 => (some (r5, s6)))) else (bd (Li_run 8 30 a1 s2) (fun r7 s8 => (cpw 5 5 0 0 5 (cp_s s8 96 98 (Int.toNat 0) (Int.toNat 0) (Int.toNat 5)) (fun s9 => (bd (H_give (s9 95 2) s9) (fun r10 s11 => (some (r10, s11))))))))))))
theorem ok_H_live (a1 : Int) (σ : Sg) : MC l Kh Ph yX11_live cX11_live 2 0 7 [.inr (.inr 0), .inl a1] σ (H_live a1 σ) := by
  refine mc_of (by decide) (Nat.le_of_ble_eq_true rfl) ?_
  change G l Kh Ph RX11 cX11_live 2 0 7 0 [some (.inr (.inr 0)), some (.inl a1)] [] σ (H_live a1 σ)
  unfold H_live
  refine g_iload_n dX11_live_0 rfl rfl ?_
  refine g_iconst dX11_live_1 (by decide) ?_
  refine g_sipush dX11_live_2 (by decide) ?_
  refine g_calls3 (st := []) mw_X11_within lk_RX11_135 (ok_H_within a1 0 9999 σ) (Nat.le_of_ble_eq_true rfl) rfl rfl (Nat.le_of_ble_eq_true rfl) dX11_live_5 ?_
  intro r1 s2
  refine g_ifne (tgt := 17) dX11_live_8 (by decide) ?_ ?_
  · refine g_aload_n dX11_live_11 rfl rfl ?_
    refine g_iconst dX11_live_12 (by decide) ?_
    refine g_callv0 (st := []) 9 mw_X11_fail lk_RX11_147 rfl kh_0 (ok_H_fail 5 s2) (Nat.le_of_ble_eq_true rfl) rfl rfl (Nat.le_of_ble_eq_true rfl) dX11_live_13 ?_
    intro r3 s4
    exact g_iret dX11_live_16
  · refine g_aload_n dX11_live_17 rfl rfl ?_
    refine g_getr' (q := 30) fl_RX11_53 kh_0 (by decide) rfl dX11_live_18 ?_
    refine g_getz fl_RX11_430 kh_30 (by decide) dX11_live_21 ?_
    refine g_ifne (tgt := 34) dX11_live_24 (by decide) ?_ ?_
    · refine g_aload_n dX11_live_27 rfl rfl ?_
      refine g_bipush dX11_live_28 (by decide) ?_
      refine g_callv0 (st := []) 9 mw_X11_fail lk_RX11_147 rfl kh_0 (ok_H_fail 8 s2) (Nat.le_of_ble_eq_true rfl) rfl rfl (Nat.le_of_ble_eq_true rfl) dX11_live_30 ?_
      intro r5 s6
      exact g_iret dX11_live_33
    · refine g_aload_n dX11_live_34 rfl rfl ?_
      refine g_getr' (q := 95) fl_RX11_71 kh_0 (by decide) rfl dX11_live_35 ?_
      refine g_aload_n dX11_live_38 rfl rfl ?_
      refine g_getr' (q := 8) fl_RX11_43 kh_0 (by decide) rfl dX11_live_39 ?_
      refine g_aload_n dX11_live_42 rfl rfl ?_
      refine g_getr' (q := 30) fl_RX11_53 kh_0 (by decide) rfl dX11_live_43 ?_
      refine g_iload_n dX11_live_46 rfl rfl ?_
      refine g_callv2 (st := []) 2 mw_X2_run lk_RX11_434 rfl kh_95 (ok_Li_run 8 30 a1 kh_8 kh_30 s2) (Nat.le_of_ble_eq_true rfl) rfl rfl (Nat.le_of_ble_eq_true rfl) dX11_live_47 ?_
      intro r7 s8
      refine g_aload_n dX11_live_50 rfl rfl ?_
      refine g_getr' (q := 95) fl_RX11_71 kh_0 (by decide) rfl dX11_live_51 ?_
      refine g_getr' (q := 96) fl_RX11_438 kh_95 (by decide) rfl dX11_live_54 ?_
      refine g_iconst dX11_live_57 (by decide) ?_
      refine g_aload_n dX11_live_58 rfl rfl ?_
      refine g_getr' (q := 98) fl_RX11_75 kh_0 (by decide) rfl dX11_live_59 ?_
      refine g_iconst dX11_live_62 (by decide) ?_
      refine g_iconst dX11_live_63 (by decide) ?_
      refine g_copyi cy_RX11_441 kh_96 kh_98 (Nat.le_of_ble_eq_true rfl) (Nat.le_of_ble_eq_true rfl) dX11_live_64 ?_
      intro s9
      refine g_aload_n dX11_live_67 rfl rfl ?_
      refine g_aload_n dX11_live_68 rfl rfl ?_
      refine g_getr' (q := 95) fl_RX11_71 kh_0 (by decide) rfl dX11_live_69 ?_
      refine g_geti fl_RX11_447 kh_95 (by decide) dX11_live_72 ?_
      refine g_callv0 (st := []) 9 mw_X11_give lk_RX11_194 rfl kh_0 (ok_H_give (s9 95 2) s9) (Nat.le_of_ble_eq_true rfl) rfl rfl (Nat.le_of_ble_eq_true rfl) dX11_live_75 ?_
      intro r10 s11
      exact g_iret dX11_live_78
theorem dX11_lived_0 : decode cX11_lived 0 = .ok (.iload_n 1, 1) := by decide +kernel
theorem dX11_lived_1 : decode cX11_lived 1 = .ok (.iconst 0, 1) := by decide +kernel
theorem dX11_lived_2 : decode cX11_lived 2 = .ok (.iconst 4, 1) := by decide +kernel
theorem dX11_lived_3 : decode cX11_lived 3 = .ok (.invokestatic 135, 3) := by decide +kernel
theorem dX11_lived_6 : decode cX11_lived 6 = .ok (.ifCond .ne 9, 3) := by decide +kernel
theorem dX11_lived_9 : decode cX11_lived 9 = .ok (.aload_n 0, 1) := by decide +kernel
theorem dX11_lived_10 : decode cX11_lived 10 = .ok (.iconst 5, 1) := by decide +kernel
theorem dX11_lived_11 : decode cX11_lived 11 = .ok (.invokevirtual 147, 3) := by decide +kernel
theorem dX11_lived_14 : decode cX11_lived 14 = .ok (.ireturn, 1) := by decide +kernel
theorem dX11_lived_15 : decode cX11_lived 15 = .ok (.aload_n 0, 1) := by decide +kernel
theorem dX11_lived_16 : decode cX11_lived 16 = .ok (.getfield 75, 3) := by decide +kernel
theorem dX11_lived_19 : decode cX11_lived 19 = .ok (.iload_n 1, 1) := by decide +kernel
theorem dX11_lived_20 : decode cX11_lived 20 = .ok (.iaload, 1) := by decide +kernel
theorem dX11_lived_21 : decode cX11_lived 21 = .ok (.iconst (-1), 1) := by decide +kernel
theorem dX11_lived_22 : decode cX11_lived 22 = .ok (.if_icmp .ne 12, 3) := by decide +kernel
theorem dX11_lived_25 : decode cX11_lived 25 = .ok (.aload_n 0, 1) := by decide +kernel
theorem dX11_lived_26 : decode cX11_lived 26 = .ok (.bipush 8, 2) := by decide +kernel
theorem dX11_lived_28 : decode cX11_lived 28 = .ok (.invokevirtual 147, 3) := by decide +kernel
theorem dX11_lived_31 : decode cX11_lived 31 = .ok (.goto 13, 3) := by decide +kernel
theorem dX11_lived_34 : decode cX11_lived 34 = .ok (.aload_n 0, 1) := by decide +kernel
theorem dX11_lived_35 : decode cX11_lived 35 = .ok (.aload_n 0, 1) := by decide +kernel
theorem dX11_lived_36 : decode cX11_lived 36 = .ok (.getfield 75, 3) := by decide +kernel
theorem dX11_lived_39 : decode cX11_lived 39 = .ok (.iload_n 1, 1) := by decide +kernel
theorem dX11_lived_40 : decode cX11_lived 40 = .ok (.iaload, 1) := by decide +kernel
theorem dX11_lived_41 : decode cX11_lived 41 = .ok (.invokevirtual 194, 3) := by decide +kernel
theorem dX11_lived_44 : decode cX11_lived 44 = .ok (.ireturn, 1) := by decide +kernel
theorem mw_X11_lived : MW yX11_lived cX11_lived 2 0 1 false := ⟨tm 1545 (by decide +kernel) rfl, tm 235 (by decide +kernel) rfl, by decide, by decide, (by rw [if_neg (by decide)]; exact ⟨tm 1543 (by decide +kernel) rfl, tm 1544 (by decide +kernel) rfl⟩)⟩
def H_lived (a1 : Int) (σ : Sg) : Rs := (bd (H_within a1 0 4 σ) (fun r1 s2 => (if r1 = 0 then (bd (H_fail 5 s2) (fun r3 s4 => (some (r3, s4)))) else (rd 5 a1 (s2 98 (Int.toNat a1)) (fun x5 => (if x5 = (-1) then (bd (H_fail 8 s2) (fun r6 s7 => (some (r6, s7)))) else (rd 5 a1 (s2 98 (Int.toNat a1)) (fun x8 => (bd (H_give x8 s2) (fun r9 s10 => (some (r9, s10))))))))))))
theorem ok_H_lived (a1 : Int) (σ : Sg) : MC l Kh Ph yX11_lived cX11_lived 2 0 2 [.inr (.inr 0), .inl a1] σ (H_lived a1 σ) := by
  refine mc_of (by decide) (Nat.le_of_ble_eq_true rfl) ?_
  change G l Kh Ph RX11 cX11_lived 2 0 2 0 [some (.inr (.inr 0)), some (.inl a1)] [] σ (H_lived a1 σ)
  unfold H_lived
  refine g_iload_n dX11_lived_0 rfl rfl ?_
  refine g_iconst dX11_lived_1 (by decide) ?_
  refine g_iconst dX11_lived_2 (by decide) ?_
  refine g_calls3 (st := []) mw_X11_within lk_RX11_135 (ok_H_within a1 0 4 σ) (Nat.le_of_ble_eq_true rfl) rfl rfl (Nat.le_of_ble_eq_true rfl) dX11_lived_3 ?_
  intro r1 s2
  refine g_ifne (tgt := 15) dX11_lived_6 (by decide) ?_ ?_
  · refine g_aload_n dX11_lived_9 rfl rfl ?_
    refine g_iconst dX11_lived_10 (by decide) ?_
    refine g_callv0 (st := []) 9 mw_X11_fail lk_RX11_147 rfl kh_0 (ok_H_fail 5 s2) (Nat.le_of_ble_eq_true rfl) rfl rfl (Nat.le_of_ble_eq_true rfl) dX11_lived_11 ?_
    intro r3 s4
    exact g_iret dX11_lived_14
  · refine g_aload_n dX11_lived_15 rfl rfl ?_
    refine g_getr' (q := 98) fl_RX11_75 kh_0 (by decide) rfl dX11_lived_16 ?_
    refine g_iload_n dX11_lived_19 rfl rfl ?_
    refine g_iald kh_98 dX11_lived_20 ?_
    intro x5
    refine g_iconst dX11_lived_21 (by decide) ?_
    refine g_icmpne (tgt := 34) dX11_lived_22 (by decide) ?_ ?_
    · refine g_aload_n dX11_lived_25 rfl rfl ?_
      refine g_bipush dX11_lived_26 (by decide) ?_
      refine g_callv0 (st := []) 9 mw_X11_fail lk_RX11_147 rfl kh_0 (ok_H_fail 8 s2) (Nat.le_of_ble_eq_true rfl) rfl rfl (Nat.le_of_ble_eq_true rfl) dX11_lived_28 ?_
      intro r6 s7
      refine g_goto (tgt := 44) dX11_lived_31 (by decide) ?_
      exact g_iret dX11_lived_44
    · refine g_aload_n dX11_lived_34 rfl rfl ?_
      refine g_aload_n dX11_lived_35 rfl rfl ?_
      refine g_getr' (q := 98) fl_RX11_75 kh_0 (by decide) rfl dX11_lived_36 ?_
      refine g_iload_n dX11_lived_39 rfl rfl ?_
      refine g_iald kh_98 dX11_lived_40 ?_
      intro x8
      refine g_callv0 (st := []) 9 mw_X11_give lk_RX11_194 rfl kh_0 (ok_H_give x8 s2) (Nat.le_of_ble_eq_true rfl) rfl rfl (Nat.le_of_ble_eq_true rfl) dX11_lived_41 ?_
      intro r9 s10
      exact g_iret dX11_lived_44
theorem dX11_longest_0 : decode cX11_longest 0 = .ok (.aload_n 0, 1) := by decide +kernel
theorem dX11_longest_1 : decode cX11_longest 1 = .ok (.getfield 43, 3) := by decide +kernel
theorem dX11_longest_4 : decode cX11_longest 4 = .ok (.iload_n 1, 1) := by decide +kernel
theorem dX11_longest_5 : decode cX11_longest 5 = .ok (.invokevirtual 266, 3) := by decide +kernel
theorem dX11_longest_8 : decode cX11_longest 8 = .ok (.ifCond .ne 9, 3) := by decide +kernel
theorem dX11_longest_11 : decode cX11_longest 11 = .ok (.aload_n 0, 1) := by decide +kernel
theorem dX11_longest_12 : decode cX11_longest 12 = .ok (.iconst 2, 1) := by decide +kernel
theorem dX11_longest_13 : decode cX11_longest 13 = .ok (.invokevirtual 147, 3) := by decide +kernel
theorem dX11_longest_16 : decode cX11_longest 16 = .ok (.ireturn, 1) := by decide +kernel
theorem dX11_longest_17 : decode cX11_longest 17 = .ok (.aload_n 0, 1) := by decide +kernel
theorem dX11_longest_18 : decode cX11_longest 18 = .ok (.getfield 43, 3) := by decide +kernel
theorem dX11_longest_21 : decode cX11_longest 21 = .ok (.iload_n 1, 1) := by decide +kernel
theorem dX11_longest_22 : decode cX11_longest 22 = .ok (.aload_n 0, 1) := by decide +kernel
theorem dX11_longest_23 : decode cX11_longest 23 = .ok (.getfield 43, 3) := by decide +kernel
theorem dX11_longest_26 : decode cX11_longest 26 = .ok (.getfield 278, 3) := by decide +kernel
theorem dX11_longest_29 : decode cX11_longest 29 = .ok (.iload_n 1, 1) := by decide +kernel
theorem dX11_longest_30 : decode cX11_longest 30 = .ok (.iaload, 1) := by decide +kernel
theorem dX11_longest_31 : decode cX11_longest 31 = .ok (.invokevirtual 297, 3) := by decide +kernel
theorem dX11_longest_34 : decode cX11_longest 34 = .ok (.istore_n 2, 1) := by decide +kernel
theorem dX11_longest_35 : decode cX11_longest 35 = .ok (.iload_n 2, 1) := by decide +kernel
theorem dX11_longest_36 : decode cX11_longest 36 = .ok (.iconst (-1), 1) := by decide +kernel
theorem dX11_longest_37 : decode cX11_longest 37 = .ok (.if_icmp .ne 12, 3) := by decide +kernel
theorem dX11_longest_40 : decode cX11_longest 40 = .ok (.aload_n 0, 1) := by decide +kernel
theorem dX11_longest_41 : decode cX11_longest 41 = .ok (.bipush 8, 2) := by decide +kernel
theorem dX11_longest_43 : decode cX11_longest 43 = .ok (.invokevirtual 147, 3) := by decide +kernel
theorem dX11_longest_46 : decode cX11_longest 46 = .ok (.goto 8, 3) := by decide +kernel
theorem dX11_longest_49 : decode cX11_longest 49 = .ok (.aload_n 0, 1) := by decide +kernel
theorem dX11_longest_50 : decode cX11_longest 50 = .ok (.iload_n 2, 1) := by decide +kernel
theorem dX11_longest_51 : decode cX11_longest 51 = .ok (.invokevirtual 194, 3) := by decide +kernel
theorem dX11_longest_54 : decode cX11_longest 54 = .ok (.ireturn, 1) := by decide +kernel
theorem mw_X11_longest : MW yX11_longest cX11_longest 3 0 1 false := ⟨tm 1128 (by decide +kernel) rfl, tm 235 (by decide +kernel) rfl, by decide, by decide, (by rw [if_neg (by decide)]; exact ⟨tm 1126 (by decide +kernel) rfl, tm 1127 (by decide +kernel) rfl⟩)⟩
theorem lk_RX11_297 : LK RX11 297 yX4_longestOf := Or.inr ⟨"HairProvince", tm 1129 (by decide +kernel) rfl⟩
def H_longest (a1 : Int) (σ : Sg) : Rs := (bd (Pr_isPerson 8 a1 σ) (fun r1 s2 => (if r1 = 0 then (bd (H_fail 2 s2) (fun r3 s4 => (some (r3, s4)))) else (rd 6 a1 (s2 15 (Int.toNat a1)) (fun x5 => (bd (Pr_longestOf 8 a1 x5 s2) (fun r6 s7 => (if r6 = (-1) then (bd (H_fail 8 s7) (fun r8 s9 => (some (r8, s9)))) else (bd (H_give r6 s7) (fun r10 s11 => (some (r10, s11))))))))))))
theorem ok_H_longest (a1 : Int) (σ : Sg) : MC l Kh Ph yX11_longest cX11_longest 3 0 3 [.inr (.inr 0), .inl a1] σ (H_longest a1 σ) := by
  refine mc_of (by decide) (Nat.le_of_ble_eq_true rfl) ?_
  change G l Kh Ph RX11 cX11_longest 3 0 3 0 [some (.inr (.inr 0)), some (.inl a1), none] [] σ (H_longest a1 σ)
  unfold H_longest
  refine g_aload_n dX11_longest_0 rfl rfl ?_
  refine g_getr' (q := 8) fl_RX11_43 kh_0 (by decide) rfl dX11_longest_1 ?_
  refine g_iload_n dX11_longest_4 rfl rfl ?_
  refine g_callv3 (st := []) 4 mw_X4_isPerson lk_RX11_266 rfl kh_8 (ok_Pr_isPerson 8 a1 kh_8 σ) (Nat.le_of_ble_eq_true rfl) rfl rfl (Nat.le_of_ble_eq_true rfl) dX11_longest_5 ?_
  intro r1 s2
  refine g_ifne (tgt := 17) dX11_longest_8 (by decide) ?_ ?_
  · refine g_aload_n dX11_longest_11 rfl rfl ?_
    refine g_iconst dX11_longest_12 (by decide) ?_
    refine g_callv0 (st := []) 9 mw_X11_fail lk_RX11_147 rfl kh_0 (ok_H_fail 2 s2) (Nat.le_of_ble_eq_true rfl) rfl rfl (Nat.le_of_ble_eq_true rfl) dX11_longest_13 ?_
    intro r3 s4
    exact g_iret dX11_longest_16
  · refine g_aload_n dX11_longest_17 rfl rfl ?_
    refine g_getr' (q := 8) fl_RX11_43 kh_0 (by decide) rfl dX11_longest_18 ?_
    refine g_iload_n dX11_longest_21 rfl rfl ?_
    refine g_aload_n dX11_longest_22 rfl rfl ?_
    refine g_getr' (q := 8) fl_RX11_43 kh_0 (by decide) rfl dX11_longest_23 ?_
    refine g_getr' (q := 15) fl_RX11_278 kh_8 (by decide) rfl dX11_longest_26 ?_
    refine g_iload_n dX11_longest_29 rfl rfl ?_
    refine g_iald kh_15 dX11_longest_30 ?_
    intro x5
    refine g_callv0 (st := []) 4 mw_X4_longestOf lk_RX11_297 rfl kh_8 (ok_Pr_longestOf 8 a1 x5 kh_8 s2) (Nat.le_of_ble_eq_true rfl) rfl rfl (Nat.le_of_ble_eq_true rfl) dX11_longest_31 ?_
    intro r6 s7
    refine g_istore_n (lv' := [some (.inr (.inr 0)), some (.inl a1), some (.inl r6)]) dX11_longest_34 rfl (Nat.le_of_ble_eq_true rfl) rfl ?_
    refine g_iload_n dX11_longest_35 rfl rfl ?_
    refine g_iconst dX11_longest_36 (by decide) ?_
    refine g_icmpne (tgt := 49) dX11_longest_37 (by decide) ?_ ?_
    · refine g_aload_n dX11_longest_40 rfl rfl ?_
      refine g_bipush dX11_longest_41 (by decide) ?_
      refine g_callv0 (st := []) 9 mw_X11_fail lk_RX11_147 rfl kh_0 (ok_H_fail 8 s7) (Nat.le_of_ble_eq_true rfl) rfl rfl (Nat.le_of_ble_eq_true rfl) dX11_longest_43 ?_
      intro r8 s9
      refine g_goto (tgt := 54) dX11_longest_46 (by decide) ?_
      exact g_iret dX11_longest_54
    · refine g_aload_n dX11_longest_49 rfl rfl ?_
      refine g_iload_n dX11_longest_50 rfl rfl ?_
      refine g_callv0 (st := []) 9 mw_X11_give lk_RX11_194 rfl kh_0 (ok_H_give r6 s7) (Nat.le_of_ble_eq_true rfl) rfl rfl (Nat.le_of_ble_eq_true rfl) dX11_longest_51 ?_
      intro r10 s11
      exact g_iret dX11_longest_54
theorem dX4_allHair_0 : decode cX4_allHair 0 = .ok (.iconst 0, 1) := by decide +kernel
theorem dX4_allHair_1 : decode cX4_allHair 1 = .ok (.istore_n 1, 1) := by decide +kernel
theorem dX4_allHair_2 : decode cX4_allHair 2 = .ok (.iconst 0, 1) := by decide +kernel
theorem dX4_allHair_3 : decode cX4_allHair 3 = .ok (.istore_n 2, 1) := by decide +kernel
theorem dX4_allHair_4 : decode cX4_allHair 4 = .ok (.iload_n 2, 1) := by decide +kernel
theorem dX4_allHair_5 : decode cX4_allHair 5 = .ok (.aload_n 0, 1) := by decide +kernel
theorem dX4_allHair_6 : decode cX4_allHair 6 = .ok (.getfield 53, 3) := by decide +kernel
theorem dX4_allHair_9 : decode cX4_allHair 9 = .ok (.if_icmp .ge 23, 3) := by decide +kernel
theorem dX4_allHair_12 : decode cX4_allHair 12 = .ok (.iload_n 2, 1) := by decide +kernel
theorem dX4_allHair_13 : decode cX4_allHair 13 = .ok (.bipush 6, 2) := by decide +kernel
theorem dX4_allHair_15 : decode cX4_allHair 15 = .ok (.if_icmp .ge 17, 3) := by decide +kernel
theorem dX4_allHair_18 : decode cX4_allHair 18 = .ok (.iload_n 1, 1) := by decide +kernel
theorem dX4_allHair_19 : decode cX4_allHair 19 = .ok (.aload_n 0, 1) := by decide +kernel
theorem dX4_allHair_20 : decode cX4_allHair 20 = .ok (.iload_n 2, 1) := by decide +kernel
theorem dX4_allHair_21 : decode cX4_allHair 21 = .ok (.invokevirtual 108, 3) := by decide +kernel
theorem dX4_allHair_24 : decode cX4_allHair 24 = .ok (.iadd, 1) := by decide +kernel
theorem dX4_allHair_25 : decode cX4_allHair 25 = .ok (.istore_n 1, 1) := by decide +kernel
theorem dX4_allHair_26 : decode cX4_allHair 26 = .ok (.iinc 2 1, 3) := by decide +kernel
theorem dX4_allHair_29 : decode cX4_allHair 29 = .ok (.goto (-25), 3) := by decide +kernel
theorem dX4_allHair_32 : decode cX4_allHair 32 = .ok (.iload_n 1, 1) := by decide +kernel
theorem dX4_allHair_33 : decode cX4_allHair 33 = .ok (.ireturn, 1) := by decide +kernel
theorem mw_X4_allHair : MW yX4_allHair cX4_allHair 3 0 0 false := ⟨tm 1055 (by decide +kernel) rfl, tm 242 (by decide +kernel) rfl, by decide, by decide, (by rw [if_neg (by decide)]; exact ⟨tm 1054 (by decide +kernel) rfl, tm 53 (by decide +kernel) rfl⟩)⟩
theorem lk_RX4_108 : LK RX4 108 yX4_hairOf := Or.inl (tm 1056 (by decide +kernel) rfl)
def Pr_allHair_L4 (pr0 : Nat) : Nat → Int → Int → Sg → Rs
  | 0, _, _, _ => none
  | n + 1, v1, v2, σ => (if v2 < (σ pr0 11) then (if v2 < 6 then (bd (Pr_hairOf pr0 v2 σ) (fun r1 s2 => (nm (w32 (v1 + r1)) (fun x3 => (nm (w32 (v2 + 1)) (fun x4 => (Pr_allHair_L4 pr0 n x3 x4 s2))))))) else (some (v1, σ))) else (some (v1, σ)))
theorem ok_Pr_allHair_L4 (pr0 : Nat) (hpr0 : Kh[pr0]? = some (.inl 4)) : ∀ (n : Nat) (v1 v2 : Int) (σ : Sg), G l Kh Ph RX4 cX4_allHair 3 0 4 4 [some (.inr (.inr pr0)), some (.inl v1), some (.inl v2)] [] σ (Pr_allHair_L4 pr0 n v1 v2 σ) := by
  intro n
  induction n with
  | zero => intros; exact G.none_
  | succ n ih =>
    intro v1 v2 σ
    rw [Pr_allHair_L4]
    refine g_iload_n dX4_allHair_4 rfl rfl ?_
    refine g_aload_n dX4_allHair_5 rfl rfl ?_
    refine g_geti fl_RX4_53 hpr0 (by decide) dX4_allHair_6 ?_
    refine g_icmpge (tgt := 32) dX4_allHair_9 (by decide) ?_ ?_
    · refine g_iload_n dX4_allHair_12 rfl rfl ?_
      refine g_bipush dX4_allHair_13 (by decide) ?_
      refine g_icmpge (tgt := 32) dX4_allHair_15 (by decide) ?_ ?_
      · refine g_iload_n dX4_allHair_18 rfl rfl ?_
        refine g_aload_n dX4_allHair_19 rfl rfl ?_
        refine g_iload_n dX4_allHair_20 rfl rfl ?_
        refine g_callv0 (st := [.inl v1]) 4 mw_X4_hairOf lk_RX4_108 rfl hpr0 (ok_Pr_hairOf pr0 v2 hpr0 σ) (Nat.le_of_ble_eq_true rfl) rfl rfl (Nat.le_of_ble_eq_true rfl) dX4_allHair_21 ?_
        intro r1 s2
        refine g_iadd dX4_allHair_24 ?_
        refine n_istore_n (fun x3 => [some (.inr (.inr pr0)), some (.inl x3), some (.inl v2)]) dX4_allHair_25 rfl (Nat.le_of_ble_eq_true rfl) (fun _ => rfl) ?_
        intro x3
        refine n_iinc (fun x4 => [some (.inr (.inr pr0)), some (.inl x3), some (.inl x4)]) dX4_allHair_26 rfl (Nat.le_of_ble_eq_true rfl) (fun _ => rfl) ?_
        intro x4
        refine g_goto (tgt := 4) dX4_allHair_29 (by decide) ?_
        exact (ih x3 x4 s2)
      · refine g_iload_n dX4_allHair_32 rfl rfl ?_
        exact g_iret dX4_allHair_33
    · refine g_iload_n dX4_allHair_32 rfl rfl ?_
      exact g_iret dX4_allHair_33
def Pr_allHair (pr0 : Nat) (σ : Sg) : Rs := (Pr_allHair_L4 pr0 fu 0 0 σ)
theorem ok_Pr_allHair (pr0 : Nat) (hpr0 : Kh[pr0]? = some (.inl 4)) (σ : Sg) : MC l Kh Ph yX4_allHair cX4_allHair 3 0 4 [.inr (.inr pr0)] σ (Pr_allHair pr0 σ) := by
  refine mc_of (by decide) (Nat.le_of_ble_eq_true rfl) ?_
  change G l Kh Ph RX4 cX4_allHair 3 0 4 0 [some (.inr (.inr pr0)), none, none] [] σ (Pr_allHair pr0 σ)
  unfold Pr_allHair
  refine g_iconst dX4_allHair_0 (by decide) ?_
  refine g_istore_n (lv' := [some (.inr (.inr pr0)), some (.inl 0), none]) dX4_allHair_1 rfl (Nat.le_of_ble_eq_true rfl) rfl ?_
  refine g_iconst dX4_allHair_2 (by decide) ?_
  refine g_istore_n (lv' := [some (.inr (.inr pr0)), some (.inl 0), some (.inl 0)]) dX4_allHair_3 rfl (Nat.le_of_ble_eq_true rfl) rfl ?_
  refine (ok_Pr_allHair_L4 pr0 hpr0 fu 0 0 σ)
theorem dX11_many_0 : decode cX11_many 0 = .ok (.iload_n 1, 1) := by decide +kernel
theorem dX11_many_1 : decode cX11_many 1 = .ok (.tableswitch 191 0 10 #[59, 71, 83, 95, 107, 119, 131, 143, 155, 167, 179], 59) := by decide +kernel
theorem dX11_many_60 : decode cX11_many 60 = .ok (.aload_n 0, 1) := by decide +kernel
theorem dX11_many_61 : decode cX11_many 61 = .ok (.aload_n 0, 1) := by decide +kernel
theorem dX11_many_62 : decode cX11_many 62 = .ok (.getfield 43, 3) := by decide +kernel
theorem dX11_many_65 : decode cX11_many 65 = .ok (.getfield 217, 3) := by decide +kernel
theorem dX11_many_68 : decode cX11_many 68 = .ok (.invokevirtual 194, 3) := by decide +kernel
theorem dX11_many_71 : decode cX11_many 71 = .ok (.ireturn, 1) := by decide +kernel
theorem dX11_many_72 : decode cX11_many 72 = .ok (.aload_n 0, 1) := by decide +kernel
theorem dX11_many_73 : decode cX11_many 73 = .ok (.aload_n 0, 1) := by decide +kernel
theorem dX11_many_74 : decode cX11_many 74 = .ok (.getfield 43, 3) := by decide +kernel
theorem dX11_many_77 : decode cX11_many 77 = .ok (.getfield 191, 3) := by decide +kernel
theorem dX11_many_80 : decode cX11_many 80 = .ok (.invokevirtual 194, 3) := by decide +kernel
theorem dX11_many_83 : decode cX11_many 83 = .ok (.ireturn, 1) := by decide +kernel
theorem dX11_many_84 : decode cX11_many 84 = .ok (.aload_n 0, 1) := by decide +kernel
theorem dX11_many_85 : decode cX11_many 85 = .ok (.aload_n 0, 1) := by decide +kernel
theorem dX11_many_86 : decode cX11_many 86 = .ok (.getfield 43, 3) := by decide +kernel
theorem dX11_many_89 : decode cX11_many 89 = .ok (.getfield 220, 3) := by decide +kernel
theorem dX11_many_92 : decode cX11_many 92 = .ok (.invokevirtual 194, 3) := by decide +kernel
theorem dX11_many_95 : decode cX11_many 95 = .ok (.ireturn, 1) := by decide +kernel
theorem dX11_many_96 : decode cX11_many 96 = .ok (.aload_n 0, 1) := by decide +kernel
theorem dX11_many_97 : decode cX11_many 97 = .ok (.aload_n 0, 1) := by decide +kernel
theorem dX11_many_98 : decode cX11_many 98 = .ok (.getfield 43, 3) := by decide +kernel
theorem dX11_many_101 : decode cX11_many 101 = .ok (.getfield 223, 3) := by decide +kernel
theorem dX11_many_104 : decode cX11_many 104 = .ok (.invokevirtual 194, 3) := by decide +kernel
theorem dX11_many_107 : decode cX11_many 107 = .ok (.ireturn, 1) := by decide +kernel
theorem dX11_many_108 : decode cX11_many 108 = .ok (.aload_n 0, 1) := by decide +kernel
theorem dX11_many_109 : decode cX11_many 109 = .ok (.aload_n 0, 1) := by decide +kernel
theorem dX11_many_110 : decode cX11_many 110 = .ok (.getfield 43, 3) := by decide +kernel
theorem dX11_many_113 : decode cX11_many 113 = .ok (.getfield 226, 3) := by decide +kernel
theorem dX11_many_116 : decode cX11_many 116 = .ok (.invokevirtual 194, 3) := by decide +kernel
theorem dX11_many_119 : decode cX11_many 119 = .ok (.ireturn, 1) := by decide +kernel
theorem dX11_many_120 : decode cX11_many 120 = .ok (.aload_n 0, 1) := by decide +kernel
theorem dX11_many_121 : decode cX11_many 121 = .ok (.aload_n 0, 1) := by decide +kernel
theorem dX11_many_122 : decode cX11_many 122 = .ok (.getfield 43, 3) := by decide +kernel
theorem dX11_many_125 : decode cX11_many 125 = .ok (.getfield 229, 3) := by decide +kernel
theorem dX11_many_128 : decode cX11_many 128 = .ok (.invokevirtual 194, 3) := by decide +kernel
theorem dX11_many_131 : decode cX11_many 131 = .ok (.ireturn, 1) := by decide +kernel
theorem dX11_many_132 : decode cX11_many 132 = .ok (.aload_n 0, 1) := by decide +kernel
theorem dX11_many_133 : decode cX11_many 133 = .ok (.aload_n 0, 1) := by decide +kernel
theorem dX11_many_134 : decode cX11_many 134 = .ok (.getfield 43, 3) := by decide +kernel
theorem dX11_many_137 : decode cX11_many 137 = .ok (.getfield 232, 3) := by decide +kernel
theorem dX11_many_140 : decode cX11_many 140 = .ok (.invokevirtual 194, 3) := by decide +kernel
theorem dX11_many_143 : decode cX11_many 143 = .ok (.ireturn, 1) := by decide +kernel
theorem dX11_many_144 : decode cX11_many 144 = .ok (.aload_n 0, 1) := by decide +kernel
theorem dX11_many_145 : decode cX11_many 145 = .ok (.aload_n 0, 1) := by decide +kernel
theorem dX11_many_146 : decode cX11_many 146 = .ok (.getfield 43, 3) := by decide +kernel
theorem dX11_many_149 : decode cX11_many 149 = .ok (.getfield 235, 3) := by decide +kernel
theorem dX11_many_152 : decode cX11_many 152 = .ok (.invokevirtual 194, 3) := by decide +kernel
theorem dX11_many_155 : decode cX11_many 155 = .ok (.ireturn, 1) := by decide +kernel
theorem dX11_many_156 : decode cX11_many 156 = .ok (.aload_n 0, 1) := by decide +kernel
theorem dX11_many_157 : decode cX11_many 157 = .ok (.aload_n 0, 1) := by decide +kernel
theorem dX11_many_158 : decode cX11_many 158 = .ok (.getfield 43, 3) := by decide +kernel
theorem dX11_many_161 : decode cX11_many 161 = .ok (.getfield 238, 3) := by decide +kernel
theorem dX11_many_164 : decode cX11_many 164 = .ok (.invokevirtual 194, 3) := by decide +kernel
theorem dX11_many_167 : decode cX11_many 167 = .ok (.ireturn, 1) := by decide +kernel
theorem dX11_many_168 : decode cX11_many 168 = .ok (.aload_n 0, 1) := by decide +kernel
theorem dX11_many_169 : decode cX11_many 169 = .ok (.aload_n 0, 1) := by decide +kernel
theorem dX11_many_170 : decode cX11_many 170 = .ok (.getfield 43, 3) := by decide +kernel
theorem dX11_many_173 : decode cX11_many 173 = .ok (.getfield 241, 3) := by decide +kernel
theorem dX11_many_176 : decode cX11_many 176 = .ok (.invokevirtual 194, 3) := by decide +kernel
theorem dX11_many_179 : decode cX11_many 179 = .ok (.ireturn, 1) := by decide +kernel
theorem dX11_many_180 : decode cX11_many 180 = .ok (.aload_n 0, 1) := by decide +kernel
theorem dX11_many_181 : decode cX11_many 181 = .ok (.aload_n 0, 1) := by decide +kernel
theorem dX11_many_182 : decode cX11_many 182 = .ok (.getfield 43, 3) := by decide +kernel
theorem dX11_many_185 : decode cX11_many 185 = .ok (.invokevirtual 244, 3) := by decide +kernel
theorem dX11_many_188 : decode cX11_many 188 = .ok (.invokevirtual 194, 3) := by decide +kernel
theorem dX11_many_191 : decode cX11_many 191 = .ok (.ireturn, 1) := by decide +kernel
theorem dX11_many_192 : decode cX11_many 192 = .ok (.aload_n 0, 1) := by decide +kernel
theorem dX11_many_193 : decode cX11_many 193 = .ok (.iconst 5, 1) := by decide +kernel
theorem dX11_many_194 : decode cX11_many 194 = .ok (.invokevirtual 147, 3) := by decide +kernel
theorem dX11_many_197 : decode cX11_many 197 = .ok (.ireturn, 1) := by decide +kernel
theorem mw_X11_many : MW yX11_many cX11_many 2 0 1 false := ⟨tm 1051 (by decide +kernel) rfl, tm 235 (by decide +kernel) rfl, by decide, by decide, (by rw [if_neg (by decide)]; exact ⟨tm 1049 (by decide +kernel) rfl, tm 1050 (by decide +kernel) rfl⟩)⟩
theorem lk_RX11_244 : LK RX11 244 yX4_allHair := Or.inr ⟨"HairProvince", tm 1052 (by decide +kernel) rfl⟩
theorem fl_RX11_217 : FL RX11 217 4 10 := ⟨_, _, _, _, cw_4, by decide, Or.inl (by decide), Or.inr (by decide), Or.inr ⟨"HairProvince", tm 423 (by decide +kernel) rfl⟩⟩
theorem fl_RX11_223 : FL RX11 223 4 13 := ⟨_, _, _, _, cw_4, by decide, Or.inl (by decide), Or.inr (by decide), Or.inr ⟨"HairProvince", tm 434 (by decide +kernel) rfl⟩⟩
theorem fl_RX11_226 : FL RX11 226 4 14 := ⟨_, _, _, _, cw_4, by decide, Or.inl (by decide), Or.inr (by decide), Or.inr ⟨"HairProvince", tm 437 (by decide +kernel) rfl⟩⟩
theorem fl_RX11_235 : FL RX11 235 4 17 := ⟨_, _, _, _, cw_4, by decide, Or.inl (by decide), Or.inr (by decide), Or.inr ⟨"HairProvince", tm 446 (by decide +kernel) rfl⟩⟩
theorem fl_RX11_238 : FL RX11 238 4 18 := ⟨_, _, _, _, cw_4, by decide, Or.inl (by decide), Or.inr (by decide), Or.inr ⟨"HairProvince", tm 448 (by decide +kernel) rfl⟩⟩
theorem fl_RX11_241 : FL RX11 241 4 19 := ⟨_, _, _, _, cw_4, by decide, Or.inl (by decide), Or.inr (by decide), Or.inr ⟨"HairProvince", tm 450 (by decide +kernel) rfl⟩⟩
def H_many (a1 : Int) (σ : Sg) : Rs := (sw a1 0 [(bd (H_give (σ 8 10) σ) (fun r1 s2 => (some (r1, s2)))), (bd (H_give (σ 8 11) σ) (fun r3 s4 => (some (r3, s4)))), (bd (H_give (σ 8 12) σ) (fun r5 s6 => (some (r5, s6)))), (bd (H_give (σ 8 13) σ) (fun r7 s8 => (some (r7, s8)))), (bd (H_give (σ 8 14) σ) (fun r9 s10 => (some (r9, s10)))), (bd (H_give (σ 8 15) σ) (fun r11 s12 => (some (r11, s12)))), (bd (H_give (σ 8 16) σ) (fun r13 s14 => (some (r13, s14)))), (bd (H_give (σ 8 17) σ) (fun r15 s16 => (some (r15, s16)))), (bd (H_give (σ 8 18) σ) (fun r17 s18 => (some (r17, s18)))), (bd (H_give (σ 8 19) σ) (fun r19 s20 => (some (r19, s20)))), (bd (Pr_allHair 8 σ) (fun r21 s22 => (bd (H_give r21 s22) (fun r23 s24 => (some (r23, s24))))))] (bd (H_fail 5 σ) (fun r25 s26 => (some (r25, s26)))))
theorem ok_H_many (a1 : Int) (σ : Sg) : MC l Kh Ph yX11_many cX11_many 2 0 5 [.inr (.inr 0), .inl a1] σ (H_many a1 σ) := by
  refine mc_of (by decide) (Nat.le_of_ble_eq_true rfl) ?_
  change G l Kh Ph RX11 cX11_many 2 0 5 0 [some (.inr (.inr 0)), some (.inl a1)] [] σ (H_many a1 σ)
  unfold H_many
  refine g_iload_n dX11_many_0 rfl rfl ?_
  refine g_tsw (td := 192) [60, 72, 84, 96, 108, 120, 132, 144, 156, 168, 180] dX11_many_1 (by decide) rfl (And.intro ?_ (And.intro ?_ (And.intro ?_ (And.intro ?_ (And.intro ?_ (And.intro ?_ (And.intro ?_ (And.intro ?_ (And.intro ?_ (And.intro ?_ (And.intro ?_ trivial))))))))))) ?_
  · refine g_aload_n dX11_many_60 rfl rfl ?_
    refine g_aload_n dX11_many_61 rfl rfl ?_
    refine g_getr' (q := 8) fl_RX11_43 kh_0 (by decide) rfl dX11_many_62 ?_
    refine g_geti fl_RX11_217 kh_8 (by decide) dX11_many_65 ?_
    refine g_callv0 (st := []) 9 mw_X11_give lk_RX11_194 rfl kh_0 (ok_H_give (σ 8 10) σ) (Nat.le_of_ble_eq_true rfl) rfl rfl (Nat.le_of_ble_eq_true rfl) dX11_many_68 ?_
    intro r1 s2
    exact g_iret dX11_many_71
  · refine g_aload_n dX11_many_72 rfl rfl ?_
    refine g_aload_n dX11_many_73 rfl rfl ?_
    refine g_getr' (q := 8) fl_RX11_43 kh_0 (by decide) rfl dX11_many_74 ?_
    refine g_geti fl_RX11_191 kh_8 (by decide) dX11_many_77 ?_
    refine g_callv0 (st := []) 9 mw_X11_give lk_RX11_194 rfl kh_0 (ok_H_give (σ 8 11) σ) (Nat.le_of_ble_eq_true rfl) rfl rfl (Nat.le_of_ble_eq_true rfl) dX11_many_80 ?_
    intro r3 s4
    exact g_iret dX11_many_83
  · refine g_aload_n dX11_many_84 rfl rfl ?_
    refine g_aload_n dX11_many_85 rfl rfl ?_
    refine g_getr' (q := 8) fl_RX11_43 kh_0 (by decide) rfl dX11_many_86 ?_
    refine g_geti fl_RX11_220 kh_8 (by decide) dX11_many_89 ?_
    refine g_callv0 (st := []) 9 mw_X11_give lk_RX11_194 rfl kh_0 (ok_H_give (σ 8 12) σ) (Nat.le_of_ble_eq_true rfl) rfl rfl (Nat.le_of_ble_eq_true rfl) dX11_many_92 ?_
    intro r5 s6
    exact g_iret dX11_many_95
  · refine g_aload_n dX11_many_96 rfl rfl ?_
    refine g_aload_n dX11_many_97 rfl rfl ?_
    refine g_getr' (q := 8) fl_RX11_43 kh_0 (by decide) rfl dX11_many_98 ?_
    refine g_geti fl_RX11_223 kh_8 (by decide) dX11_many_101 ?_
    refine g_callv0 (st := []) 9 mw_X11_give lk_RX11_194 rfl kh_0 (ok_H_give (σ 8 13) σ) (Nat.le_of_ble_eq_true rfl) rfl rfl (Nat.le_of_ble_eq_true rfl) dX11_many_104 ?_
    intro r7 s8
    exact g_iret dX11_many_107
  · refine g_aload_n dX11_many_108 rfl rfl ?_
    refine g_aload_n dX11_many_109 rfl rfl ?_
    refine g_getr' (q := 8) fl_RX11_43 kh_0 (by decide) rfl dX11_many_110 ?_
    refine g_geti fl_RX11_226 kh_8 (by decide) dX11_many_113 ?_
    refine g_callv0 (st := []) 9 mw_X11_give lk_RX11_194 rfl kh_0 (ok_H_give (σ 8 14) σ) (Nat.le_of_ble_eq_true rfl) rfl rfl (Nat.le_of_ble_eq_true rfl) dX11_many_116 ?_
    intro r9 s10
    exact g_iret dX11_many_119
  · refine g_aload_n dX11_many_120 rfl rfl ?_
    refine g_aload_n dX11_many_121 rfl rfl ?_
    refine g_getr' (q := 8) fl_RX11_43 kh_0 (by decide) rfl dX11_many_122 ?_
    refine g_geti fl_RX11_229 kh_8 (by decide) dX11_many_125 ?_
    refine g_callv0 (st := []) 9 mw_X11_give lk_RX11_194 rfl kh_0 (ok_H_give (σ 8 15) σ) (Nat.le_of_ble_eq_true rfl) rfl rfl (Nat.le_of_ble_eq_true rfl) dX11_many_128 ?_
    intro r11 s12
    exact g_iret dX11_many_131
  · refine g_aload_n dX11_many_132 rfl rfl ?_
    refine g_aload_n dX11_many_133 rfl rfl ?_
    refine g_getr' (q := 8) fl_RX11_43 kh_0 (by decide) rfl dX11_many_134 ?_
    refine g_geti fl_RX11_232 kh_8 (by decide) dX11_many_137 ?_
    refine g_callv0 (st := []) 9 mw_X11_give lk_RX11_194 rfl kh_0 (ok_H_give (σ 8 16) σ) (Nat.le_of_ble_eq_true rfl) rfl rfl (Nat.le_of_ble_eq_true rfl) dX11_many_140 ?_
    intro r13 s14
    exact g_iret dX11_many_143
  · refine g_aload_n dX11_many_144 rfl rfl ?_
    refine g_aload_n dX11_many_145 rfl rfl ?_
    refine g_getr' (q := 8) fl_RX11_43 kh_0 (by decide) rfl dX11_many_146 ?_
    refine g_geti fl_RX11_235 kh_8 (by decide) dX11_many_149 ?_
    refine g_callv0 (st := []) 9 mw_X11_give lk_RX11_194 rfl kh_0 (ok_H_give (σ 8 17) σ) (Nat.le_of_ble_eq_true rfl) rfl rfl (Nat.le_of_ble_eq_true rfl) dX11_many_152 ?_
    intro r15 s16
    exact g_iret dX11_many_155
  · refine g_aload_n dX11_many_156 rfl rfl ?_
    refine g_aload_n dX11_many_157 rfl rfl ?_
    refine g_getr' (q := 8) fl_RX11_43 kh_0 (by decide) rfl dX11_many_158 ?_
    refine g_geti fl_RX11_238 kh_8 (by decide) dX11_many_161 ?_
    refine g_callv0 (st := []) 9 mw_X11_give lk_RX11_194 rfl kh_0 (ok_H_give (σ 8 18) σ) (Nat.le_of_ble_eq_true rfl) rfl rfl (Nat.le_of_ble_eq_true rfl) dX11_many_164 ?_
    intro r17 s18
    exact g_iret dX11_many_167
  · refine g_aload_n dX11_many_168 rfl rfl ?_
    refine g_aload_n dX11_many_169 rfl rfl ?_
    refine g_getr' (q := 8) fl_RX11_43 kh_0 (by decide) rfl dX11_many_170 ?_
    refine g_geti fl_RX11_241 kh_8 (by decide) dX11_many_173 ?_
    refine g_callv0 (st := []) 9 mw_X11_give lk_RX11_194 rfl kh_0 (ok_H_give (σ 8 19) σ) (Nat.le_of_ble_eq_true rfl) rfl rfl (Nat.le_of_ble_eq_true rfl) dX11_many_176 ?_
    intro r19 s20
    exact g_iret dX11_many_179
  · refine g_aload_n dX11_many_180 rfl rfl ?_
    refine g_aload_n dX11_many_181 rfl rfl ?_
    refine g_getr' (q := 8) fl_RX11_43 kh_0 (by decide) rfl dX11_many_182 ?_
    refine g_callv0 (st := [.inr (.inr 0)]) 4 mw_X4_allHair lk_RX11_244 rfl kh_8 (ok_Pr_allHair 8 kh_8 σ) (Nat.le_of_ble_eq_true rfl) rfl rfl (Nat.le_of_ble_eq_true rfl) dX11_many_185 ?_
    intro r21 s22
    refine g_callv0 (st := []) 9 mw_X11_give lk_RX11_194 rfl kh_0 (ok_H_give r21 s22) (Nat.le_of_ble_eq_true rfl) rfl rfl (Nat.le_of_ble_eq_true rfl) dX11_many_188 ?_
    intro r23 s24
    exact g_iret dX11_many_191
  · refine g_aload_n dX11_many_192 rfl rfl ?_
    refine g_iconst dX11_many_193 (by decide) ?_
    refine g_callv0 (st := []) 9 mw_X11_fail lk_RX11_147 rfl kh_0 (ok_H_fail 5 σ) (Nat.le_of_ble_eq_true rfl) rfl rfl (Nat.le_of_ble_eq_true rfl) dX11_many_194 ?_
    intro r25 s26
    exact g_iret dX11_many_197
theorem dX11_mark_0 : decode cX11_mark 0 = .ok (.aload_n 0, 1) := by decide +kernel
theorem dX11_mark_1 : decode cX11_mark 1 = .ok (.getfield 448, 3) := by decide +kernel
theorem dX11_mark_4 : decode cX11_mark 4 = .ok (.iconst 3, 1) := by decide +kernel
theorem dX11_mark_5 : decode cX11_mark 5 = .ok (.if_icmp .lt 10, 3) := by decide +kernel
theorem dX11_mark_8 : decode cX11_mark 8 = .ok (.aload_n 0, 1) := by decide +kernel
theorem dX11_mark_9 : decode cX11_mark 9 = .ok (.bipush 7, 2) := by decide +kernel
theorem dX11_mark_11 : decode cX11_mark 11 = .ok (.invokevirtual 147, 3) := by decide +kernel
theorem dX11_mark_14 : decode cX11_mark 14 = .ok (.ireturn, 1) := by decide +kernel
theorem dX11_mark_15 : decode cX11_mark 15 = .ok (.aload_n 0, 1) := by decide +kernel
theorem dX11_mark_16 : decode cX11_mark 16 = .ok (.getfield 60, 3) := by decide +kernel
theorem dX11_mark_19 : decode cX11_mark 19 = .ok (.aload_n 0, 1) := by decide +kernel
theorem dX11_mark_20 : decode cX11_mark 20 = .ok (.getfield 448, 3) := by decide +kernel
theorem dX11_mark_23 : decode cX11_mark 23 = .ok (.aaload, 1) := by decide +kernel
theorem dX11_mark_24 : decode cX11_mark 24 = .ok (.aload_n 0, 1) := by decide +kernel
theorem dX11_mark_25 : decode cX11_mark 25 = .ok (.getfield 43, 3) := by decide +kernel
theorem dX11_mark_28 : decode cX11_mark 28 = .ok (.invokevirtual 184, 3) := by decide +kernel
theorem dX11_mark_31 : decode cX11_mark 31 = .ok (.aload_n 0, 1) := by decide +kernel
theorem dX11_mark_32 : decode cX11_mark 32 = .ok (.getfield 64, 3) := by decide +kernel
theorem dX11_mark_35 : decode cX11_mark 35 = .ok (.aload_n 0, 1) := by decide +kernel
theorem dX11_mark_36 : decode cX11_mark 36 = .ok (.getfield 448, 3) := by decide +kernel
theorem dX11_mark_39 : decode cX11_mark 39 = .ok (.aaload, 1) := by decide +kernel
theorem dX11_mark_40 : decode cX11_mark 40 = .ok (.aload_n 0, 1) := by decide +kernel
theorem dX11_mark_41 : decode cX11_mark 41 = .ok (.getfield 53, 3) := by decide +kernel
theorem dX11_mark_44 : decode cX11_mark 44 = .ok (.invokevirtual 207, 3) := by decide +kernel
theorem dX11_mark_47 : decode cX11_mark 47 = .ok (.aload_n 0, 1) := by decide +kernel
theorem dX11_mark_48 : decode cX11_mark 48 = .ok (.dup, 1) := by decide +kernel
theorem dX11_mark_49 : decode cX11_mark 49 = .ok (.getfield 448, 3) := by decide +kernel
theorem dX11_mark_52 : decode cX11_mark 52 = .ok (.iconst 1, 1) := by decide +kernel
theorem dX11_mark_53 : decode cX11_mark 53 = .ok (.iadd, 1) := by decide +kernel
theorem dX11_mark_54 : decode cX11_mark 54 = .ok (.putfield 448, 3) := by decide +kernel
theorem dX11_mark_57 : decode cX11_mark 57 = .ok (.aload_n 0, 1) := by decide +kernel
theorem dX11_mark_58 : decode cX11_mark 58 = .ok (.aload_n 0, 1) := by decide +kernel
theorem dX11_mark_59 : decode cX11_mark 59 = .ok (.getfield 448, 3) := by decide +kernel
theorem dX11_mark_62 : decode cX11_mark 62 = .ok (.invokevirtual 194, 3) := by decide +kernel
theorem dX11_mark_65 : decode cX11_mark 65 = .ok (.ireturn, 1) := by decide +kernel
theorem mw_X11_mark : MW yX11_mark cX11_mark 1 0 0 false := ⟨tm 1553 (by decide +kernel) rfl, tm 235 (by decide +kernel) rfl, by decide, by decide, (by rw [if_neg (by decide)]; exact ⟨tm 1551 (by decide +kernel) rfl, tm 1552 (by decide +kernel) rfl⟩)⟩
def H_mark  (σ : Sg) : Rs := (if (σ 0 5) < 3 then (rd 3 (σ 0 5) 0 (fun x1 => (bd (Pr_copyFrom (Ph 42 (Int.toNat (σ 0 5))) 8 σ) (fun r3 s4 => (rd 3 (s4 0 5) 0 (fun x5 => (bd (Ye_copyFrom (Ph 43 (Int.toNat (s4 0 5))) 30 s4) (fun r7 s8 => (nm (up_s s8 0 5 (w32 ((s8 0 5) + 1))) (fun s9 => (bd (H_give (s9 0 5) s9) (fun r10 s11 => (some (r10, s11)))))))))))))) else (bd (H_fail 7 σ) (fun r12 s13 => (some (r12, s13)))))
theorem ok_H_mark (σ : Sg) : MC l Kh Ph yX11_mark cX11_mark 1 0 2 [.inr (.inr 0)] σ (H_mark σ) := by
  refine mc_of (by decide) (Nat.le_of_ble_eq_true rfl) ?_
  change G l Kh Ph RX11 cX11_mark 1 0 2 0 [some (.inr (.inr 0))] [] σ (H_mark  σ)
  unfold H_mark
  refine g_aload_n dX11_mark_0 rfl rfl ?_
  refine g_geti fl_RX11_448 kh_0 (by decide) dX11_mark_1 ?_
  refine g_iconst dX11_mark_4 (by decide) ?_
  refine g_icmplt (tgt := 15) dX11_mark_5 (by decide) ?_ ?_
  · refine g_aload_n dX11_mark_15 rfl rfl ?_
    refine g_getr' (q := 42) fl_RX11_60 kh_0 (by decide) rfl dX11_mark_16 ?_
    refine g_aload_n dX11_mark_19 rfl rfl ?_
    refine g_geti fl_RX11_448 kh_0 (by decide) dX11_mark_20 ?_
    refine g_aald kh_42 (by decide) dX11_mark_23 ?_
    intro hq2
    refine g_aload_n dX11_mark_24 rfl rfl ?_
    refine g_getr' (q := 8) fl_RX11_43 kh_0 (by decide) rfl dX11_mark_25 ?_
    refine g_callv2 (st := []) 4 mw_X4_copyFrom lk_RX11_184 rfl (kq4 hq2) (ok_Pr_copyFrom (Ph 42 (Int.toNat (σ 0 5))) 8 (kq4 hq2) kh_8 σ) (Nat.le_of_ble_eq_true rfl) rfl rfl (Nat.le_of_ble_eq_true rfl) dX11_mark_28 ?_
    intro r3 s4
    refine g_aload_n dX11_mark_31 rfl rfl ?_
    refine g_getr' (q := 43) fl_RX11_64 kh_0 (by decide) rfl dX11_mark_32 ?_
    refine g_aload_n dX11_mark_35 rfl rfl ?_
    refine g_geti fl_RX11_448 kh_0 (by decide) dX11_mark_36 ?_
    refine g_aald kh_43 (by decide) dX11_mark_39 ?_
    intro hq6
    refine g_aload_n dX11_mark_40 rfl rfl ?_
    refine g_getr' (q := 30) fl_RX11_53 kh_0 (by decide) rfl dX11_mark_41 ?_
    refine g_callv2 (st := []) 8 mw_X9_copyFrom lk_RX11_207 rfl (kq5 hq6) (ok_Ye_copyFrom (Ph 43 (Int.toNat (s4 0 5))) 30 (kq5 hq6) kh_30 s4) (Nat.le_of_ble_eq_true rfl) rfl rfl (Nat.le_of_ble_eq_true rfl) dX11_mark_44 ?_
    intro r7 s8
    refine g_aload_n dX11_mark_47 rfl rfl ?_
    refine g_dup dX11_mark_48 rfl ?_
    refine g_geti fl_RX11_448 kh_0 (by decide) dX11_mark_49 ?_
    refine g_iconst dX11_mark_52 (by decide) ?_
    refine g_iadd dX11_mark_53 ?_
    refine g_puti fl_RX11_448 kh_0 (by decide) dX11_mark_54 ?_
    intro s9
    refine g_aload_n dX11_mark_57 rfl rfl ?_
    refine g_aload_n dX11_mark_58 rfl rfl ?_
    refine g_geti fl_RX11_448 kh_0 (by decide) dX11_mark_59 ?_
    refine g_callv0 (st := []) 9 mw_X11_give lk_RX11_194 rfl kh_0 (ok_H_give (s9 0 5) s9) (Nat.le_of_ble_eq_true rfl) rfl rfl (Nat.le_of_ble_eq_true rfl) dX11_mark_62 ?_
    intro r10 s11
    exact g_iret dX11_mark_65
  · refine g_aload_n dX11_mark_8 rfl rfl ?_
    refine g_bipush dX11_mark_9 (by decide) ?_
    refine g_callv0 (st := []) 9 mw_X11_fail lk_RX11_147 rfl kh_0 (ok_H_fail 7 σ) (Nat.le_of_ble_eq_true rfl) rfl rfl (Nat.le_of_ble_eq_true rfl) dX11_mark_11 ?_
    intro r12 s13
    exact g_iret dX11_mark_14
theorem dX11_refuse_0 : decode cX11_refuse 0 = .ok (.aload_n 0, 1) := by decide +kernel
theorem dX11_refuse_1 : decode cX11_refuse 1 = .ok (.iload_n 1, 1) := by decide +kernel
theorem dX11_refuse_2 : decode cX11_refuse 2 = .ok (.putfield 9, 3) := by decide +kernel
theorem dX11_refuse_5 : decode cX11_refuse 5 = .ok (.iconst 0, 1) := by decide +kernel
theorem dX11_refuse_6 : decode cX11_refuse 6 = .ok (.ireturn, 1) := by decide +kernel
theorem mw_X11_refuse : MW yX11_refuse cX11_refuse 2 3 1 false := ⟨tm 710 (by decide +kernel) rfl, tm 235 (by decide +kernel) rfl, by decide, by decide, (by rw [if_neg (by decide)]; exact ⟨tm 709 (by decide +kernel) rfl, tm 2 (by decide +kernel) rfl⟩)⟩
def H_refuse (a1 : Int) (σ : Sg) : Rs := (nm (up_s σ 0 0 a1) (fun s1 => (some (0, s1))))
theorem ok_H_refuse (a1 : Int) (σ : Sg) : MC l Kh Ph yX11_refuse cX11_refuse 2 3 1 [.inr (.inr 0), .inl a1] σ (H_refuse a1 σ) := by
  refine mc_of (by decide) (Nat.le_of_ble_eq_true rfl) ?_
  change G l Kh Ph RX11 cX11_refuse 2 3 1 0 [some (.inr (.inr 0)), some (.inl a1)] [] σ (H_refuse a1 σ)
  unfold H_refuse
  refine g_aload_n dX11_refuse_0 rfl rfl ?_
  refine g_iload_n dX11_refuse_1 rfl rfl ?_
  refine g_puti fl_RX11_9 kh_0 (by decide) dX11_refuse_2 ?_
  intro s1
  refine g_iconst dX11_refuse_5 (by decide) ?_
  exact g_zret0 dX11_refuse_6
end WK
