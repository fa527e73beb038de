section WK
variable {l : Launch}
theorem dX10_readPersonAndWord_0 : decode cX10_readPersonAndWord 0 = .ok (.aload_n 0, 1) := by decide +kernel
theorem dX10_readPersonAndWord_1 : decode cX10_readPersonAndWord 1 = .ok (.aload_n 1, 1) := by decide +kernel
theorem dX10_readPersonAndWord_2 : decode cX10_readPersonAndWord 2 = .ok (.invokevirtual 99, 3) := by decide +kernel
theorem dX10_readPersonAndWord_5 : decode cX10_readPersonAndWord 5 = .ok (.istore 4, 2) := by decide +kernel
theorem dX10_readPersonAndWord_7 : decode cX10_readPersonAndWord 7 = .ok (.iload 4, 2) := by decide +kernel
theorem dX10_readPersonAndWord_9 : decode cX10_readPersonAndWord 9 = .ok (.iconst (-1), 1) := by decide +kernel
theorem dX10_readPersonAndWord_10 : decode cX10_readPersonAndWord 10 = .ok (.if_icmp .ne 5, 3) := by decide +kernel
theorem dX10_readPersonAndWord_13 : decode cX10_readPersonAndWord 13 = .ok (.iconst 0, 1) := by decide +kernel
theorem dX10_readPersonAndWord_14 : decode cX10_readPersonAndWord 14 = .ok (.ireturn, 1) := by decide +kernel
theorem dX10_readPersonAndWord_15 : decode cX10_readPersonAndWord 15 = .ok (.aload_n 0, 1) := by decide +kernel
theorem dX10_readPersonAndWord_16 : decode cX10_readPersonAndWord 16 = .ok (.aload_n 1, 1) := by decide +kernel
theorem dX10_readPersonAndWord_17 : decode cX10_readPersonAndWord 17 = .ok (.invokevirtual 103, 3) := by decide +kernel
theorem dX10_readPersonAndWord_20 : decode cX10_readPersonAndWord 20 = .ok (.istore 5, 2) := by decide +kernel
theorem dX10_readPersonAndWord_22 : decode cX10_readPersonAndWord 22 = .ok (.iload 5, 2) := by decide +kernel
theorem dX10_readPersonAndWord_24 : decode cX10_readPersonAndWord 24 = .ok (.iconst (-1), 1) := by decide +kernel
theorem dX10_readPersonAndWord_25 : decode cX10_readPersonAndWord 25 = .ok (.if_icmp .eq 20, 3) := by decide +kernel
theorem dX10_readPersonAndWord_28 : decode cX10_readPersonAndWord 28 = .ok (.aload_n 2, 1) := by decide +kernel
theorem dX10_readPersonAndWord_29 : decode cX10_readPersonAndWord 29 = .ok (.iload_n 3, 1) := by decide +kernel
theorem dX10_readPersonAndWord_30 : decode cX10_readPersonAndWord 30 = .ok (.iload 4, 2) := by decide +kernel
theorem dX10_readPersonAndWord_32 : decode cX10_readPersonAndWord 32 = .ok (.iload 5, 2) := by decide +kernel
theorem dX10_readPersonAndWord_34 : decode cX10_readPersonAndWord 34 = .ok (.iconst 0, 1) := by decide +kernel
theorem dX10_readPersonAndWord_35 : decode cX10_readPersonAndWord 35 = .ok (.invokevirtual 68, 3) := by decide +kernel
theorem dX10_readPersonAndWord_38 : decode cX10_readPersonAndWord 38 = .ok (.ifCond .eq 7, 3) := by decide +kernel
theorem dX10_readPersonAndWord_41 : decode cX10_readPersonAndWord 41 = .ok (.iconst 1, 1) := by decide +kernel
theorem dX10_readPersonAndWord_42 : decode cX10_readPersonAndWord 42 = .ok (.goto 4, 3) := by decide +kernel
theorem dX10_readPersonAndWord_45 : decode cX10_readPersonAndWord 45 = .ok (.iconst 0, 1) := by decide +kernel
theorem dX10_readPersonAndWord_46 : decode cX10_readPersonAndWord 46 = .ok (.ireturn, 1) := by decide +kernel
theorem mw_X10_readPersonAndWord : MW yX10_readPersonAndWord cX10_readPersonAndWord 6 3 4 true := ⟨tm 1025 (by decide +kernel) rfl, tm 253 (by decide +kernel) rfl, by decide, by decide, (by rw [if_pos rfl]; exact tm 1024 (by decide +kernel) rfl)⟩
theorem lk_RX10_103 : LK RX10 103 yX7_takeWord := Or.inr ⟨"HairProvince", tm 1027 (by decide +kernel) rfl⟩
def YR_readPersonAndWord (pr1 : Nat) (ye2 : Nat) (a3 : Int) (σ : Sg) : Rs := (bd (To_takePerson pr1 σ) (fun r1 s2 => (if r1 = (-1) then (some (0, s2)) else (bd (To_takeWord pr1 s2) (fun r3 s4 => (if r3 = (-1) then (some (0, s4)) else (bd (Ye_add ye2 a3 r1 r3 0 s4) (fun r5 s6 => (if r5 = 0 then (some (0, s6)) else (some (1, s6)))))))))))
theorem ok_YR_readPersonAndWord (pr1 : Nat) (ye2 : Nat) (a3 : Int) (hpr1 : Kh[pr1]? = some (.inl 4)) (hye2 : Kh[ye2]? = some (.inl 8)) (σ : Sg) : MC l Kh Ph yX10_readPersonAndWord cX10_readPersonAndWord 6 3 3 [.inr (.inr 5), .inr (.inr pr1), .inr (.inr ye2), .inl a3] σ (YR_readPersonAndWord pr1 ye2 a3 σ) := by
  refine mc_of (by decide) (Nat.le_of_ble_eq_true rfl) ?_
  change G l Kh Ph RX10 cX10_readPersonAndWord 6 3 3 0 [some (.inr (.inr 5)), some (.inr (.inr pr1)), some (.inr (.inr ye2)), some (.inl a3), none, none] [] σ (YR_readPersonAndWord pr1 ye2 a3 σ)
  unfold YR_readPersonAndWord
  refine g_aload_n dX10_readPersonAndWord_0 rfl rfl ?_
  refine g_aload_n dX10_readPersonAndWord_1 rfl rfl ?_
  refine g_callv0 (st := []) 6 mw_X7_takePerson lk_RX10_99 rfl kh_5 (ok_To_takePerson pr1 hpr1 σ) (Nat.le_of_ble_eq_true rfl) rfl rfl (Nat.le_of_ble_eq_true rfl) dX10_readPersonAndWord_2 ?_
  intro r1 s2
  refine g_istore (lv' := [some (.inr (.inr 5)), some (.inr (.inr pr1)), some (.inr (.inr ye2)), some (.inl a3), some (.inl r1), none]) dX10_readPersonAndWord_5 (Nat.le_of_ble_eq_true rfl) rfl ?_
  refine g_iload dX10_readPersonAndWord_7 rfl ?_
  refine g_iconst dX10_readPersonAndWord_9 (by decide) ?_
  refine g_icmpne (tgt := 15) dX10_readPersonAndWord_10 (by decide) ?_ ?_
  · refine g_iconst dX10_readPersonAndWord_13 (by decide) ?_
    exact g_zret0 dX10_readPersonAndWord_14
  · refine g_aload_n dX10_readPersonAndWord_15 rfl rfl ?_
    refine g_aload_n dX10_readPersonAndWord_16 rfl rfl ?_
    refine g_callv0 (st := []) 6 mw_X7_takeWord lk_RX10_103 rfl kh_5 (ok_To_takeWord pr1 hpr1 s2) (Nat.le_of_ble_eq_true rfl) rfl rfl (Nat.le_of_ble_eq_true rfl) dX10_readPersonAndWord_17 ?_
    intro r3 s4
    refine g_istore (lv' := [some (.inr (.inr 5)), some (.inr (.inr pr1)), some (.inr (.inr ye2)), some (.inl a3), some (.inl r1), some (.inl r3)]) dX10_readPersonAndWord_20 (Nat.le_of_ble_eq_true rfl) rfl ?_
    refine g_iload dX10_readPersonAndWord_22 rfl ?_
    refine g_iconst dX10_readPersonAndWord_24 (by decide) ?_
    refine g_icmpeq (tgt := 45) dX10_readPersonAndWord_25 (by decide) ?_ ?_
    · refine g_iconst dX10_readPersonAndWord_45 (by decide) ?_
      exact g_zret0 dX10_readPersonAndWord_46
    · refine g_aload_n dX10_readPersonAndWord_28 rfl rfl ?_
      refine g_iload_n dX10_readPersonAndWord_29 rfl rfl ?_
      refine g_iload dX10_readPersonAndWord_30 rfl ?_
      refine g_iload dX10_readPersonAndWord_32 rfl ?_
      refine g_iconst dX10_readPersonAndWord_34 (by decide) ?_
      refine g_callv3 (st := []) 8 mw_X9_add lk_RX10_68 rfl hye2 (ok_Ye_add ye2 a3 r1 r3 0 hye2 s4) (Nat.le_of_ble_eq_true rfl) rfl rfl (Nat.le_of_ble_eq_true rfl) dX10_readPersonAndWord_35 ?_
      intro r5 s6
      refine g_ifeq (tgt := 45) dX10_readPersonAndWord_38 (by decide) ?_ ?_
      · refine g_iconst dX10_readPersonAndWord_45 (by decide) ?_
        exact g_zret0 dX10_readPersonAndWord_46
      · refine g_iconst dX10_readPersonAndWord_41 (by decide) ?_
        refine g_goto (tgt := 46) dX10_readPersonAndWord_42 (by decide) ?_
        exact g_zret1 dX10_readPersonAndWord_46
theorem dX10_readSaying_0 : decode cX10_readSaying 0 = .ok (.aload_n 0, 1) := by decide +kernel
theorem dX10_readSaying_1 : decode cX10_readSaying 1 = .ok (.aload_n 1, 1) := by decide +kernel
theorem dX10_readSaying_2 : decode cX10_readSaying 2 = .ok (.invokevirtual 99, 3) := by decide +kernel
theorem dX10_readSaying_5 : decode cX10_readSaying 5 = .ok (.istore_n 3, 1) := by decide +kernel
theorem dX10_readSaying_6 : decode cX10_readSaying 6 = .ok (.iload_n 3, 1) := by decide +kernel
theorem dX10_readSaying_7 : decode cX10_readSaying 7 = .ok (.iconst (-1), 1) := by decide +kernel
theorem dX10_readSaying_8 : decode cX10_readSaying 8 = .ok (.if_icmp .ne 5, 3) := by decide +kernel
theorem dX10_readSaying_11 : decode cX10_readSaying 11 = .ok (.iconst 0, 1) := by decide +kernel
theorem dX10_readSaying_12 : decode cX10_readSaying 12 = .ok (.ireturn, 1) := by decide +kernel
theorem dX10_readSaying_13 : decode cX10_readSaying 13 = .ok (.aload_n 0, 1) := by decide +kernel
theorem dX10_readSaying_14 : decode cX10_readSaying 14 = .ok (.aload_n 1, 1) := by decide +kernel
theorem dX10_readSaying_15 : decode cX10_readSaying 15 = .ok (.invokevirtual 103, 3) := by decide +kernel
theorem dX10_readSaying_18 : decode cX10_readSaying 18 = .ok (.istore 4, 2) := by decide +kernel
theorem dX10_readSaying_20 : decode cX10_readSaying 20 = .ok (.iload 4, 2) := by decide +kernel
theorem dX10_readSaying_22 : decode cX10_readSaying 22 = .ok (.iconst (-1), 1) := by decide +kernel
theorem dX10_readSaying_23 : decode cX10_readSaying 23 = .ok (.if_icmp .eq 12, 3) := by decide +kernel
theorem dX10_readSaying_26 : decode cX10_readSaying 26 = .ok (.aload_n 0, 1) := by decide +kernel
theorem dX10_readSaying_27 : decode cX10_readSaying 27 = .ok (.bipush 15, 2) := by decide +kernel
theorem dX10_readSaying_29 : decode cX10_readSaying 29 = .ok (.invokevirtual 106, 3) := by decide +kernel
theorem dX10_readSaying_32 : decode cX10_readSaying 32 = .ok (.ifCond .ne 5, 3) := by decide +kernel
theorem dX10_readSaying_35 : decode cX10_readSaying 35 = .ok (.iconst 0, 1) := by decide +kernel
theorem dX10_readSaying_36 : decode cX10_readSaying 36 = .ok (.ireturn, 1) := by decide +kernel
theorem dX10_readSaying_37 : decode cX10_readSaying 37 = .ok (.aload_n 0, 1) := by decide +kernel
theorem dX10_readSaying_38 : decode cX10_readSaying 38 = .ok (.aload_n 1, 1) := by decide +kernel
theorem dX10_readSaying_39 : decode cX10_readSaying 39 = .ok (.invokevirtual 99, 3) := by decide +kernel
theorem dX10_readSaying_42 : decode cX10_readSaying 42 = .ok (.istore 5, 2) := by decide +kernel
theorem dX10_readSaying_44 : decode cX10_readSaying 44 = .ok (.iload 5, 2) := by decide +kernel
theorem dX10_readSaying_46 : decode cX10_readSaying 46 = .ok (.iconst (-1), 1) := by decide +kernel
theorem dX10_readSaying_47 : decode cX10_readSaying 47 = .ok (.if_icmp .eq 21, 3) := by decide +kernel
theorem dX10_readSaying_50 : decode cX10_readSaying 50 = .ok (.aload_n 2, 1) := by decide +kernel
theorem dX10_readSaying_51 : decode cX10_readSaying 51 = .ok (.bipush 14, 2) := by decide +kernel
theorem dX10_readSaying_53 : decode cX10_readSaying 53 = .ok (.iload_n 3, 1) := by decide +kernel
theorem dX10_readSaying_54 : decode cX10_readSaying 54 = .ok (.iload 4, 2) := by decide +kernel
theorem dX10_readSaying_56 : decode cX10_readSaying 56 = .ok (.iload 5, 2) := by decide +kernel
theorem dX10_readSaying_58 : decode cX10_readSaying 58 = .ok (.invokevirtual 68, 3) := by decide +kernel
theorem dX10_readSaying_61 : decode cX10_readSaying 61 = .ok (.ifCond .eq 7, 3) := by decide +kernel
theorem dX10_readSaying_64 : decode cX10_readSaying 64 = .ok (.iconst 1, 1) := by decide +kernel
theorem dX10_readSaying_65 : decode cX10_readSaying 65 = .ok (.goto 4, 3) := by decide +kernel
theorem dX10_readSaying_68 : decode cX10_readSaying 68 = .ok (.iconst 0, 1) := by decide +kernel
theorem dX10_readSaying_69 : decode cX10_readSaying 69 = .ok (.ireturn, 1) := by decide +kernel
theorem mw_X10_readSaying : MW yX10_readSaying cX10_readSaying 6 3 3 true := ⟨tm 1030 (by decide +kernel) rfl, tm 253 (by decide +kernel) rfl, by decide, by decide, (by rw [if_pos rfl]; exact tm 1029 (by decide +kernel) rfl)⟩
def YR_readSaying (pr1 : Nat) (ye2 : Nat) (σ : Sg) : Rs := (bd (To_takePerson pr1 σ) (fun r1 s2 => (if r1 = (-1) then (some (0, s2)) else (bd (To_takeWord pr1 s2) (fun r3 s4 => (if r3 = (-1) then (some (0, s4)) else (bd (To_takeKey 15 s4) (fun r5 s6 => (if r5 = 0 then (some (0, s6)) else (bd (To_takePerson pr1 s6) (fun r7 s8 => (if r7 = (-1) then (some (0, s8)) else (bd (Ye_add ye2 14 r1 r3 r7 s8) (fun r9 s10 => (if r9 = 0 then (some (0, s10)) else (some (1, s10)))))))))))))))))
theorem ok_YR_readSaying (pr1 : Nat) (ye2 : Nat) (hpr1 : Kh[pr1]? = some (.inl 4)) (hye2 : Kh[ye2]? = some (.inl 8)) (σ : Sg) : MC l Kh Ph yX10_readSaying cX10_readSaying 6 3 3 [.inr (.inr 5), .inr (.inr pr1), .inr (.inr ye2)] σ (YR_readSaying pr1 ye2 σ) := by
  refine mc_of (by decide) (Nat.le_of_ble_eq_true rfl) ?_
  change G l Kh Ph RX10 cX10_readSaying 6 3 3 0 [some (.inr (.inr 5)), some (.inr (.inr pr1)), some (.inr (.inr ye2)), none, none, none] [] σ (YR_readSaying pr1 ye2 σ)
  unfold YR_readSaying
  refine g_aload_n dX10_readSaying_0 rfl rfl ?_
  refine g_aload_n dX10_readSaying_1 rfl rfl ?_
  refine g_callv0 (st := []) 6 mw_X7_takePerson lk_RX10_99 rfl kh_5 (ok_To_takePerson pr1 hpr1 σ) (Nat.le_of_ble_eq_true rfl) rfl rfl (Nat.le_of_ble_eq_true rfl) dX10_readSaying_2 ?_
  intro r1 s2
  refine g_istore_n (lv' := [some (.inr (.inr 5)), some (.inr (.inr pr1)), some (.inr (.inr ye2)), some (.inl r1), none, none]) dX10_readSaying_5 rfl (Nat.le_of_ble_eq_true rfl) rfl ?_
  refine g_iload_n dX10_readSaying_6 rfl rfl ?_
  refine g_iconst dX10_readSaying_7 (by decide) ?_
  refine g_icmpne (tgt := 13) dX10_readSaying_8 (by decide) ?_ ?_
  · refine g_iconst dX10_readSaying_11 (by decide) ?_
    exact g_zret0 dX10_readSaying_12
  · refine g_aload_n dX10_readSaying_13 rfl rfl ?_
    refine g_aload_n dX10_readSaying_14 rfl rfl ?_
    refine g_callv0 (st := []) 6 mw_X7_takeWord lk_RX10_103 rfl kh_5 (ok_To_takeWord pr1 hpr1 s2) (Nat.le_of_ble_eq_true rfl) rfl rfl (Nat.le_of_ble_eq_true rfl) dX10_readSaying_15 ?_
    intro r3 s4
    refine g_istore (lv' := [some (.inr (.inr 5)), some (.inr (.inr pr1)), some (.inr (.inr ye2)), some (.inl r1), some (.inl r3), none]) dX10_readSaying_18 (Nat.le_of_ble_eq_true rfl) rfl ?_
    refine g_iload dX10_readSaying_20 rfl ?_
    refine g_iconst dX10_readSaying_22 (by decide) ?_
    refine g_icmpeq (tgt := 35) dX10_readSaying_23 (by decide) ?_ ?_
    · refine g_iconst dX10_readSaying_35 (by decide) ?_
      exact g_zret0 dX10_readSaying_36
    · refine g_aload_n dX10_readSaying_26 rfl rfl ?_
      refine g_bipush dX10_readSaying_27 (by decide) ?_
      refine g_callv3 (st := []) 6 mw_X7_takeKey lk_RX10_106 rfl kh_5 (ok_To_takeKey 15 s4) (Nat.le_of_ble_eq_true rfl) rfl rfl (Nat.le_of_ble_eq_true rfl) dX10_readSaying_29 ?_
      intro r5 s6
      refine g_ifne (tgt := 37) dX10_readSaying_32 (by decide) ?_ ?_
      · refine g_iconst dX10_readSaying_35 (by decide) ?_
        exact g_zret0 dX10_readSaying_36
      · refine g_aload_n dX10_readSaying_37 rfl rfl ?_
        refine g_aload_n dX10_readSaying_38 rfl rfl ?_
        refine g_callv0 (st := []) 6 mw_X7_takePerson lk_RX10_99 rfl kh_5 (ok_To_takePerson pr1 hpr1 s6) (Nat.le_of_ble_eq_true rfl) rfl rfl (Nat.le_of_ble_eq_true rfl) dX10_readSaying_39 ?_
        intro r7 s8
        refine g_istore (lv' := [some (.inr (.inr 5)), some (.inr (.inr pr1)), some (.inr (.inr ye2)), some (.inl r1), some (.inl r3), some (.inl r7)]) dX10_readSaying_42 (Nat.le_of_ble_eq_true rfl) rfl ?_
        refine g_iload dX10_readSaying_44 rfl ?_
        refine g_iconst dX10_readSaying_46 (by decide) ?_
        refine g_icmpeq (tgt := 68) dX10_readSaying_47 (by decide) ?_ ?_
        · refine g_iconst dX10_readSaying_68 (by decide) ?_
          exact g_zret0 dX10_readSaying_69
        · refine g_aload_n dX10_readSaying_50 rfl rfl ?_
          refine g_bipush dX10_readSaying_51 (by decide) ?_
          refine g_iload_n dX10_readSaying_53 rfl rfl ?_
          refine g_iload dX10_readSaying_54 rfl ?_
          refine g_iload dX10_readSaying_56 rfl ?_
          refine g_callv3 (st := []) 8 mw_X9_add lk_RX10_68 rfl hye2 (ok_Ye_add ye2 14 r1 r3 r7 hye2 s8) (Nat.le_of_ble_eq_true rfl) rfl rfl (Nat.le_of_ble_eq_true rfl) dX10_readSaying_58 ?_
          intro r9 s10
          refine g_ifeq (tgt := 68) dX10_readSaying_61 (by decide) ?_ ?_
          · refine g_iconst dX10_readSaying_68 (by decide) ?_
            exact g_zret0 dX10_readSaying_69
          · refine g_iconst dX10_readSaying_64 (by decide) ?_
            refine g_goto (tgt := 69) dX10_readSaying_65 (by decide) ?_
            exact g_zret1 dX10_readSaying_69
theorem dX10_readOrder_0 : decode cX10_readOrder 0 = .ok (.iload_n 3, 1) := by decide +kernel
theorem dX10_readOrder_1 : decode cX10_readOrder 1 = .ok (.tableswitch 128 12 22 #[59, 77, 85, 128, 92, 128, 128, 99, 128, 128, 68], 59) := by decide +kernel
theorem dX10_readOrder_60 : decode cX10_readOrder 60 = .ok (.aload_n 0, 1) := by decide +kernel
theorem dX10_readOrder_61 : decode cX10_readOrder 61 = .ok (.aload_n 2, 1) := by decide +kernel
theorem dX10_readOrder_62 : decode cX10_readOrder 62 = .ok (.iload_n 3, 1) := by decide +kernel
theorem dX10_readOrder_63 : decode cX10_readOrder 63 = .ok (.bipush 20, 2) := by decide +kernel
theorem dX10_readOrder_65 : decode cX10_readOrder 65 = .ok (.invokestatic 79, 3) := by decide +kernel
theorem dX10_readOrder_68 : decode cX10_readOrder 68 = .ok (.ireturn, 1) := by decide +kernel
theorem dX10_readOrder_69 : decode cX10_readOrder 69 = .ok (.aload_n 0, 1) := by decide +kernel
theorem dX10_readOrder_70 : decode cX10_readOrder 70 = .ok (.aload_n 2, 1) := by decide +kernel
theorem dX10_readOrder_71 : decode cX10_readOrder 71 = .ok (.iload_n 3, 1) := by decide +kernel
theorem dX10_readOrder_72 : decode cX10_readOrder 72 = .ok (.bipush 99, 2) := by decide +kernel
theorem dX10_readOrder_74 : decode cX10_readOrder 74 = .ok (.invokestatic 79, 3) := by decide +kernel
theorem dX10_readOrder_77 : decode cX10_readOrder 77 = .ok (.ireturn, 1) := by decide +kernel
theorem dX10_readOrder_78 : decode cX10_readOrder 78 = .ok (.aload_n 0, 1) := by decide +kernel
theorem dX10_readOrder_79 : decode cX10_readOrder 79 = .ok (.aload_n 1, 1) := by decide +kernel
theorem dX10_readOrder_80 : decode cX10_readOrder 80 = .ok (.aload_n 2, 1) := by decide +kernel
theorem dX10_readOrder_81 : decode cX10_readOrder 81 = .ok (.iload_n 3, 1) := by decide +kernel
theorem dX10_readOrder_82 : decode cX10_readOrder 82 = .ok (.invokestatic 83, 3) := by decide +kernel
theorem dX10_readOrder_85 : decode cX10_readOrder 85 = .ok (.ireturn, 1) := by decide +kernel
theorem dX10_readOrder_86 : decode cX10_readOrder 86 = .ok (.aload_n 0, 1) := by decide +kernel
theorem dX10_readOrder_87 : decode cX10_readOrder 87 = .ok (.aload_n 1, 1) := by decide +kernel
theorem dX10_readOrder_88 : decode cX10_readOrder 88 = .ok (.aload_n 2, 1) := by decide +kernel
theorem dX10_readOrder_89 : decode cX10_readOrder 89 = .ok (.invokestatic 86, 3) := by decide +kernel
theorem dX10_readOrder_92 : decode cX10_readOrder 92 = .ok (.ireturn, 1) := by decide +kernel
theorem dX10_readOrder_93 : decode cX10_readOrder 93 = .ok (.aload_n 0, 1) := by decide +kernel
theorem dX10_readOrder_94 : decode cX10_readOrder 94 = .ok (.aload_n 1, 1) := by decide +kernel
theorem dX10_readOrder_95 : decode cX10_readOrder 95 = .ok (.aload_n 2, 1) := by decide +kernel
theorem dX10_readOrder_96 : decode cX10_readOrder 96 = .ok (.invokestatic 89, 3) := by decide +kernel
theorem dX10_readOrder_99 : decode cX10_readOrder 99 = .ok (.ireturn, 1) := by decide +kernel
theorem dX10_readOrder_100 : decode cX10_readOrder 100 = .ok (.aload_n 0, 1) := by decide +kernel
theorem dX10_readOrder_101 : decode cX10_readOrder 101 = .ok (.invokevirtual 37, 3) := by decide +kernel
theorem dX10_readOrder_104 : decode cX10_readOrder 104 = .ok (.bipush 20, 2) := by decide +kernel
theorem dX10_readOrder_106 : decode cX10_readOrder 106 = .ok (.if_icmp .ne 16, 3) := by decide +kernel
theorem dX10_readOrder_109 : decode cX10_readOrder 109 = .ok (.aload_n 0, 1) := by decide +kernel
theorem dX10_readOrder_110 : decode cX10_readOrder 110 = .ok (.invokevirtual 40, 3) := by decide +kernel
theorem dX10_readOrder_113 : decode cX10_readOrder 113 = .ok (.aload_n 0, 1) := by decide +kernel
theorem dX10_readOrder_114 : decode cX10_readOrder 114 = .ok (.aload_n 1, 1) := by decide +kernel
theorem dX10_readOrder_115 : decode cX10_readOrder 115 = .ok (.aload_n 2, 1) := by decide +kernel
theorem dX10_readOrder_116 : decode cX10_readOrder 116 = .ok (.bipush 20, 2) := by decide +kernel
theorem dX10_readOrder_118 : decode cX10_readOrder 118 = .ok (.invokestatic 83, 3) := by decide +kernel
theorem dX10_readOrder_121 : decode cX10_readOrder 121 = .ok (.ireturn, 1) := by decide +kernel
theorem dX10_readOrder_122 : decode cX10_readOrder 122 = .ok (.aload_n 0, 1) := by decide +kernel
theorem dX10_readOrder_123 : decode cX10_readOrder 123 = .ok (.aload_n 1, 1) := by decide +kernel
theorem dX10_readOrder_124 : decode cX10_readOrder 124 = .ok (.aload_n 2, 1) := by decide +kernel
theorem dX10_readOrder_125 : decode cX10_readOrder 125 = .ok (.invokestatic 92, 3) := by decide +kernel
theorem dX10_readOrder_128 : decode cX10_readOrder 128 = .ok (.ireturn, 1) := by decide +kernel
theorem dX10_readOrder_129 : decode cX10_readOrder 129 = .ok (.aload_n 2, 1) := by decide +kernel
theorem dX10_readOrder_130 : decode cX10_readOrder 130 = .ok (.iload_n 3, 1) := by decide +kernel
theorem dX10_readOrder_131 : decode cX10_readOrder 131 = .ok (.iconst 0, 1) := by decide +kernel
theorem dX10_readOrder_132 : decode cX10_readOrder 132 = .ok (.iconst 0, 1) := by decide +kernel
theorem dX10_readOrder_133 : decode cX10_readOrder 133 = .ok (.iconst 0, 1) := by decide +kernel
theorem dX10_readOrder_134 : decode cX10_readOrder 134 = .ok (.invokevirtual 68, 3) := by decide +kernel
theorem dX10_readOrder_137 : decode cX10_readOrder 137 = .ok (.ireturn, 1) := by decide +kernel
theorem mw_X10_readOrder : MW yX10_readOrder cX10_readOrder 4 3 4 true := ⟨tm 1018 (by decide +kernel) rfl, tm 253 (by decide +kernel) rfl, by decide, by decide, (by rw [if_pos rfl]; exact tm 1017 (by decide +kernel) rfl)⟩
theorem lk_RX10_37 : LK RX10 37 yX7_keyNext := Or.inr ⟨"HairProvince", tm 981 (by decide +kernel) rfl⟩
theorem lk_RX10_79 : LK RX10 79 yX10_readCount := Or.inl (tm 1019 (by decide +kernel) rfl)
theorem lk_RX10_83 : LK RX10 83 yX10_readPersonAndWord := Or.inl (tm 1023 (by decide +kernel) rfl)
theorem lk_RX10_86 : LK RX10 86 yX10_readSaying := Or.inl (tm 1028 (by decide +kernel) rfl)
theorem lk_RX10_89 : LK RX10 89 yX10_readCutting := Or.inl (tm 1032 (by decide +kernel) rfl)
theorem lk_RX10_92 : LK RX10 92 yX10_readHairTest := Or.inl (tm 1035 (by decide +kernel) rfl)
def YR_readOrder (pr1 : Nat) (ye2 : Nat) (a3 : Int) (σ : Sg) : Rs := (sw a3 12 [(bd (YR_readCount ye2 a3 20 σ) (fun r1 s2 => (zb r1 (some (r1, s2))))), (bd (YR_readPersonAndWord pr1 ye2 a3 σ) (fun r3 s4 => (zb r3 (some (r3, s4))))), (bd (YR_readSaying pr1 ye2 σ) (fun r5 s6 => (zb r5 (some (r5, s6))))), (bd (Ye_add ye2 a3 0 0 0 σ) (fun r7 s8 => (zb r7 (some (r7, s8))))), (bd (YR_readCutting pr1 ye2 σ) (fun r9 s10 => (zb r9 (some (r9, s10))))), (bd (Ye_add ye2 a3 0 0 0 σ) (fun r11 s12 => (zb r11 (some (r11, s12))))), (bd (Ye_add ye2 a3 0 0 0 σ) (fun r13 s14 => (zb r13 (some (r13, s14))))), (bd (To_keyNext σ) (fun r15 s16 => (if r15 = 20 then (bd (To_take s16) (fun r17 s18 => (bd (YR_readPersonAndWord pr1 ye2 20 s18) (fun r19 s20 => (zb r19 (some (r19, s20))))))) else (bd (YR_readHairTest pr1 ye2 s16) (fun r21 s22 => (zb r21 (some (r21, s22)))))))), (bd (Ye_add ye2 a3 0 0 0 σ) (fun r23 s24 => (zb r23 (some (r23, s24))))), (bd (Ye_add ye2 a3 0 0 0 σ) (fun r25 s26 => (zb r25 (some (r25, s26))))), (bd (YR_readCount ye2 a3 99 σ) (fun r27 s28 => (zb r27 (some (r27, s28)))))] (bd (Ye_add ye2 a3 0 0 0 σ) (fun r29 s30 => (zb r29 (some (r29, s30))))))
theorem ok_YR_readOrder (pr1 : Nat) (ye2 : Nat) (a3 : Int) (hpr1 : Kh[pr1]? = some (.inl 4)) (hye2 : Kh[ye2]? = some (.inl 8)) (σ : Sg) : MC l Kh Ph yX10_readOrder cX10_readOrder 4 3 4 [.inr (.inr 5), .inr (.inr pr1), .inr (.inr ye2), .inl a3] σ (YR_readOrder pr1 ye2 a3 σ) := by
  refine mc_of (by decide) (Nat.le_of_ble_eq_true rfl) ?_
  change G l Kh Ph RX10 cX10_readOrder 4 3 4 0 [some (.inr (.inr 5)), some (.inr (.inr pr1)), some (.inr (.inr ye2)), some (.inl a3)] [] σ (YR_readOrder pr1 ye2 a3 σ)
  unfold YR_readOrder
  refine g_iload_n dX10_readOrder_0 rfl rfl ?_
  refine g_tsw (td := 129) [60, 78, 86, 129, 93, 129, 129, 100, 129, 129, 69] dX10_readOrder_1 (by decide) rfl (And.intro ?_ (And.intro ?_ (And.intro ?_ (And.intro ?_ (And.intro ?_ (And.intro ?_ (And.intro ?_ (And.intro ?_ (And.intro ?_ (And.intro ?_ (And.intro ?_ trivial))))))))))) ?_
  · refine g_aload_n dX10_readOrder_60 rfl rfl ?_
    refine g_aload_n dX10_readOrder_61 rfl rfl ?_
    refine g_iload_n dX10_readOrder_62 rfl rfl ?_
    refine g_bipush dX10_readOrder_63 (by decide) ?_
    refine g_calls3 (st := []) mw_X10_readCount lk_RX10_79 (ok_YR_readCount ye2 a3 20 hye2 σ) (Nat.le_of_ble_eq_true rfl) rfl rfl (Nat.le_of_ble_eq_true rfl) dX10_readOrder_65 ?_
    intro r1 s2
    exact g_zret dX10_readOrder_68
  · refine g_aload_n dX10_readOrder_78 rfl rfl ?_
    refine g_aload_n dX10_readOrder_79 rfl rfl ?_
    refine g_aload_n dX10_readOrder_80 rfl rfl ?_
    refine g_iload_n dX10_readOrder_81 rfl rfl ?_
    refine g_calls3 (st := []) mw_X10_readPersonAndWord lk_RX10_83 (ok_YR_readPersonAndWord pr1 ye2 a3 hpr1 hye2 σ) (Nat.le_of_ble_eq_true rfl) rfl rfl (Nat.le_of_ble_eq_true rfl) dX10_readOrder_82 ?_
    intro r3 s4
    exact g_zret dX10_readOrder_85
  · refine g_aload_n dX10_readOrder_86 rfl rfl ?_
    refine g_aload_n dX10_readOrder_87 rfl rfl ?_
    refine g_aload_n dX10_readOrder_88 rfl rfl ?_
    refine g_calls3 (st := []) mw_X10_readSaying lk_RX10_86 (ok_YR_readSaying pr1 ye2 hpr1 hye2 σ) (Nat.le_of_ble_eq_true rfl) rfl rfl (Nat.le_of_ble_eq_true rfl) dX10_readOrder_89 ?_
    intro r5 s6
    exact g_zret dX10_readOrder_92
  · refine g_aload_n dX10_readOrder_129 rfl rfl ?_
    refine g_iload_n dX10_readOrder_130 rfl rfl ?_
    refine g_iconst dX10_readOrder_131 (by decide) ?_
    refine g_iconst dX10_readOrder_132 (by decide) ?_
    refine g_iconst dX10_readOrder_133 (by decide) ?_
    refine g_callv3 (st := []) 8 mw_X9_add lk_RX10_68 rfl hye2 (ok_Ye_add ye2 a3 0 0 0 hye2 σ) (Nat.le_of_ble_eq_true rfl) rfl rfl (Nat.le_of_ble_eq_true rfl) dX10_readOrder_134 ?_
    intro r7 s8
    exact g_zret dX10_readOrder_137
  · refine g_aload_n dX10_readOrder_93 rfl rfl ?_
    refine g_aload_n dX10_readOrder_94 rfl rfl ?_
    refine g_aload_n dX10_readOrder_95 rfl rfl ?_
    refine g_calls3 (st := []) mw_X10_readCutting lk_RX10_89 (ok_YR_readCutting pr1 ye2 hpr1 hye2 σ) (Nat.le_of_ble_eq_true rfl) rfl rfl (Nat.le_of_ble_eq_true rfl) dX10_readOrder_96 ?_
    intro r9 s10
    exact g_zret dX10_readOrder_99
  · refine g_aload_n dX10_readOrder_129 rfl rfl ?_
    refine g_iload_n dX10_readOrder_130 rfl rfl ?_
    refine g_iconst dX10_readOrder_131 (by decide) ?_
    refine g_iconst dX10_readOrder_132 (by decide) ?_
    refine g_iconst dX10_readOrder_133 (by decide) ?_
    refine g_callv3 (st := []) 8 mw_X9_add lk_RX10_68 rfl hye2 (ok_Ye_add ye2 a3 0 0 0 hye2 σ) (Nat.le_of_ble_eq_true rfl) rfl rfl (Nat.le_of_ble_eq_true rfl) dX10_readOrder_134 ?_
    intro r11 s12
    exact g_zret dX10_readOrder_137
  · refine g_aload_n dX10_readOrder_129 rfl rfl ?_
    refine g_iload_n dX10_readOrder_130 rfl rfl ?_
    refine g_iconst dX10_readOrder_131 (by decide) ?_
    refine g_iconst dX10_readOrder_132 (by decide) ?_
    refine g_iconst dX10_readOrder_133 (by decide) ?_
    refine g_callv3 (st := []) 8 mw_X9_add lk_RX10_68 rfl hye2 (ok_Ye_add ye2 a3 0 0 0 hye2 σ) (Nat.le_of_ble_eq_true rfl) rfl rfl (Nat.le_of_ble_eq_true rfl) dX10_readOrder_134 ?_
    intro r13 s14
    exact g_zret dX10_readOrder_137
  · refine g_aload_n dX10_readOrder_100 rfl rfl ?_
    refine g_callv0 (st := []) 6 mw_X7_keyNext lk_RX10_37 rfl kh_5 (ok_To_keyNext σ) (Nat.le_of_ble_eq_true rfl) rfl rfl (Nat.le_of_ble_eq_true rfl) dX10_readOrder_101 ?_
    intro r15 s16
    refine g_bipush dX10_readOrder_104 (by decide) ?_
    refine g_icmpne (tgt := 122) dX10_readOrder_106 (by decide) ?_ ?_
    · refine g_aload_n dX10_readOrder_109 rfl rfl ?_
      refine g_callv2 (st := []) 6 mw_X7_take lk_RX10_40 rfl kh_5 (ok_To_take s16) (Nat.le_of_ble_eq_true rfl) rfl rfl (Nat.le_of_ble_eq_true rfl) dX10_readOrder_110 ?_
      intro r17 s18
      refine g_aload_n dX10_readOrder_113 rfl rfl ?_
      refine g_aload_n dX10_readOrder_114 rfl rfl ?_
      refine g_aload_n dX10_readOrder_115 rfl rfl ?_
      refine g_bipush dX10_readOrder_116 (by decide) ?_
      refine g_calls3 (st := []) mw_X10_readPersonAndWord lk_RX10_83 (ok_YR_readPersonAndWord pr1 ye2 20 hpr1 hye2 s18) (Nat.le_of_ble_eq_true rfl) rfl rfl (Nat.le_of_ble_eq_true rfl) dX10_readOrder_118 ?_
      intro r19 s20
      exact g_zret dX10_readOrder_121
    · refine g_aload_n dX10_readOrder_122 rfl rfl ?_
      refine g_aload_n dX10_readOrder_123 rfl rfl ?_
      refine g_aload_n dX10_readOrder_124 rfl rfl ?_
      refine g_calls3 (st := []) mw_X10_readHairTest lk_RX10_92 (ok_YR_readHairTest pr1 ye2 hpr1 hye2 s16) (Nat.le_of_ble_eq_true rfl) rfl rfl (Nat.le_of_ble_eq_true rfl) dX10_readOrder_125 ?_
      intro r21 s22
      exact g_zret dX10_readOrder_128
  · refine g_aload_n dX10_readOrder_129 rfl rfl ?_
    refine g_iload_n dX10_readOrder_130 rfl rfl ?_
    refine g_iconst dX10_readOrder_131 (by decide) ?_
    refine g_iconst dX10_readOrder_132 (by decide) ?_
    refine g_iconst dX10_readOrder_133 (by decide) ?_
    refine g_callv3 (st := []) 8 mw_X9_add lk_RX10_68 rfl hye2 (ok_Ye_add ye2 a3 0 0 0 hye2 σ) (Nat.le_of_ble_eq_true rfl) rfl rfl (Nat.le_of_ble_eq_true rfl) dX10_readOrder_134 ?_
    intro r23 s24
    exact g_zret dX10_readOrder_137
  · refine g_aload_n dX10_readOrder_129 rfl rfl ?_
    refine g_iload_n dX10_readOrder_130 rfl rfl ?_
    refine g_iconst dX10_readOrder_131 (by decide) ?_
    refine g_iconst dX10_readOrder_132 (by decide) ?_
    refine g_iconst dX10_readOrder_133 (by decide) ?_
    refine g_callv3 (st := []) 8 mw_X9_add lk_RX10_68 rfl hye2 (ok_Ye_add ye2 a3 0 0 0 hye2 σ) (Nat.le_of_ble_eq_true rfl) rfl rfl (Nat.le_of_ble_eq_true rfl) dX10_readOrder_134 ?_
    intro r25 s26
    exact g_zret dX10_readOrder_137
  · refine g_aload_n dX10_readOrder_69 rfl rfl ?_
    refine g_aload_n dX10_readOrder_70 rfl rfl ?_
    refine g_iload_n dX10_readOrder_71 rfl rfl ?_
    refine g_bipush dX10_readOrder_72 (by decide) ?_
    refine g_calls3 (st := []) mw_X10_readCount lk_RX10_79 (ok_YR_readCount ye2 a3 99 hye2 σ) (Nat.le_of_ble_eq_true rfl) rfl rfl (Nat.le_of_ble_eq_true rfl) dX10_readOrder_74 ?_
    intro r27 s28
    exact g_zret dX10_readOrder_77
  · refine g_aload_n dX10_readOrder_129 rfl rfl ?_
    refine g_iload_n dX10_readOrder_130 rfl rfl ?_
    refine g_iconst dX10_readOrder_131 (by decide) ?_
    refine g_iconst dX10_readOrder_132 (by decide) ?_
    refine g_iconst dX10_readOrder_133 (by decide) ?_
    refine g_callv3 (st := []) 8 mw_X9_add lk_RX10_68 rfl hye2 (ok_Ye_add ye2 a3 0 0 0 hye2 σ) (Nat.le_of_ble_eq_true rfl) rfl rfl (Nat.le_of_ble_eq_true rfl) dX10_readOrder_134 ?_
    intro r29 s30
    exact g_zret dX10_readOrder_137
theorem dX10_readStep_0 : decode cX10_readStep 0 = .ok (.aload_n 0, 1) := by decide +kernel
theorem dX10_readStep_1 : decode cX10_readStep 1 = .ok (.invokevirtual 37, 3) := by decide +kernel
theorem dX10_readStep_4 : decode cX10_readStep 4 = .ok (.istore_n 3, 1) := by decide +kernel
theorem dX10_readStep_5 : decode cX10_readStep 5 = .ok (.iload_n 3, 1) := by decide +kernel
theorem dX10_readStep_6 : decode cX10_readStep 6 = .ok (.bipush 19, 2) := by decide +kernel
theorem dX10_readStep_8 : decode cX10_readStep 8 = .ok (.if_icmp .eq 9, 3) := by decide +kernel
theorem dX10_readStep_11 : decode cX10_readStep 11 = .ok (.iload_n 3, 1) := by decide +kernel
theorem dX10_readStep_12 : decode cX10_readStep 12 = .ok (.bipush 22, 2) := by decide +kernel
theorem dX10_readStep_14 : decode cX10_readStep 14 = .ok (.if_icmp .ne 7, 3) := by decide +kernel
theorem dX10_readStep_17 : decode cX10_readStep 17 = .ok (.iconst 1, 1) := by decide +kernel
theorem dX10_readStep_18 : decode cX10_readStep 18 = .ok (.goto 4, 3) := by decide +kernel
theorem dX10_readStep_21 : decode cX10_readStep 21 = .ok (.iconst 0, 1) := by decide +kernel
theorem dX10_readStep_22 : decode cX10_readStep 22 = .ok (.istore 4, 2) := by decide +kernel
theorem dX10_readStep_24 : decode cX10_readStep 24 = .ok (.iload_n 3, 1) := by decide +kernel
theorem dX10_readStep_25 : decode cX10_readStep 25 = .ok (.bipush 23, 2) := by decide +kernel
theorem dX10_readStep_27 : decode cX10_readStep 27 = .ok (.if_icmp .ne 20, 3) := by decide +kernel
theorem dX10_readStep_30 : decode cX10_readStep 30 = .ok (.aload_n 2, 1) := by decide +kernel
theorem dX10_readStep_31 : decode cX10_readStep 31 = .ok (.invokevirtual 26, 3) := by decide +kernel
theorem dX10_readStep_34 : decode cX10_readStep 34 = .ok (.ifCond .le 13, 3) := by decide +kernel
theorem dX10_readStep_37 : decode cX10_readStep 37 = .ok (.aload_n 0, 1) := by decide +kernel
theorem dX10_readStep_38 : decode cX10_readStep 38 = .ok (.invokevirtual 40, 3) := by decide +kernel
theorem dX10_readStep_41 : decode cX10_readStep 41 = .ok (.aload_n 0, 1) := by decide +kernel
theorem dX10_readStep_42 : decode cX10_readStep 42 = .ok (.aload_n 2, 1) := by decide +kernel
theorem dX10_readStep_43 : decode cX10_readStep 43 = .ok (.invokestatic 43, 3) := by decide +kernel
theorem dX10_readStep_46 : decode cX10_readStep 46 = .ok (.ireturn, 1) := by decide +kernel
theorem dX10_readStep_47 : decode cX10_readStep 47 = .ok (.iload 4, 2) := by decide +kernel
theorem dX10_readStep_49 : decode cX10_readStep 49 = .ok (.ifCond .ne 15, 3) := by decide +kernel
theorem dX10_readStep_52 : decode cX10_readStep 52 = .ok (.iload_n 3, 1) := by decide +kernel
theorem dX10_readStep_53 : decode cX10_readStep 53 = .ok (.invokestatic 47, 3) := by decide +kernel
theorem dX10_readStep_56 : decode cX10_readStep 56 = .ok (.ifCond .ne 8, 3) := by decide +kernel
theorem dX10_readStep_59 : decode cX10_readStep 59 = .ok (.aload_n 0, 1) := by decide +kernel
theorem dX10_readStep_60 : decode cX10_readStep 60 = .ok (.invokevirtual 30, 3) := by decide +kernel
theorem dX10_readStep_63 : decode cX10_readStep 63 = .ok (.ireturn, 1) := by decide +kernel
theorem dX10_readStep_64 : decode cX10_readStep 64 = .ok (.aload_n 0, 1) := by decide +kernel
theorem dX10_readStep_65 : decode cX10_readStep 65 = .ok (.invokevirtual 40, 3) := by decide +kernel
theorem dX10_readStep_68 : decode cX10_readStep 68 = .ok (.aload_n 2, 1) := by decide +kernel
theorem dX10_readStep_69 : decode cX10_readStep 69 = .ok (.getfield 51, 3) := by decide +kernel
theorem dX10_readStep_72 : decode cX10_readStep 72 = .ok (.bipush 30, 2) := by decide +kernel
theorem dX10_readStep_74 : decode cX10_readStep 74 = .ok (.if_icmp .lt 10, 3) := by decide +kernel
theorem dX10_readStep_77 : decode cX10_readStep 77 = .ok (.aload_n 0, 1) := by decide +kernel
theorem dX10_readStep_78 : decode cX10_readStep 78 = .ok (.bipush 6, 2) := by decide +kernel
theorem dX10_readStep_80 : decode cX10_readStep 80 = .ok (.invokevirtual 55, 3) := by decide +kernel
theorem dX10_readStep_83 : decode cX10_readStep 83 = .ok (.ireturn, 1) := by decide +kernel
theorem dX10_readStep_84 : decode cX10_readStep 84 = .ok (.iload 4, 2) := by decide +kernel
theorem dX10_readStep_86 : decode cX10_readStep 86 = .ok (.ifCond .eq 18, 3) := by decide +kernel
theorem dX10_readStep_89 : decode cX10_readStep 89 = .ok (.aload_n 2, 1) := by decide +kernel
theorem dX10_readStep_90 : decode cX10_readStep 90 = .ok (.invokevirtual 26, 3) := by decide +kernel
theorem dX10_readStep_93 : decode cX10_readStep 93 = .ok (.iconst 3, 1) := by decide +kernel
theorem dX10_readStep_94 : decode cX10_readStep 94 = .ok (.if_icmp .lt 10, 3) := by decide +kernel
theorem dX10_readStep_97 : decode cX10_readStep 97 = .ok (.aload_n 0, 1) := by decide +kernel
theorem dX10_readStep_98 : decode cX10_readStep 98 = .ok (.bipush 7, 2) := by decide +kernel
theorem dX10_readStep_100 : decode cX10_readStep 100 = .ok (.invokevirtual 55, 3) := by decide +kernel
theorem dX10_readStep_103 : decode cX10_readStep 103 = .ok (.ireturn, 1) := by decide +kernel
theorem dX10_readStep_104 : decode cX10_readStep 104 = .ok (.aload_n 0, 1) := by decide +kernel
theorem dX10_readStep_105 : decode cX10_readStep 105 = .ok (.aload_n 1, 1) := by decide +kernel
theorem dX10_readStep_106 : decode cX10_readStep 106 = .ok (.aload_n 2, 1) := by decide +kernel
theorem dX10_readStep_107 : decode cX10_readStep 107 = .ok (.iload_n 3, 1) := by decide +kernel
theorem dX10_readStep_108 : decode cX10_readStep 108 = .ok (.invokestatic 58, 3) := by decide +kernel
theorem dX10_readStep_111 : decode cX10_readStep 111 = .ok (.ifCond .eq 14, 3) := by decide +kernel
theorem dX10_readStep_114 : decode cX10_readStep 114 = .ok (.aload_n 0, 1) := by decide +kernel
theorem dX10_readStep_115 : decode cX10_readStep 115 = .ok (.invokevirtual 62, 3) := by decide +kernel
theorem dX10_readStep_118 : decode cX10_readStep 118 = .ok (.ifCond .eq 7, 3) := by decide +kernel
theorem dX10_readStep_121 : decode cX10_readStep 121 = .ok (.iconst 1, 1) := by decide +kernel
theorem dX10_readStep_122 : decode cX10_readStep 122 = .ok (.goto 4, 3) := by decide +kernel
theorem dX10_readStep_125 : decode cX10_readStep 125 = .ok (.iconst 0, 1) := by decide +kernel
theorem dX10_readStep_126 : decode cX10_readStep 126 = .ok (.ireturn, 1) := by decide +kernel
theorem mw_X10_readStep : MW yX10_readStep cX10_readStep 5 3 3 true := ⟨tm 980 (by decide +kernel) rfl, tm 253 (by decide +kernel) rfl, by decide, by decide, (by rw [if_pos rfl]; exact tm 979 (by decide +kernel) rfl)⟩
theorem lk_RX10_26 : LK RX10 26 yX9_depth := Or.inr ⟨"HairProvince", tm 982 (by decide +kernel) rfl⟩
theorem lk_RX10_43 : LK RX10 43 yX10_readEnd := Or.inl (tm 990 (by decide +kernel) rfl)
theorem lk_RX10_47 : LK RX10 47 yX10_isPlain := Or.inl (tm 1011 (by decide +kernel) rfl)
theorem lk_RX10_55 : LK RX10 55 yX7_reject := Or.inr ⟨"HairProvince", tm 1015 (by decide +kernel) rfl⟩
theorem lk_RX10_58 : LK RX10 58 yX10_readOrder := Or.inl (tm 1016 (by decide +kernel) rfl)
theorem fl_RX10_51 : FL RX10 51 8 6 := ⟨_, _, _, _, cw_8, by decide, Or.inl (by decide), Or.inr (by decide), Or.inr ⟨"HairProvince", tm 511 (by decide +kernel) rfl⟩⟩
def YR_readStep_J104 (pr1 : Nat) (ye2 : Nat) (v3 : Int) (σ : Sg) : Rs := (bd (YR_readOrder pr1 ye2 v3 σ) (fun r15 s16 => (if r15 = 0 then (some (0, s16)) else (bd (To_takeClosing s16) (fun r17 s18 => (if r17 = 0 then (some (0, s18)) else (some (1, s18))))))))
theorem ok_YR_readStep_J104 (pr1 : Nat) (ye2 : Nat) (v3 : Int) (hpr1 : Kh[pr1]? = some (.inl 4)) (hye2 : Kh[ye2]? = some (.inl 8)) : ∀ (σ : Sg), G l Kh Ph RX10 cX10_readStep 5 3 5 104 [some (.inr (.inr 5)), some (.inr (.inr pr1)), some (.inr (.inr ye2)), some (.inl v3), none] [] σ (YR_readStep_J104 pr1 ye2 v3  σ) := by
  intro σ
  unfold YR_readStep_J104
  refine g_aload_n dX10_readStep_104 rfl rfl ?_
  refine g_aload_n dX10_readStep_105 rfl rfl ?_
  refine g_aload_n dX10_readStep_106 rfl rfl ?_
  refine g_iload_n dX10_readStep_107 rfl rfl ?_
  refine g_calls3 (st := []) mw_X10_readOrder lk_RX10_58 (ok_YR_readOrder pr1 ye2 v3 hpr1 hye2 σ) (Nat.le_of_ble_eq_true rfl) rfl rfl (Nat.le_of_ble_eq_true rfl) dX10_readStep_108 ?_
  intro r15 s16
  refine g_ifeq (tgt := 125) dX10_readStep_111 (by decide) ?_ ?_
  · refine g_iconst dX10_readStep_125 (by decide) ?_
    exact g_zret0 dX10_readStep_126
  · refine g_aload_n dX10_readStep_114 rfl rfl ?_
    refine g_callv3 (st := []) 6 mw_X7_takeClosing lk_RX10_62 rfl kh_5 (ok_To_takeClosing s16) (Nat.le_of_ble_eq_true rfl) rfl rfl (Nat.le_of_ble_eq_true rfl) dX10_readStep_115 ?_
    intro r17 s18
    refine g_ifeq (tgt := 125) dX10_readStep_118 (by decide) ?_ ?_
    · refine g_iconst dX10_readStep_125 (by decide) ?_
      exact g_zret0 dX10_readStep_126
    · refine g_iconst dX10_readStep_121 (by decide) ?_
      refine g_goto (tgt := 126) dX10_readStep_122 (by decide) ?_
      exact g_zret1 dX10_readStep_126
def YR_readStep_J64 (pr1 : Nat) (ye2 : Nat) (v3 : Int) (v4 : Int) (σ : Sg) : Rs := (bd (To_take σ) (fun r13 s14 => (if (s14 ye2 6) < 30 then (if v4 = 0 then (YR_readStep_J104 pr1 ye2 v3 s14) else (bd (Ye_depth ye2 s14) (fun r19 s20 => (if r19 < 3 then (YR_readStep_J104 pr1 ye2 v3 s20) else (bd (To_reject 7 s20) (fun r21 s22 => (zb r21 (some (r21, s22))))))))) else (bd (To_reject 6 s14) (fun r23 s24 => (zb r23 (some (r23, s24))))))))
theorem ok_YR_readStep_J64 (pr1 : Nat) (ye2 : Nat) (v3 : Int) (v4 : Int) (hpr1 : Kh[pr1]? = some (.inl 4)) (hye2 : Kh[ye2]? = some (.inl 8)) : ∀ (σ : Sg), G l Kh Ph RX10 cX10_readStep 5 3 5 64 [some (.inr (.inr 5)), some (.inr (.inr pr1)), some (.inr (.inr ye2)), some (.inl v3), some (.inl v4)] [] σ (YR_readStep_J64 pr1 ye2 v3 v4  σ) := by
  intro σ
  unfold YR_readStep_J64
  refine g_aload_n dX10_readStep_64 rfl rfl ?_
  refine g_callv2 (st := []) 6 mw_X7_take lk_RX10_40 rfl kh_5 (ok_To_take σ) (Nat.le_of_ble_eq_true rfl) rfl rfl (Nat.le_of_ble_eq_true rfl) dX10_readStep_65 ?_
  intro r13 s14
  refine g_aload_n dX10_readStep_68 rfl rfl ?_
  refine g_geti fl_RX10_51 hye2 (by decide) dX10_readStep_69 ?_
  refine g_bipush dX10_readStep_72 (by decide) ?_
  refine g_icmplt (tgt := 84) dX10_readStep_74 (by decide) ?_ ?_
  · refine g_iload dX10_readStep_84 rfl ?_
    refine g_ifeq (tgt := 104) dX10_readStep_86 (by decide) ?_ ?_
    · refine (g_weak [true, true, true, true, false] (ok_YR_readStep_J104 pr1 ye2 v3 hpr1 hye2 s14))
    · refine g_aload_n dX10_readStep_89 rfl rfl ?_
      refine g_callv0 (st := []) 8 mw_X9_depth lk_RX10_26 rfl hye2 (ok_Ye_depth ye2 hye2 s14) (Nat.le_of_ble_eq_true rfl) rfl rfl (Nat.le_of_ble_eq_true rfl) dX10_readStep_90 ?_
      intro r19 s20
      refine g_iconst dX10_readStep_93 (by decide) ?_
      refine g_icmplt (tgt := 104) dX10_readStep_94 (by decide) ?_ ?_
      · refine (g_weak [true, true, true, true, false] (ok_YR_readStep_J104 pr1 ye2 v3 hpr1 hye2 s20))
      · refine g_aload_n dX10_readStep_97 rfl rfl ?_
        refine g_bipush dX10_readStep_98 (by decide) ?_
        refine g_callv3 (st := []) 6 mw_X7_reject lk_RX10_55 rfl kh_5 (ok_To_reject 7 s20) (Nat.le_of_ble_eq_true rfl) rfl rfl (Nat.le_of_ble_eq_true rfl) dX10_readStep_100 ?_
        intro r21 s22
        exact g_zret dX10_readStep_103
  · refine g_aload_n dX10_readStep_77 rfl rfl ?_
    refine g_bipush dX10_readStep_78 (by decide) ?_
    refine g_callv3 (st := []) 6 mw_X7_reject lk_RX10_55 rfl kh_5 (ok_To_reject 6 s14) (Nat.le_of_ble_eq_true rfl) rfl rfl (Nat.le_of_ble_eq_true rfl) dX10_readStep_80 ?_
    intro r23 s24
    exact g_zret dX10_readStep_83
def YR_readStep_J47 (pr1 : Nat) (ye2 : Nat) (v3 : Int) (v4 : Int) (σ : Sg) : Rs := (if v4 = 0 then (bd (YR_isPlain v3 σ) (fun r9 s10 => (if r9 = 0 then (bd (To_misfit s10) (fun r11 s12 => (zb r11 (some (r11, s12))))) else (YR_readStep_J64 pr1 ye2 v3 v4 s10)))) else (YR_readStep_J64 pr1 ye2 v3 v4 σ))
theorem ok_YR_readStep_J47 (pr1 : Nat) (ye2 : Nat) (v3 : Int) (v4 : Int) (hpr1 : Kh[pr1]? = some (.inl 4)) (hye2 : Kh[ye2]? = some (.inl 8)) : ∀ (σ : Sg), G l Kh Ph RX10 cX10_readStep 5 3 5 47 [some (.inr (.inr 5)), some (.inr (.inr pr1)), some (.inr (.inr ye2)), some (.inl v3), some (.inl v4)] [] σ (YR_readStep_J47 pr1 ye2 v3 v4  σ) := by
  intro σ
  unfold YR_readStep_J47
  refine g_iload dX10_readStep_47 rfl ?_
  refine g_ifne (tgt := 64) dX10_readStep_49 (by decide) ?_ ?_
  · refine g_iload_n dX10_readStep_52 rfl rfl ?_
    refine g_calls3 (st := []) mw_X10_isPlain lk_RX10_47 (ok_YR_isPlain v3 σ) (Nat.le_of_ble_eq_true rfl) rfl rfl (Nat.le_of_ble_eq_true rfl) dX10_readStep_53 ?_
    intro r9 s10
    refine g_ifne (tgt := 64) dX10_readStep_56 (by decide) ?_ ?_
    · refine g_aload_n dX10_readStep_59 rfl rfl ?_
      refine g_callv3 (st := []) 6 mw_X7_misfit lk_RX10_30 rfl kh_5 (ok_To_misfit s10) (Nat.le_of_ble_eq_true rfl) rfl rfl (Nat.le_of_ble_eq_true rfl) dX10_readStep_60 ?_
      intro r11 s12
      exact g_zret dX10_readStep_63
    · refine (ok_YR_readStep_J64 pr1 ye2 v3 v4 hpr1 hye2 s10)
  · refine (ok_YR_readStep_J64 pr1 ye2 v3 v4 hpr1 hye2 σ)
def YR_readStep_J22 (pr1 : Nat) (ye2 : Nat) (v3 : Int) (t0 : Int) (σ : Sg) : Rs := (if v3 = 23 then (bd (Ye_depth ye2 σ) (fun r3 s4 => (if 0 < r3 then (bd (To_take s4) (fun r5 s6 => (bd (YR_readEnd ye2 s6) (fun r7 s8 => (zb r7 (some (r7, s8))))))) else (YR_readStep_J47 pr1 ye2 v3 t0 s4)))) else (YR_readStep_J47 pr1 ye2 v3 t0 σ))
theorem ok_YR_readStep_J22 (pr1 : Nat) (ye2 : Nat) (v3 : Int) (hpr1 : Kh[pr1]? = some (.inl 4)) (hye2 : Kh[ye2]? = some (.inl 8)) : ∀ (t0 : Int) (σ : Sg), G l Kh Ph RX10 cX10_readStep 5 3 5 22 [some (.inr (.inr 5)), some (.inr (.inr pr1)), some (.inr (.inr ye2)), some (.inl v3), none] [.inl t0] σ (YR_readStep_J22 pr1 ye2 v3 t0 σ) := by
  intro t0 σ
  unfold YR_readStep_J22
  refine g_istore (lv' := [some (.inr (.inr 5)), some (.inr (.inr pr1)), some (.inr (.inr ye2)), some (.inl v3), some (.inl t0)]) dX10_readStep_22 (Nat.le_of_ble_eq_true rfl) rfl ?_
  refine g_iload_n dX10_readStep_24 rfl rfl ?_
  refine g_bipush dX10_readStep_25 (by decide) ?_
  refine g_icmpne (tgt := 47) dX10_readStep_27 (by decide) ?_ ?_
  · refine g_aload_n dX10_readStep_30 rfl rfl ?_
    refine g_callv0 (st := []) 8 mw_X9_depth lk_RX10_26 rfl hye2 (ok_Ye_depth ye2 hye2 σ) (Nat.le_of_ble_eq_true rfl) rfl rfl (Nat.le_of_ble_eq_true rfl) dX10_readStep_31 ?_
    intro r3 s4
    refine g_ifle (tgt := 47) dX10_readStep_34 (by decide) ?_ ?_
    · refine g_aload_n dX10_readStep_37 rfl rfl ?_
      refine g_callv2 (st := []) 6 mw_X7_take lk_RX10_40 rfl kh_5 (ok_To_take s4) (Nat.le_of_ble_eq_true rfl) rfl rfl (Nat.le_of_ble_eq_true rfl) dX10_readStep_38 ?_
      intro r5 s6
      refine g_aload_n dX10_readStep_41 rfl rfl ?_
      refine g_aload_n dX10_readStep_42 rfl rfl ?_
      refine g_calls3 (st := []) mw_X10_readEnd lk_RX10_43 (ok_YR_readEnd ye2 hye2 s6) (Nat.le_of_ble_eq_true rfl) rfl rfl (Nat.le_of_ble_eq_true rfl) dX10_readStep_43 ?_
      intro r7 s8
      exact g_zret dX10_readStep_46
    · refine (ok_YR_readStep_J47 pr1 ye2 v3 t0 hpr1 hye2 s4)
  · refine (ok_YR_readStep_J47 pr1 ye2 v3 t0 hpr1 hye2 σ)
def YR_readStep_J17 (pr1 : Nat) (ye2 : Nat) (v3 : Int) (σ : Sg) : Rs := (YR_readStep_J22 pr1 ye2 v3 1 σ)
theorem ok_YR_readStep_J17 (pr1 : Nat) (ye2 : Nat) (v3 : Int) (hpr1 : Kh[pr1]? = some (.inl 4)) (hye2 : Kh[ye2]? = some (.inl 8)) : ∀ (σ : Sg), G l Kh Ph RX10 cX10_readStep 5 3 5 17 [some (.inr (.inr 5)), some (.inr (.inr pr1)), some (.inr (.inr ye2)), some (.inl v3), none] [] σ (YR_readStep_J17 pr1 ye2 v3  σ) := by
  intro σ
  unfold YR_readStep_J17
  refine g_iconst dX10_readStep_17 (by decide) ?_
  refine g_goto (tgt := 22) dX10_readStep_18 (by decide) ?_
  refine (ok_YR_readStep_J22 pr1 ye2 v3 hpr1 hye2 1 σ)
def YR_readStep (pr1 : Nat) (ye2 : Nat) (σ : Sg) : Rs := (bd (To_keyNext σ) (fun r1 s2 => (if r1 = 19 then (YR_readStep_J17 pr1 ye2 r1 s2) else (if r1 = 22 then (YR_readStep_J17 pr1 ye2 r1 s2) else (YR_readStep_J22 pr1 ye2 r1 0 s2)))))
theorem ok_YR_readStep (pr1 : Nat) (ye2 : Nat) (hpr1 : Kh[pr1]? = some (.inl 4)) (hye2 : Kh[ye2]? = some (.inl 8)) (σ : Sg) : MC l Kh Ph yX10_readStep cX10_readStep 5 3 5 [.inr (.inr 5), .inr (.inr pr1), .inr (.inr ye2)] σ (YR_readStep pr1 ye2 σ) := by
  refine mc_of (by decide) (Nat.le_of_ble_eq_true rfl) ?_
  change G l Kh Ph RX10 cX10_readStep 5 3 5 0 [some (.inr (.inr 5)), some (.inr (.inr pr1)), some (.inr (.inr ye2)), none, none] [] σ (YR_readStep pr1 ye2 σ)
  unfold YR_readStep
  refine g_aload_n dX10_readStep_0 rfl rfl ?_
  refine g_callv0 (st := []) 6 mw_X7_keyNext lk_RX10_37 rfl kh_5 (ok_To_keyNext σ) (Nat.le_of_ble_eq_true rfl) rfl rfl (Nat.le_of_ble_eq_true rfl) dX10_readStep_1 ?_
  intro r1 s2
  refine g_istore_n (lv' := [some (.inr (.inr 5)), some (.inr (.inr pr1)), some (.inr (.inr ye2)), some (.inl r1), none]) dX10_readStep_4 rfl (Nat.le_of_ble_eq_true rfl) rfl ?_
  refine g_iload_n dX10_readStep_5 rfl rfl ?_
  refine g_bipush dX10_readStep_6 (by decide) ?_
  refine g_icmpeq (tgt := 17) dX10_readStep_8 (by decide) ?_ ?_
  · refine (ok_YR_readStep_J17 pr1 ye2 r1 hpr1 hye2 s2)
  · refine g_iload_n dX10_readStep_11 rfl rfl ?_
    refine g_bipush dX10_readStep_12 (by decide) ?_
    refine g_icmpne (tgt := 21) dX10_readStep_14 (by decide) ?_ ?_
    · refine (ok_YR_readStep_J17 pr1 ye2 r1 hpr1 hye2 s2)
    · refine g_iconst dX10_readStep_21 (by decide) ?_
      refine (ok_YR_readStep_J22 pr1 ye2 r1 hpr1 hye2 0 s2)
theorem dX10_readAll_0 : decode cX10_readAll 0 = .ok (.aload_n 2, 1) := by decide +kernel
theorem dX10_readAll_1 : decode cX10_readAll 1 = .ok (.invokevirtual 9, 3) := by decide +kernel
theorem dX10_readAll_4 : decode cX10_readAll 4 = .ok (.iconst 0, 1) := by decide +kernel
theorem dX10_readAll_5 : decode cX10_readAll 5 = .ok (.istore_n 3, 1) := by decide +kernel
theorem dX10_readAll_6 : decode cX10_readAll 6 = .ok (.iload_n 3, 1) := by decide +kernel
theorem dX10_readAll_7 : decode cX10_readAll 7 = .ok (.sipush 300, 3) := by decide +kernel
theorem dX10_readAll_10 : decode cX10_readAll 10 = .ok (.if_icmp .ge 27, 3) := by decide +kernel
theorem dX10_readAll_13 : decode cX10_readAll 13 = .ok (.aload_n 0, 1) := by decide +kernel
theorem dX10_readAll_14 : decode cX10_readAll 14 = .ok (.invokevirtual 14, 3) := by decide +kernel
theorem dX10_readAll_17 : decode cX10_readAll 17 = .ok (.ifCond .ne 20, 3) := by decide +kernel
theorem dX10_readAll_20 : decode cX10_readAll 20 = .ok (.aload_n 0, 1) := by decide +kernel
theorem dX10_readAll_21 : decode cX10_readAll 21 = .ok (.aload_n 1, 1) := by decide +kernel
theorem dX10_readAll_22 : decode cX10_readAll 22 = .ok (.aload_n 2, 1) := by decide +kernel
theorem dX10_readAll_23 : decode cX10_readAll 23 = .ok (.invokestatic 20, 3) := by decide +kernel
theorem dX10_readAll_26 : decode cX10_readAll 26 = .ok (.ifCond .ne 5, 3) := by decide +kernel
theorem dX10_readAll_29 : decode cX10_readAll 29 = .ok (.iconst 0, 1) := by decide +kernel
theorem dX10_readAll_30 : decode cX10_readAll 30 = .ok (.ireturn, 1) := by decide +kernel
theorem dX10_readAll_31 : decode cX10_readAll 31 = .ok (.iinc 3 1, 3) := by decide +kernel
theorem dX10_readAll_34 : decode cX10_readAll 34 = .ok (.goto (-28), 3) := by decide +kernel
theorem dX10_readAll_37 : decode cX10_readAll 37 = .ok (.aload_n 2, 1) := by decide +kernel
theorem dX10_readAll_38 : decode cX10_readAll 38 = .ok (.invokevirtual 26, 3) := by decide +kernel
theorem dX10_readAll_41 : decode cX10_readAll 41 = .ok (.ifCond .le 8, 3) := by decide +kernel
theorem dX10_readAll_44 : decode cX10_readAll 44 = .ok (.aload_n 0, 1) := by decide +kernel
theorem dX10_readAll_45 : decode cX10_readAll 45 = .ok (.invokevirtual 30, 3) := by decide +kernel
theorem dX10_readAll_48 : decode cX10_readAll 48 = .ok (.ireturn, 1) := by decide +kernel
theorem dX10_readAll_49 : decode cX10_readAll 49 = .ok (.aload_n 2, 1) := by decide +kernel
theorem dX10_readAll_50 : decode cX10_readAll 50 = .ok (.iconst 1, 1) := by decide +kernel
theorem dX10_readAll_51 : decode cX10_readAll 51 = .ok (.putfield 33, 3) := by decide +kernel
theorem dX10_readAll_54 : decode cX10_readAll 54 = .ok (.iconst 1, 1) := by decide +kernel
theorem dX10_readAll_55 : decode cX10_readAll 55 = .ok (.ireturn, 1) := by decide +kernel
theorem mw_X10_readAll : MW yX10_readAll cX10_readAll 4 3 3 true := ⟨tm 975 (by decide +kernel) rfl, tm 253 (by decide +kernel) rfl, by decide, by decide, (by rw [if_pos rfl]; exact tm 974 (by decide +kernel) rfl)⟩
theorem lk_RX10_9 : LK RX10 9 yX9_clear := Or.inr ⟨"HairProvince", tm 976 (by decide +kernel) rfl⟩
theorem lk_RX10_14 : LK RX10 14 yX7_isEnd := Or.inr ⟨"HairProvince", tm 977 (by decide +kernel) rfl⟩
theorem lk_RX10_20 : LK RX10 20 yX10_readStep := Or.inl (tm 978 (by decide +kernel) rfl)
theorem fl_RX10_33 : FL RX10 33 8 7 := ⟨_, _, _, _, cw_8, by decide, Or.inr (Or.inr (Or.inl (by decide))), Or.inr (by decide), Or.inr ⟨"HairProvince", tm 514 (by decide +kernel) rfl⟩⟩
def YR_readAll_L6 (pr1 : Nat) (ye2 : Nat) (k37 : Sg → Rs) : Nat → Int → Sg → Rs
  | 0, _, _ => none
  | n + 1, v3, σ => (if v3 < 300 then (bd (To_isEnd σ) (fun r3 s4 => (if r3 = 0 then (bd (YR_readStep pr1 ye2 s4) (fun r5 s6 => (if r5 = 0 then (some (0, s6)) else (nm (w32 (v3 + 1)) (fun x7 => (YR_readAll_L6 pr1 ye2 k37 n x7 s6)))))) else (k37 s4)))) else (k37 σ))
theorem ok_YR_readAll_L6 (pr1 : Nat) (ye2 : Nat) (hpr1 : Kh[pr1]? = some (.inl 4)) (hye2 : Kh[ye2]? = some (.inl 8)) (k37 : Sg → Rs) (hk37 : ∀ (σ : Sg), G l Kh Ph RX10 cX10_readAll 4 3 6 37 [some (.inr (.inr 5)), none, some (.inr (.inr ye2)), none] [] σ (k37 σ)) : ∀ (n : Nat) (v3 : Int) (σ : Sg), G l Kh Ph RX10 cX10_readAll 4 3 6 6 [some (.inr (.inr 5)), some (.inr (.inr pr1)), some (.inr (.inr ye2)), some (.inl v3)] [] σ (YR_readAll_L6 pr1 ye2 k37 n v3 σ) := by
  intro n
  induction n with
  | zero => intros; exact G.none_
  | succ n ih =>
    intro v3 σ
    rw [YR_readAll_L6]
    refine g_iload_n dX10_readAll_6 rfl rfl ?_
    refine g_sipush dX10_readAll_7 (by decide) ?_
    refine g_icmpge (tgt := 37) dX10_readAll_10 (by decide) ?_ ?_
    · refine g_aload_n dX10_readAll_13 rfl rfl ?_
      refine g_callv3 (st := []) 6 mw_X7_isEnd lk_RX10_14 rfl kh_5 (ok_To_isEnd σ) (Nat.le_of_ble_eq_true rfl) rfl rfl (Nat.le_of_ble_eq_true rfl) dX10_readAll_14 ?_
      intro r3 s4
      refine g_ifne (tgt := 37) dX10_readAll_17 (by decide) ?_ ?_
      · refine g_aload_n dX10_readAll_20 rfl rfl ?_
        refine g_aload_n dX10_readAll_21 rfl rfl ?_
        refine g_aload_n dX10_readAll_22 rfl rfl ?_
        refine g_calls3 (st := []) mw_X10_readStep lk_RX10_20 (ok_YR_readStep pr1 ye2 hpr1 hye2 s4) (Nat.le_of_ble_eq_true rfl) rfl rfl (Nat.le_of_ble_eq_true rfl) dX10_readAll_23 ?_
        intro r5 s6
        refine g_ifne (tgt := 31) dX10_readAll_26 (by decide) ?_ ?_
        · refine g_iconst dX10_readAll_29 (by decide) ?_
          exact g_zret0 dX10_readAll_30
        · refine n_iinc (fun x7 => [some (.inr (.inr 5)), some (.inr (.inr pr1)), some (.inr (.inr ye2)), some (.inl x7)]) dX10_readAll_31 rfl (Nat.le_of_ble_eq_true rfl) (fun _ => rfl) ?_
          intro x7
          refine g_goto (tgt := 6) dX10_readAll_34 (by decide) ?_
          exact (ih x7 s6)
      · exact (g_weak [true, false, true, false] (hk37 s4))
    · exact (g_weak [true, false, true, false] (hk37 σ))
def YR_readAll_J37 (ye2 : Nat) (σ : Sg) : Rs := (bd (Ye_depth ye2 σ) (fun r9 s10 => (if 0 < r9 then (bd (To_misfit s10) (fun r11 s12 => (zb r11 (some (r11, s12))))) else (zb 1 (nm (up_s s10 ye2 7 1) (fun s13 => (some (1, s13))))))))
theorem ok_YR_readAll_J37 (ye2 : Nat) (hye2 : Kh[ye2]? = some (.inl 8)) : ∀ (σ : Sg), G l Kh Ph RX10 cX10_readAll 4 3 6 37 [some (.inr (.inr 5)), none, some (.inr (.inr ye2)), none] [] σ (YR_readAll_J37 ye2  σ) := by
  intro σ
  unfold YR_readAll_J37
  refine g_aload_n dX10_readAll_37 rfl rfl ?_
  refine g_callv0 (st := []) 8 mw_X9_depth lk_RX10_26 rfl hye2 (ok_Ye_depth ye2 hye2 σ) (Nat.le_of_ble_eq_true rfl) rfl rfl (Nat.le_of_ble_eq_true rfl) dX10_readAll_38 ?_
  intro r9 s10
  refine g_ifle (tgt := 49) dX10_readAll_41 (by decide) ?_ ?_
  · refine g_aload_n dX10_readAll_44 rfl rfl ?_
    refine g_callv3 (st := []) 6 mw_X7_misfit lk_RX10_30 rfl kh_5 (ok_To_misfit s10) (Nat.le_of_ble_eq_true rfl) rfl rfl (Nat.le_of_ble_eq_true rfl) dX10_readAll_45 ?_
    intro r11 s12
    exact g_zret dX10_readAll_48
  · refine g_aload_n dX10_readAll_49 rfl rfl ?_
    refine g_iconst dX10_readAll_50 (by decide) ?_
    refine g_putz fl_RX10_33 hye2 (by decide) dX10_readAll_51 ?_
    intro s13
    refine g_iconst dX10_readAll_54 (by decide) ?_
    exact g_zret1 dX10_readAll_55
def YR_readAll (pr1 : Nat) (ye2 : Nat) (σ : Sg) : Rs := (bd (Ye_clear ye2 σ) (fun r1 s2 => (YR_readAll_L6 pr1 ye2 (fun s8 => (YR_readAll_J37 ye2 s8)) fu 0 s2)))
theorem ok_YR_readAll (pr1 : Nat) (ye2 : Nat) (hpr1 : Kh[pr1]? = some (.inl 4)) (hye2 : Kh[ye2]? = some (.inl 8)) (σ : Sg) : MC l Kh Ph yX10_readAll cX10_readAll 4 3 6 [.inr (.inr 5), .inr (.inr pr1), .inr (.inr ye2)] σ (YR_readAll pr1 ye2 σ) := by
  refine mc_of (by decide) (Nat.le_of_ble_eq_true rfl) ?_
  change G l Kh Ph RX10 cX10_readAll 4 3 6 0 [some (.inr (.inr 5)), some (.inr (.inr pr1)), some (.inr (.inr ye2)), none] [] σ (YR_readAll pr1 ye2 σ)
  unfold YR_readAll
  refine g_aload_n dX10_readAll_0 rfl rfl ?_
  refine g_callv2 (st := []) 8 mw_X9_clear lk_RX10_9 rfl hye2 (ok_Ye_clear ye2 hye2 σ) (Nat.le_of_ble_eq_true rfl) rfl rfl (Nat.le_of_ble_eq_true rfl) dX10_readAll_1 ?_
  intro r1 s2
  refine g_iconst dX10_readAll_4 (by decide) ?_
  refine g_istore_n (lv' := [some (.inr (.inr 5)), some (.inr (.inr pr1)), some (.inr (.inr ye2)), some (.inl 0)]) dX10_readAll_5 rfl (Nat.le_of_ble_eq_true rfl) rfl ?_
  refine (ok_YR_readAll_L6 pr1 ye2 hpr1 hye2 _ ?_ fu 0 s2)
  · intro s8
    refine (ok_YR_readAll_J37 ye2 hye2 s8)
theorem dX11_years_0 : decode cX11_years 0 = .ok (.iload_n 1, 1) := by decide +kernel
theorem dX11_years_1 : decode cX11_years 1 = .ok (.iconst 0, 1) := by decide +kernel
theorem dX11_years_2 : decode cX11_years 2 = .ok (.aload_n 0, 1) := by decide +kernel
theorem dX11_years_3 : decode cX11_years 3 = .ok (.getfield 36, 3) := by decide +kernel
theorem dX11_years_6 : decode cX11_years 6 = .ok (.getfield 164, 3) := by decide +kernel
theorem dX11_years_9 : decode cX11_years 9 = .ok (.sipush 300, 3) := by decide +kernel
theorem dX11_years_12 : decode cX11_years 12 = .ok (.invokestatic 197, 3) := by decide +kernel
theorem dX11_years_15 : decode cX11_years 15 = .ok (.invokestatic 135, 3) := by decide +kernel
theorem dX11_years_18 : decode cX11_years 18 = .ok (.ifCond .ne 9, 3) := by decide +kernel
theorem dX11_years_21 : decode cX11_years 21 = .ok (.aload_n 0, 1) := by decide +kernel
theorem dX11_years_22 : decode cX11_years 22 = .ok (.iconst 5, 1) := by decide +kernel
theorem dX11_years_23 : decode cX11_years 23 = .ok (.invokevirtual 147, 3) := by decide +kernel
theorem dX11_years_26 : decode cX11_years 26 = .ok (.ireturn, 1) := by decide +kernel
theorem dX11_years_27 : decode cX11_years 27 = .ok (.aload_n 0, 1) := by decide +kernel
theorem dX11_years_28 : decode cX11_years 28 = .ok (.getfield 36, 3) := by decide +kernel
theorem dX11_years_31 : decode cX11_years 31 = .ok (.iload_n 1, 1) := by decide +kernel
theorem dX11_years_32 : decode cX11_years 32 = .ok (.invokevirtual 171, 3) := by decide +kernel
theorem dX11_years_35 : decode cX11_years 35 = .ok (.aload_n 0, 1) := by decide +kernel
theorem dX11_years_36 : decode cX11_years 36 = .ok (.getfield 36, 3) := by decide +kernel
theorem dX11_years_39 : decode cX11_years 39 = .ok (.aload_n 0, 1) := by decide +kernel
theorem dX11_years_40 : decode cX11_years 40 = .ok (.getfield 43, 3) := by decide +kernel
theorem dX11_years_43 : decode cX11_years 43 = .ok (.aload_n 0, 1) := by decide +kernel
theorem dX11_years_44 : decode cX11_years 44 = .ok (.getfield 57, 3) := by decide +kernel
theorem dX11_years_47 : decode cX11_years 47 = .ok (.invokestatic 202, 3) := by decide +kernel
theorem dX11_years_50 : decode cX11_years 50 = .ok (.istore_n 2, 1) := by decide +kernel
theorem dX11_years_51 : decode cX11_years 51 = .ok (.aload_n 0, 1) := by decide +kernel
theorem dX11_years_52 : decode cX11_years 52 = .ok (.iload_n 2, 1) := by decide +kernel
theorem dX11_years_53 : decode cX11_years 53 = .ok (.invokevirtual 180, 3) := by decide +kernel
theorem dX11_years_56 : decode cX11_years 56 = .ok (.iload_n 2, 1) := by decide +kernel
theorem dX11_years_57 : decode cX11_years 57 = .ok (.ifCond .ne 10, 3) := by decide +kernel
theorem dX11_years_60 : decode cX11_years 60 = .ok (.aload_n 0, 1) := by decide +kernel
theorem dX11_years_61 : decode cX11_years 61 = .ok (.bipush 10, 2) := by decide +kernel
theorem dX11_years_63 : decode cX11_years 63 = .ok (.invokevirtual 147, 3) := by decide +kernel
theorem dX11_years_66 : decode cX11_years 66 = .ok (.ireturn, 1) := by decide +kernel
theorem dX11_years_67 : decode cX11_years 67 = .ok (.aload_n 0, 1) := by decide +kernel
theorem dX11_years_68 : decode cX11_years 68 = .ok (.getfield 53, 3) := by decide +kernel
theorem dX11_years_71 : decode cX11_years 71 = .ok (.aload_n 0, 1) := by decide +kernel
theorem dX11_years_72 : decode cX11_years 72 = .ok (.getfield 57, 3) := by decide +kernel
theorem dX11_years_75 : decode cX11_years 75 = .ok (.invokevirtual 207, 3) := by decide +kernel
theorem dX11_years_78 : decode cX11_years 78 = .ok (.aload_n 0, 1) := by decide +kernel
theorem dX11_years_79 : decode cX11_years 79 = .ok (.aload_n 0, 1) := by decide +kernel
theorem dX11_years_80 : decode cX11_years 80 = .ok (.getfield 53, 3) := by decide +kernel
theorem dX11_years_83 : decode cX11_years 83 = .ok (.getfield 210, 3) := by decide +kernel
theorem dX11_years_86 : decode cX11_years 86 = .ok (.invokevirtual 194, 3) := by decide +kernel
theorem dX11_years_89 : decode cX11_years 89 = .ok (.ireturn, 1) := by decide +kernel
theorem mw_X11_years : MW yX11_years cX11_years 3 0 1 false := ⟨tm 971 (by decide +kernel) rfl, tm 235 (by decide +kernel) rfl, by decide, by decide, (by rw [if_neg (by decide)]; exact ⟨tm 969 (by decide +kernel) rfl, tm 970 (by decide +kernel) rfl⟩)⟩
theorem lk_RX11_202 : LK RX11 202 yX10_readAll := Or.inr ⟨"HairProvince", tm 973 (by decide +kernel) rfl⟩
theorem fl_RX11_57 : FL RX11 57 9 11 := ⟨_, _, _, _, cw_9, by decide, Or.inr (Or.inr (Or.inr (by decide))), Or.inl (by decide), Or.inl (tm 633 (by decide +kernel) rfl)⟩
theorem fl_RX11_210 : FL RX11 210 8 6 := ⟨_, _, _, _, cw_8, by decide, Or.inl (by decide), Or.inr (by decide), Or.inr ⟨"HairProvince", tm 512 (by decide +kernel) rfl⟩⟩
def H_years (a1 : Int) (σ : Sg) : Rs := (bd (H_within a1 0 (min (σ 5 1) 300) σ) (fun r1 s2 => (if r1 = 0 then (bd (H_fail 5 s2) (fun r3 s4 => (some (r3, s4)))) else (bd (To_split a1 s2) (fun r5 s6 => (bd (YR_readAll 8 36 s6) (fun r7 s8 => (bd (H_closeText r7 s8) (fun r9 s10 => (if r7 = 0 then (bd (H_fail 10 s10) (fun r11 s12 => (some (r11, s12)))) else (bd (Ye_copyFrom 30 36 s10) (fun r13 s14 => (bd (H_give (s14 30 6) s14) (fun r15 s16 => (some (r15, s16))))))))))))))))
theorem ok_H_years (a1 : Int) (σ : Sg) : MC l Kh Ph yX11_years cX11_years 3 0 7 [.inr (.inr 0), .inl a1] σ (H_years a1 σ) := by
  refine mc_of (by decide) (Nat.le_of_ble_eq_true rfl) ?_
  change G l Kh Ph RX11 cX11_years 3 0 7 0 [some (.inr (.inr 0)), some (.inl a1), none] [] σ (H_years a1 σ)
  unfold H_years
  refine g_iload_n dX11_years_0 rfl rfl ?_
  refine g_iconst dX11_years_1 (by decide) ?_
  refine g_aload_n dX11_years_2 rfl rfl ?_
  refine g_getr' (q := 5) fl_RX11_36 kh_0 (by decide) rfl dX11_years_3 ?_
  refine g_geti fl_RX11_164 kh_5 (by decide) dX11_years_6 ?_
  refine g_sipush dX11_years_9 (by decide) ?_
  refine g_mmin mx_RX11_197 (Nat.le_of_ble_eq_true rfl) (Nat.le_of_ble_eq_true rfl) dX11_years_12 ?_
  refine g_calls3 (st := []) mw_X11_within lk_RX11_135 (ok_H_within a1 0 (min (σ 5 1) 300) σ) (Nat.le_of_ble_eq_true rfl) rfl rfl (Nat.le_of_ble_eq_true rfl) dX11_years_15 ?_
  intro r1 s2
  refine g_ifne (tgt := 27) dX11_years_18 (by decide) ?_ ?_
  · refine g_aload_n dX11_years_21 rfl rfl ?_
    refine g_iconst dX11_years_22 (by decide) ?_
    refine g_callv0 (st := []) 9 mw_X11_fail lk_RX11_147 rfl kh_0 (ok_H_fail 5 s2) (Nat.le_of_ble_eq_true rfl) rfl rfl (Nat.le_of_ble_eq_true rfl) dX11_years_23 ?_
    intro r3 s4
    exact g_iret dX11_years_26
  · refine g_aload_n dX11_years_27 rfl rfl ?_
    refine g_getr' (q := 5) fl_RX11_36 kh_0 (by decide) rfl dX11_years_28 ?_
    refine g_iload_n dX11_years_31 rfl rfl ?_
    refine g_callv2 (st := []) 6 mw_X7_split lk_RX11_171 rfl kh_5 (ok_To_split a1 s2) (Nat.le_of_ble_eq_true rfl) rfl rfl (Nat.le_of_ble_eq_true rfl) dX11_years_32 ?_
    intro r5 s6
    refine g_aload_n dX11_years_35 rfl rfl ?_
    refine g_getr' (q := 5) fl_RX11_36 kh_0 (by decide) rfl dX11_years_36 ?_
    refine g_aload_n dX11_years_39 rfl rfl ?_
    refine g_getr' (q := 8) fl_RX11_43 kh_0 (by decide) rfl dX11_years_40 ?_
    refine g_aload_n dX11_years_43 rfl rfl ?_
    refine g_getr' (q := 36) fl_RX11_57 kh_0 (by decide) rfl dX11_years_44 ?_
    refine g_calls3 (st := []) mw_X10_readAll lk_RX11_202 (ok_YR_readAll 8 36 kh_8 kh_36 s6) (Nat.le_of_ble_eq_true rfl) rfl rfl (Nat.le_of_ble_eq_true rfl) dX11_years_47 ?_
    intro r7 s8
    refine g_istore_n (lv' := [some (.inr (.inr 0)), some (.inl a1), some (.inl r7)]) dX11_years_50 rfl (Nat.le_of_ble_eq_true rfl) rfl ?_
    refine g_aload_n dX11_years_51 rfl rfl ?_
    refine g_iload_n dX11_years_52 rfl rfl ?_
    refine g_callv2 (st := []) 9 mw_X11_closeText lk_RX11_180 rfl kh_0 (ok_H_closeText r7 s8) (Nat.le_of_ble_eq_true rfl) rfl rfl (Nat.le_of_ble_eq_true rfl) dX11_years_53 ?_
    intro r9 s10
    refine g_iload_n dX11_years_56 rfl rfl ?_
    refine g_ifne (tgt := 67) dX11_years_57 (by decide) ?_ ?_
    · refine g_aload_n dX11_years_60 rfl rfl ?_
      refine g_bipush dX11_years_61 (by decide) ?_
      refine g_callv0 (st := []) 9 mw_X11_fail lk_RX11_147 rfl kh_0 (ok_H_fail 10 s10) (Nat.le_of_ble_eq_true rfl) rfl rfl (Nat.le_of_ble_eq_true rfl) dX11_years_63 ?_
      intro r11 s12
      exact g_iret dX11_years_66
    · refine g_aload_n dX11_years_67 rfl rfl ?_
      refine g_getr' (q := 30) fl_RX11_53 kh_0 (by decide) rfl dX11_years_68 ?_
      refine g_aload_n dX11_years_71 rfl rfl ?_
      refine g_getr' (q := 36) fl_RX11_57 kh_0 (by decide) rfl dX11_years_72 ?_
      refine g_callv2 (st := []) 8 mw_X9_copyFrom lk_RX11_207 rfl kh_30 (ok_Ye_copyFrom 30 36 kh_30 kh_36 s10) (Nat.le_of_ble_eq_true rfl) rfl rfl (Nat.le_of_ble_eq_true rfl) dX11_years_75 ?_
      intro r13 s14
      refine g_aload_n dX11_years_78 rfl rfl ?_
      refine g_aload_n dX11_years_79 rfl rfl ?_
      refine g_getr' (q := 30) fl_RX11_53 kh_0 (by decide) rfl dX11_years_80 ?_
      refine g_geti fl_RX11_210 kh_30 (by decide) dX11_years_83 ?_
      refine g_callv0 (st := []) 9 mw_X11_give lk_RX11_194 rfl kh_0 (ok_H_give (s14 30 6) s14) (Nat.le_of_ble_eq_true rfl) rfl rfl (Nat.le_of_ble_eq_true rfl) dX11_years_86 ?_
      intro r15 s16
      exact g_iret dX11_years_89
end WK
