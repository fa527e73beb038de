section WK
variable {l : Launch}
theorem dX4_blurt_0 : decode cX4_blurt 0 = .ok (.aload_n 0, 1) := by decide +kernel
theorem dX4_blurt_1 : decode cX4_blurt 1 = .ok (.iload_n 1, 1) := by decide +kernel
theorem dX4_blurt_2 : decode cX4_blurt 2 = .ok (.invokevirtual 87, 3) := by decide +kernel
theorem dX4_blurt_5 : decode cX4_blurt 5 = .ok (.ifCond .eq 11, 3) := by decide +kernel
theorem dX4_blurt_8 : decode cX4_blurt 8 = .ok (.aload_n 0, 1) := by decide +kernel
theorem dX4_blurt_9 : decode cX4_blurt 9 = .ok (.iload_n 2, 1) := by decide +kernel
theorem dX4_blurt_10 : decode cX4_blurt 10 = .ok (.invokevirtual 87, 3) := by decide +kernel
theorem dX4_blurt_13 : decode cX4_blurt 13 = .ok (.ifCond .ne 4, 3) := by decide +kernel
theorem dX4_blurt_16 : decode cX4_blurt 16 = .ok (.return_, 1) := by decide +kernel
theorem dX4_blurt_17 : decode cX4_blurt 17 = .ok (.aload_n 0, 1) := by decide +kernel
theorem dX4_blurt_18 : decode cX4_blurt 18 = .ok (.getfield 31, 3) := by decide +kernel
theorem dX4_blurt_21 : decode cX4_blurt 21 = .ok (.iload_n 1, 1) := by decide +kernel
theorem dX4_blurt_22 : decode cX4_blurt 22 = .ok (.iaload, 1) := by decide +kernel
theorem dX4_blurt_23 : decode cX4_blurt 23 = .ok (.aload_n 0, 1) := by decide +kernel
theorem dX4_blurt_24 : decode cX4_blurt 24 = .ok (.getfield 28, 3) := by decide +kernel
theorem dX4_blurt_27 : decode cX4_blurt 27 = .ok (.iload_n 2, 1) := by decide +kernel
theorem dX4_blurt_28 : decode cX4_blurt 28 = .ok (.iaload, 1) := by decide +kernel
theorem dX4_blurt_29 : decode cX4_blurt 29 = .ok (.iconst (-1), 1) := by decide +kernel
theorem dX4_blurt_30 : decode cX4_blurt 30 = .ok (.ixor, 1) := by decide +kernel
theorem dX4_blurt_31 : decode cX4_blurt 31 = .ok (.iand, 1) := by decide +kernel
theorem dX4_blurt_32 : decode cX4_blurt 32 = .ok (.istore_n 3, 1) := by decide +kernel
theorem dX4_blurt_33 : decode cX4_blurt 33 = .ok (.iload_n 3, 1) := by decide +kernel
theorem dX4_blurt_34 : decode cX4_blurt 34 = .ok (.ifCond .eq 46, 3) := by decide +kernel
theorem dX4_blurt_37 : decode cX4_blurt 37 = .ok (.aload_n 0, 1) := by decide +kernel
theorem dX4_blurt_38 : decode cX4_blurt 38 = .ok (.iload_n 1, 1) := by decide +kernel
theorem dX4_blurt_39 : decode cX4_blurt 39 = .ok (.aload_n 0, 1) := by decide +kernel
theorem dX4_blurt_40 : decode cX4_blurt 40 = .ok (.getfield 31, 3) := by decide +kernel
theorem dX4_blurt_43 : decode cX4_blurt 43 = .ok (.iload_n 1, 1) := by decide +kernel
theorem dX4_blurt_44 : decode cX4_blurt 44 = .ok (.iaload, 1) := by decide +kernel
theorem dX4_blurt_45 : decode cX4_blurt 45 = .ok (.iconst 0, 1) := by decide +kernel
theorem dX4_blurt_46 : decode cX4_blurt 46 = .ok (.invokevirtual 104, 3) := by decide +kernel
theorem dX4_blurt_49 : decode cX4_blurt 49 = .ok (.aload_n 0, 1) := by decide +kernel
theorem dX4_blurt_50 : decode cX4_blurt 50 = .ok (.getfield 25, 3) := by decide +kernel
theorem dX4_blurt_53 : decode cX4_blurt 53 = .ok (.iload_n 1, 1) := by decide +kernel
theorem dX4_blurt_54 : decode cX4_blurt 54 = .ok (.iaload, 1) := by decide +kernel
theorem dX4_blurt_55 : decode cX4_blurt 55 = .ok (.if_icmp .le 25, 3) := by decide +kernel
theorem dX4_blurt_58 : decode cX4_blurt 58 = .ok (.aload_n 0, 1) := by decide +kernel
theorem dX4_blurt_59 : decode cX4_blurt 59 = .ok (.iload_n 1, 1) := by decide +kernel
theorem dX4_blurt_60 : decode cX4_blurt 60 = .ok (.aload_n 0, 1) := by decide +kernel
theorem dX4_blurt_61 : decode cX4_blurt 61 = .ok (.iload_n 1, 1) := by decide +kernel
theorem dX4_blurt_62 : decode cX4_blurt 62 = .ok (.iload_n 3, 1) := by decide +kernel
theorem dX4_blurt_63 : decode cX4_blurt 63 = .ok (.invokevirtual 134, 3) := by decide +kernel
theorem dX4_blurt_66 : decode cX4_blurt 66 = .ok (.iload_n 2, 1) := by decide +kernel
theorem dX4_blurt_67 : decode cX4_blurt 67 = .ok (.invokevirtual 137, 3) := by decide +kernel
theorem dX4_blurt_70 : decode cX4_blurt 70 = .ok (.aload_n 0, 1) := by decide +kernel
theorem dX4_blurt_71 : decode cX4_blurt 71 = .ok (.dup, 1) := by decide +kernel
theorem dX4_blurt_72 : decode cX4_blurt 72 = .ok (.getfield 68, 3) := by decide +kernel
theorem dX4_blurt_75 : decode cX4_blurt 75 = .ok (.iconst 1, 1) := by decide +kernel
theorem dX4_blurt_76 : decode cX4_blurt 76 = .ok (.iadd, 1) := by decide +kernel
theorem dX4_blurt_77 : decode cX4_blurt 77 = .ok (.putfield 68, 3) := by decide +kernel
theorem dX4_blurt_80 : decode cX4_blurt 80 = .ok (.return_, 1) := by decide +kernel
theorem mw_X4_blurt : MW yX4_blurt cX4_blurt 4 2 2 false := ⟨tm 1151 (by decide +kernel) rfl, tm 242 (by decide +kernel) rfl, by decide, by decide, (by rw [if_neg (by decide)]; exact ⟨tm 1150 (by decide +kernel) rfl, tm 68 (by decide +kernel) rfl⟩)⟩
theorem lk_RX4_134 : LK RX4 134 yX4_longestOf := Or.inl (tm 1152 (by decide +kernel) rfl)
theorem lk_RX4_137 : LK RX4 137 yX4_speak := Or.inl (tm 1153 (by decide +kernel) rfl)
def Pr_blurt (pr0 : Nat) (a1 : Int) (a2 : Int) (σ : Sg) : Rs := (bd (Pr_isPerson pr0 a1 σ) (fun r1 s2 => (if r1 = 0 then (some (0, s2)) else (bd (Pr_isPerson pr0 a2 s2) (fun r3 s4 => (if r3 = 0 then (some (0, s4)) else (rd 6 a1 (s4 (pr0 + 7) (Int.toNat a1)) (fun x5 => (rd 6 a2 (s4 (pr0 + 6) (Int.toNat a2)) (fun x6 => (nm (an32 x5 (xo32 x6 (-1))) (fun x7 => (if x7 = 0 then (some (0, s4)) else (rd 6 a1 (s4 (pr0 + 7) (Int.toNat a1)) (fun x8 => (bd (Pr_hairKept pr0 a1 x8 0 s4) (fun r9 s10 => (rd 6 a1 (s10 (pr0 + 5) (Int.toNat a1)) (fun x11 => (if x11 < r9 then (bd (Pr_longestOf pr0 a1 x7 s10) (fun r12 s13 => (bd (Pr_speak pr0 a1 r12 a2 s13) (fun r14 s15 => (nm (up_s s15 pr0 18 (w32 ((s15 pr0 18) + 1))) (fun s16 => (some (0, s16)))))))) else (some (0, s10))))))))))))))))))))))
theorem ok_Pr_blurt (pr0 : Nat) (a1 : Int) (a2 : Int) (hpr0 : Kh[pr0]? = some (.inl 4)) (σ : Sg) : MC l Kh Ph yX4_blurt cX4_blurt 4 2 3 [.inr (.inr pr0), .inl a1, .inl a2] σ (Pr_blurt pr0 a1 a2 σ) := by
  refine mc_of (by decide) (Nat.le_of_ble_eq_true rfl) ?_
  change G l Kh Ph RX4 cX4_blurt 4 2 3 0 [some (.inr (.inr pr0)), some (.inl a1), some (.inl a2), none] [] σ (Pr_blurt pr0 a1 a2 σ)
  unfold Pr_blurt
  refine g_aload_n dX4_blurt_0 rfl rfl ?_
  refine g_iload_n dX4_blurt_1 rfl rfl ?_
  refine g_callv3 (st := []) 4 mw_X4_isPerson lk_RX4_87 rfl hpr0 (ok_Pr_isPerson pr0 a1 hpr0 σ) (Nat.le_of_ble_eq_true rfl) rfl rfl (Nat.le_of_ble_eq_true rfl) dX4_blurt_2 ?_
  intro r1 s2
  refine g_ifeq (tgt := 16) dX4_blurt_5 (by decide) ?_ ?_
  · exact g_vret dX4_blurt_16
  · refine g_aload_n dX4_blurt_8 rfl rfl ?_
    refine g_iload_n dX4_blurt_9 rfl rfl ?_
    refine g_callv3 (st := []) 4 mw_X4_isPerson lk_RX4_87 rfl hpr0 (ok_Pr_isPerson pr0 a2 hpr0 s2) (Nat.le_of_ble_eq_true rfl) rfl rfl (Nat.le_of_ble_eq_true rfl) dX4_blurt_10 ?_
    intro r3 s4
    refine g_ifne (tgt := 17) dX4_blurt_13 (by decide) ?_ ?_
    · exact g_vret dX4_blurt_16
    · refine g_aload_n dX4_blurt_17 rfl rfl ?_
      refine g_getr' (q := (pr0 + 7)) fl_RX4_31 hpr0 (by decide) (qp6 hpr0) dX4_blurt_18 ?_
      refine g_iload_n dX4_blurt_21 rfl rfl ?_
      refine g_iald (kp6 hpr0) dX4_blurt_22 ?_
      intro x5
      refine g_aload_n dX4_blurt_23 rfl rfl ?_
      refine g_getr' (q := (pr0 + 6)) fl_RX4_28 hpr0 (by decide) (qp5 hpr0) dX4_blurt_24 ?_
      refine g_iload_n dX4_blurt_27 rfl rfl ?_
      refine g_iald (kp5 hpr0) dX4_blurt_28 ?_
      intro x6
      refine g_iconst dX4_blurt_29 (by decide) ?_
      refine g_ixor dX4_blurt_30 ?_
      refine g_iand dX4_blurt_31 ?_
      refine n_istore_n (fun x7 => [some (.inr (.inr pr0)), some (.inl a1), some (.inl a2), some (.inl x7)]) dX4_blurt_32 rfl (Nat.le_of_ble_eq_true rfl) (fun _ => rfl) ?_
      intro x7
      refine g_iload_n dX4_blurt_33 rfl rfl ?_
      refine g_ifeq (tgt := 80) dX4_blurt_34 (by decide) ?_ ?_
      · exact g_vret dX4_blurt_80
      · refine g_aload_n dX4_blurt_37 rfl rfl ?_
        refine g_iload_n dX4_blurt_38 rfl rfl ?_
        refine g_aload_n dX4_blurt_39 rfl rfl ?_
        refine g_getr' (q := (pr0 + 7)) fl_RX4_31 hpr0 (by decide) (qp6 hpr0) dX4_blurt_40 ?_
        refine g_iload_n dX4_blurt_43 rfl rfl ?_
        refine g_iald (kp6 hpr0) dX4_blurt_44 ?_
        intro x8
        refine g_iconst dX4_blurt_45 (by decide) ?_
        refine g_callv0 (st := []) 4 mw_X4_hairKept lk_RX4_104 rfl hpr0 (ok_Pr_hairKept pr0 a1 x8 0 hpr0 s4) (Nat.le_of_ble_eq_true rfl) rfl rfl (Nat.le_of_ble_eq_true rfl) dX4_blurt_46 ?_
        intro r9 s10
        refine g_aload_n dX4_blurt_49 rfl rfl ?_
        refine g_getr' (q := (pr0 + 5)) fl_RX4_25 hpr0 (by decide) (qp4 hpr0) dX4_blurt_50 ?_
        refine g_iload_n dX4_blurt_53 rfl rfl ?_
        refine g_iald (kp4 hpr0) dX4_blurt_54 ?_
        intro x11
        refine g_icmple (tgt := 80) dX4_blurt_55 (by decide) ?_ ?_
        · refine g_aload_n dX4_blurt_58 rfl rfl ?_
          refine g_iload_n dX4_blurt_59 rfl rfl ?_
          refine g_aload_n dX4_blurt_60 rfl rfl ?_
          refine g_iload_n dX4_blurt_61 rfl rfl ?_
          refine g_iload_n dX4_blurt_62 rfl rfl ?_
          refine g_callv0 (st := [.inl a1, .inr (.inr pr0)]) 4 mw_X4_longestOf lk_RX4_134 rfl hpr0 (ok_Pr_longestOf pr0 a1 x7 hpr0 s10) (Nat.le_of_ble_eq_true rfl) rfl rfl (Nat.le_of_ble_eq_true rfl) dX4_blurt_63 ?_
          intro r12 s13
          refine g_iload_n dX4_blurt_66 rfl rfl ?_
          refine g_callv2 (st := []) 4 mw_X4_speak lk_RX4_137 rfl hpr0 (ok_Pr_speak pr0 a1 r12 a2 hpr0 s13) (Nat.le_of_ble_eq_true rfl) rfl rfl (Nat.le_of_ble_eq_true rfl) dX4_blurt_67 ?_
          intro r14 s15
          refine g_aload_n dX4_blurt_70 rfl rfl ?_
          refine g_dup dX4_blurt_71 rfl ?_
          refine g_geti fl_RX4_68 hpr0 (by decide) dX4_blurt_72 ?_
          refine g_iconst dX4_blurt_75 (by decide) ?_
          refine g_iadd dX4_blurt_76 ?_
          refine g_puti fl_RX4_68 hpr0 (by decide) dX4_blurt_77 ?_
          intro s16
          exact g_vret dX4_blurt_80
        · exact g_vret dX4_blurt_80
theorem dX4_passDays_0 : decode cX4_passDays 0 = .ok (.aload_n 0, 1) := by decide +kernel
theorem dX4_passDays_1 : decode cX4_passDays 1 = .ok (.getfield 68, 3) := by decide +kernel
theorem dX4_passDays_4 : decode cX4_passDays 4 = .ok (.istore_n 2, 1) := by decide +kernel
theorem dX4_passDays_5 : decode cX4_passDays 5 = .ok (.iconst 0, 1) := by decide +kernel
theorem dX4_passDays_6 : decode cX4_passDays 6 = .ok (.istore_n 3, 1) := by decide +kernel
theorem dX4_passDays_7 : decode cX4_passDays 7 = .ok (.iload_n 3, 1) := by decide +kernel
theorem dX4_passDays_8 : decode cX4_passDays 8 = .ok (.iload_n 1, 1) := by decide +kernel
theorem dX4_passDays_9 : decode cX4_passDays 9 = .ok (.if_icmp .ge 112, 3) := by decide +kernel
theorem dX4_passDays_12 : decode cX4_passDays 12 = .ok (.aload_n 0, 1) := by decide +kernel
theorem dX4_passDays_13 : decode cX4_passDays 13 = .ok (.dup, 1) := by decide +kernel
theorem dX4_passDays_14 : decode cX4_passDays 14 = .ok (.getfield 62, 3) := by decide +kernel
theorem dX4_passDays_17 : decode cX4_passDays 17 = .ok (.iconst 1, 1) := by decide +kernel
theorem dX4_passDays_18 : decode cX4_passDays 18 = .ok (.iadd, 1) := by decide +kernel
theorem dX4_passDays_19 : decode cX4_passDays 19 = .ok (.putfield 62, 3) := by decide +kernel
theorem dX4_passDays_22 : decode cX4_passDays 22 = .ok (.iconst 0, 1) := by decide +kernel
theorem dX4_passDays_23 : decode cX4_passDays 23 = .ok (.istore 4, 2) := by decide +kernel
theorem dX4_passDays_25 : decode cX4_passDays 25 = .ok (.iload 4, 2) := by decide +kernel
theorem dX4_passDays_27 : decode cX4_passDays 27 = .ok (.aload_n 0, 1) := by decide +kernel
theorem dX4_passDays_28 : decode cX4_passDays 28 = .ok (.getfield 56, 3) := by decide +kernel
theorem dX4_passDays_31 : decode cX4_passDays 31 = .ok (.if_icmp .ge 84, 3) := by decide +kernel
theorem dX4_passDays_34 : decode cX4_passDays 34 = .ok (.iload 4, 2) := by decide +kernel
theorem dX4_passDays_36 : decode cX4_passDays 36 = .ok (.bipush 6, 2) := by decide +kernel
theorem dX4_passDays_38 : decode cX4_passDays 38 = .ok (.if_icmp .ge 77, 3) := by decide +kernel
theorem dX4_passDays_41 : decode cX4_passDays 41 = .ok (.aload_n 0, 1) := by decide +kernel
theorem dX4_passDays_42 : decode cX4_passDays 42 = .ok (.getfield 40, 3) := by decide +kernel
theorem dX4_passDays_45 : decode cX4_passDays 45 = .ok (.iload 4, 2) := by decide +kernel
theorem dX4_passDays_47 : decode cX4_passDays 47 = .ok (.iconst 3, 1) := by decide +kernel
theorem dX4_passDays_48 : decode cX4_passDays 48 = .ok (.imul, 1) := by decide +kernel
theorem dX4_passDays_49 : decode cX4_passDays 49 = .ok (.iconst 2, 1) := by decide +kernel
theorem dX4_passDays_50 : decode cX4_passDays 50 = .ok (.iadd, 1) := by decide +kernel
theorem dX4_passDays_51 : decode cX4_passDays 51 = .ok (.iaload, 1) := by decide +kernel
theorem dX4_passDays_52 : decode cX4_passDays 52 = .ok (.istore 5, 2) := by decide +kernel
theorem dX4_passDays_54 : decode cX4_passDays 54 = .ok (.iload 5, 2) := by decide +kernel
theorem dX4_passDays_56 : decode cX4_passDays 56 = .ok (.ifCond .le 53, 3) := by decide +kernel
theorem dX4_passDays_59 : decode cX4_passDays 59 = .ok (.aload_n 0, 1) := by decide +kernel
theorem dX4_passDays_60 : decode cX4_passDays 60 = .ok (.getfield 62, 3) := by decide +kernel
theorem dX4_passDays_63 : decode cX4_passDays 63 = .ok (.iload 5, 2) := by decide +kernel
theorem dX4_passDays_65 : decode cX4_passDays 65 = .ok (.irem, 1) := by decide +kernel
theorem dX4_passDays_66 : decode cX4_passDays 66 = .ok (.ifCond .ne 43, 3) := by decide +kernel
theorem dX4_passDays_69 : decode cX4_passDays 69 = .ok (.aload_n 0, 1) := by decide +kernel
theorem dX4_passDays_70 : decode cX4_passDays 70 = .ok (.getfield 40, 3) := by decide +kernel
theorem dX4_passDays_73 : decode cX4_passDays 73 = .ok (.iload 4, 2) := by decide +kernel
theorem dX4_passDays_75 : decode cX4_passDays 75 = .ok (.iconst 3, 1) := by decide +kernel
theorem dX4_passDays_76 : decode cX4_passDays 76 = .ok (.imul, 1) := by decide +kernel
theorem dX4_passDays_77 : decode cX4_passDays 77 = .ok (.iaload, 1) := by decide +kernel
theorem dX4_passDays_78 : decode cX4_passDays 78 = .ok (.istore 6, 2) := by decide +kernel
theorem dX4_passDays_80 : decode cX4_passDays 80 = .ok (.aload_n 0, 1) := by decide +kernel
theorem dX4_passDays_81 : decode cX4_passDays 81 = .ok (.getfield 40, 3) := by decide +kernel
theorem dX4_passDays_84 : decode cX4_passDays 84 = .ok (.iload 4, 2) := by decide +kernel
theorem dX4_passDays_86 : decode cX4_passDays 86 = .ok (.iconst 3, 1) := by decide +kernel
theorem dX4_passDays_87 : decode cX4_passDays 87 = .ok (.imul, 1) := by decide +kernel
theorem dX4_passDays_88 : decode cX4_passDays 88 = .ok (.iconst 1, 1) := by decide +kernel
theorem dX4_passDays_89 : decode cX4_passDays 89 = .ok (.iadd, 1) := by decide +kernel
theorem dX4_passDays_90 : decode cX4_passDays 90 = .ok (.iaload, 1) := by decide +kernel
theorem dX4_passDays_91 : decode cX4_passDays 91 = .ok (.istore 7, 2) := by decide +kernel
theorem dX4_passDays_93 : decode cX4_passDays 93 = .ok (.aload_n 0, 1) := by decide +kernel
theorem dX4_passDays_94 : decode cX4_passDays 94 = .ok (.iload 6, 2) := by decide +kernel
theorem dX4_passDays_96 : decode cX4_passDays 96 = .ok (.iload 7, 2) := by decide +kernel
theorem dX4_passDays_98 : decode cX4_passDays 98 = .ok (.invokevirtual 128, 3) := by decide +kernel
theorem dX4_passDays_101 : decode cX4_passDays 101 = .ok (.aload_n 0, 1) := by decide +kernel
theorem dX4_passDays_102 : decode cX4_passDays 102 = .ok (.iload 7, 2) := by decide +kernel
theorem dX4_passDays_104 : decode cX4_passDays 104 = .ok (.iload 6, 2) := by decide +kernel
theorem dX4_passDays_106 : decode cX4_passDays 106 = .ok (.invokevirtual 128, 3) := by decide +kernel
theorem dX4_passDays_109 : decode cX4_passDays 109 = .ok (.iinc 4 1, 3) := by decide +kernel
theorem dX4_passDays_112 : decode cX4_passDays 112 = .ok (.goto (-87), 3) := by decide +kernel
theorem dX4_passDays_115 : decode cX4_passDays 115 = .ok (.iinc 3 1, 3) := by decide +kernel
theorem dX4_passDays_118 : decode cX4_passDays 118 = .ok (.goto (-111), 3) := by decide +kernel
theorem dX4_passDays_121 : decode cX4_passDays 121 = .ok (.aload_n 0, 1) := by decide +kernel
theorem dX4_passDays_122 : decode cX4_passDays 122 = .ok (.getfield 68, 3) := by decide +kernel
theorem dX4_passDays_125 : decode cX4_passDays 125 = .ok (.iload_n 2, 1) := by decide +kernel
theorem dX4_passDays_126 : decode cX4_passDays 126 = .ok (.isub, 1) := by decide +kernel
theorem dX4_passDays_127 : decode cX4_passDays 127 = .ok (.ireturn, 1) := by decide +kernel
theorem mw_X4_passDays : MW yX4_passDays cX4_passDays 8 0 1 false := ⟨tm 1147 (by decide +kernel) rfl, tm 242 (by decide +kernel) rfl, by decide, by decide, (by rw [if_neg (by decide)]; exact ⟨tm 1146 (by decide +kernel) rfl, tm 67 (by decide +kernel) rfl⟩)⟩
theorem lk_RX4_128 : LK RX4 128 yX4_blurt := Or.inl (tm 1148 (by decide +kernel) rfl)
def Pr_passDays_L25 (pr0 : Nat) (a1 : Int) (v2 : Int) (v3 : Int) (k7 : Int → Sg → Rs) : Nat → Int → Sg → Rs
  | 0, _, _ => none
  | n + 1, v4, σ => (if v4 < (σ pr0 12) then (if v4 < 6 then (rd 18 (w32 ((w32 (v4 * 3)) + 2)) (σ (pr0 + 10) (Int.toNat (w32 ((w32 (v4 * 3)) + 2)))) (fun x3 => (if 0 < x3 then (dv x3 (rm32 (σ pr0 16) x3) (fun x4 => (if x4 = 0 then (rd 18 (w32 (v4 * 3)) (σ (pr0 + 10) (Int.toNat (w32 (v4 * 3)))) (fun x5 => (rd 18 (w32 ((w32 (v4 * 3)) + 1)) (σ (pr0 + 10) (Int.toNat (w32 ((w32 (v4 * 3)) + 1)))) (fun x6 => (bd (Pr_blurt pr0 x5 x6 σ) (fun r7 s8 => (bd (Pr_blurt pr0 x6 x5 s8) (fun r9 s10 => (nm (w32 (v4 + 1)) (fun x11 => (Pr_passDays_L25 pr0 a1 v2 v3 k7 n x11 s10))))))))))) else (nm (w32 (v4 + 1)) (fun x12 => (Pr_passDays_L25 pr0 a1 v2 v3 k7 n x12 σ)))))) else (nm (w32 (v4 + 1)) (fun x13 => (Pr_passDays_L25 pr0 a1 v2 v3 k7 n x13 σ)))))) else (nm (w32 (v3 + 1)) (fun x14 => (k7 x14 σ)))) else (nm (w32 (v3 + 1)) (fun x15 => (k7 x15 σ))))
theorem ok_Pr_passDays_L25 (pr0 : Nat) (a1 : Int) (v2 : Int) (v3 : Int) (hpr0 : Kh[pr0]? = some (.inl 4)) (k7 : Int → Sg → Rs) (hk7 : ∀ (y3 : Int) (σ : Sg), G l Kh Ph RX4 cX4_passDays 8 0 4 7 [some (.inr (.inr pr0)), some (.inl a1), some (.inl v2), some (.inl y3), none, none, none, none] [] σ (k7 y3 σ)) : ∀ (n : Nat) (v4 : Int) (σ : Sg), G l Kh Ph RX4 cX4_passDays 8 0 4 25 [some (.inr (.inr pr0)), some (.inl a1), some (.inl v2), some (.inl v3), some (.inl v4), none, none, none] [] σ (Pr_passDays_L25 pr0 a1 v2 v3 k7 n v4 σ) := by
  intro n
  induction n with
  | zero => intros; exact G.none_
  | succ n ih =>
    intro v4 σ
    rw [Pr_passDays_L25]
    refine g_iload dX4_passDays_25 rfl ?_
    refine g_aload_n dX4_passDays_27 rfl rfl ?_
    refine g_geti fl_RX4_56 hpr0 (by decide) dX4_passDays_28 ?_
    refine g_icmpge (tgt := 115) dX4_passDays_31 (by decide) ?_ ?_
    · refine g_iload dX4_passDays_34 rfl ?_
      refine g_bipush dX4_passDays_36 (by decide) ?_
      refine g_icmpge (tgt := 115) dX4_passDays_38 (by decide) ?_ ?_
      · refine g_aload_n dX4_passDays_41 rfl rfl ?_
        refine g_getr' (q := (pr0 + 10)) fl_RX4_40 hpr0 (by decide) (qp9 hpr0) dX4_passDays_42 ?_
        refine g_iload dX4_passDays_45 rfl ?_
        refine g_iconst dX4_passDays_47 (by decide) ?_
        refine g_imul dX4_passDays_48 ?_
        refine g_iconst dX4_passDays_49 (by decide) ?_
        refine g_iadd dX4_passDays_50 ?_
        refine g_iald (kp9 hpr0) dX4_passDays_51 ?_
        intro x3
        refine g_istore (lv' := [some (.inr (.inr pr0)), some (.inl a1), some (.inl v2), some (.inl v3), some (.inl v4), some (.inl x3), none, none]) dX4_passDays_52 (Nat.le_of_ble_eq_true rfl) rfl ?_
        refine g_iload dX4_passDays_54 rfl ?_
        refine g_ifle (tgt := 109) dX4_passDays_56 (by decide) ?_ ?_
        · refine g_aload_n dX4_passDays_59 rfl rfl ?_
          refine g_geti fl_RX4_62 hpr0 (by decide) dX4_passDays_60 ?_
          refine g_iload dX4_passDays_63 rfl ?_
          refine g_irem dX4_passDays_65 ?_
          intro x4
          refine g_ifne (tgt := 109) dX4_passDays_66 (by decide) ?_ ?_
          · refine g_aload_n dX4_passDays_69 rfl rfl ?_
            refine g_getr' (q := (pr0 + 10)) fl_RX4_40 hpr0 (by decide) (qp9 hpr0) dX4_passDays_70 ?_
            refine g_iload dX4_passDays_73 rfl ?_
            refine g_iconst dX4_passDays_75 (by decide) ?_
            refine g_imul dX4_passDays_76 ?_
            refine g_iald (kp9 hpr0) dX4_passDays_77 ?_
            intro x5
            refine g_istore (lv' := [some (.inr (.inr pr0)), some (.inl a1), some (.inl v2), some (.inl v3), some (.inl v4), some (.inl x3), some (.inl x5), none]) dX4_passDays_78 (Nat.le_of_ble_eq_true rfl) rfl ?_
            refine g_aload_n dX4_passDays_80 rfl rfl ?_
            refine g_getr' (q := (pr0 + 10)) fl_RX4_40 hpr0 (by decide) (qp9 hpr0) dX4_passDays_81 ?_
            refine g_iload dX4_passDays_84 rfl ?_
            refine g_iconst dX4_passDays_86 (by decide) ?_
            refine g_imul dX4_passDays_87 ?_
            refine g_iconst dX4_passDays_88 (by decide) ?_
            refine g_iadd dX4_passDays_89 ?_
            refine g_iald (kp9 hpr0) dX4_passDays_90 ?_
            intro x6
            refine g_istore (lv' := [some (.inr (.inr pr0)), some (.inl a1), some (.inl v2), some (.inl v3), some (.inl v4), some (.inl x3), some (.inl x5), some (.inl x6)]) dX4_passDays_91 (Nat.le_of_ble_eq_true rfl) rfl ?_
            refine g_aload_n dX4_passDays_93 rfl rfl ?_
            refine g_iload dX4_passDays_94 rfl ?_
            refine g_iload dX4_passDays_96 rfl ?_
            refine g_callv2 (st := []) 4 mw_X4_blurt lk_RX4_128 rfl hpr0 (ok_Pr_blurt pr0 x5 x6 hpr0 σ) (Nat.le_of_ble_eq_true rfl) rfl rfl (Nat.le_of_ble_eq_true rfl) dX4_passDays_98 ?_
            intro r7 s8
            refine g_aload_n dX4_passDays_101 rfl rfl ?_
            refine g_iload dX4_passDays_102 rfl ?_
            refine g_iload dX4_passDays_104 rfl ?_
            refine g_callv2 (st := []) 4 mw_X4_blurt lk_RX4_128 rfl hpr0 (ok_Pr_blurt pr0 x6 x5 hpr0 s8) (Nat.le_of_ble_eq_true rfl) rfl rfl (Nat.le_of_ble_eq_true rfl) dX4_passDays_106 ?_
            intro r9 s10
            refine n_iinc (fun x11 => [some (.inr (.inr pr0)), some (.inl a1), some (.inl v2), some (.inl v3), some (.inl x11), some (.inl x3), some (.inl x5), some (.inl x6)]) dX4_passDays_109 rfl (Nat.le_of_ble_eq_true rfl) (fun _ => rfl) ?_
            intro x11
            refine g_goto (tgt := 25) dX4_passDays_112 (by decide) ?_
            exact (g_weak [true, true, true, true, true, false, false, false] (ih x11 s10))
          · refine n_iinc (fun x12 => [some (.inr (.inr pr0)), some (.inl a1), some (.inl v2), some (.inl v3), some (.inl x12), some (.inl x3), none, none]) dX4_passDays_109 rfl (Nat.le_of_ble_eq_true rfl) (fun _ => rfl) ?_
            intro x12
            refine g_goto (tgt := 25) dX4_passDays_112 (by decide) ?_
            exact (g_weak [true, true, true, true, true, false, false, false] (ih x12 σ))
        · refine n_iinc (fun x13 => [some (.inr (.inr pr0)), some (.inl a1), some (.inl v2), some (.inl v3), some (.inl x13), some (.inl x3), none, none]) dX4_passDays_109 rfl (Nat.le_of_ble_eq_true rfl) (fun _ => rfl) ?_
          intro x13
          refine g_goto (tgt := 25) dX4_passDays_112 (by decide) ?_
          exact (g_weak [true, true, true, true, true, false, false, false] (ih x13 σ))
      · refine n_iinc (fun x14 => [some (.inr (.inr pr0)), some (.inl a1), some (.inl v2), some (.inl x14), some (.inl v4), none, none, none]) dX4_passDays_115 rfl (Nat.le_of_ble_eq_true rfl) (fun _ => rfl) ?_
        intro x14
        refine g_goto (tgt := 7) dX4_passDays_118 (by decide) ?_
        exact (g_weak [true, true, true, true, false, false, false, false] (hk7 x14 σ))
    · refine n_iinc (fun x15 => [some (.inr (.inr pr0)), some (.inl a1), some (.inl v2), some (.inl x15), some (.inl v4), none, none, none]) dX4_passDays_115 rfl (Nat.le_of_ble_eq_true rfl) (fun _ => rfl) ?_
      intro x15
      refine g_goto (tgt := 7) dX4_passDays_118 (by decide) ?_
      exact (g_weak [true, true, true, true, false, false, false, false] (hk7 x15 σ))
def Pr_passDays_L7 (pr0 : Nat) (a1 : Int) (v2 : Int) : Nat → Int → Sg → Rs
  | 0, _, _ => none
  | n + 1, v3, σ => (if v3 < a1 then (nm (up_s σ pr0 16 (w32 ((σ pr0 16) + 1))) (fun s2 => (Pr_passDays_L25 pr0 a1 v2 v3 (fun x16 s17 => (Pr_passDays_L7 pr0 a1 v2 n x16 s17)) fu 0 s2))) else (some ((w32 ((σ pr0 18) - v2)), σ)))
theorem ok_Pr_passDays_L7 (pr0 : Nat) (a1 : Int) (v2 : Int) (hpr0 : Kh[pr0]? = some (.inl 4)) : ∀ (n : Nat) (v3 : Int) (σ : Sg), G l Kh Ph RX4 cX4_passDays 8 0 4 7 [some (.inr (.inr pr0)), some (.inl a1), some (.inl v2), some (.inl v3), none, none, none, none] [] σ (Pr_passDays_L7 pr0 a1 v2 n v3 σ) := by
  intro n
  induction n with
  | zero => intros; exact G.none_
  | succ n ih =>
    intro v3 σ
    rw [Pr_passDays_L7]
    refine g_iload_n dX4_passDays_7 rfl rfl ?_
    refine g_iload_n dX4_passDays_8 rfl rfl ?_
    refine g_icmpge (tgt := 121) dX4_passDays_9 (by decide) ?_ ?_
    · refine g_aload_n dX4_passDays_12 rfl rfl ?_
      refine g_dup dX4_passDays_13 rfl ?_
      refine g_geti fl_RX4_62 hpr0 (by decide) dX4_passDays_14 ?_
      refine g_iconst dX4_passDays_17 (by decide) ?_
      refine g_iadd dX4_passDays_18 ?_
      refine g_puti fl_RX4_62 hpr0 (by decide) dX4_passDays_19 ?_
      intro s2
      refine g_iconst dX4_passDays_22 (by decide) ?_
      refine g_istore (lv' := [some (.inr (.inr pr0)), some (.inl a1), some (.inl v2), some (.inl v3), some (.inl 0), none, none, none]) dX4_passDays_23 (Nat.le_of_ble_eq_true rfl) rfl ?_
      refine (ok_Pr_passDays_L25 pr0 a1 v2 v3 hpr0 _ ?_ fu 0 s2)
      · intro x16 s17
        exact (ih x16 s17)
    · refine g_aload_n dX4_passDays_121 rfl rfl ?_
      refine g_geti fl_RX4_68 hpr0 (by decide) dX4_passDays_122 ?_
      refine g_iload_n dX4_passDays_125 rfl rfl ?_
      refine g_isub dX4_passDays_126 ?_
      exact g_iret dX4_passDays_127
def Pr_passDays (pr0 : Nat) (a1 : Int) (σ : Sg) : Rs := (nm (σ pr0 18) (fun x1 => (Pr_passDays_L7 pr0 a1 x1 fu 0 σ)))
theorem ok_Pr_passDays (pr0 : Nat) (a1 : Int) (hpr0 : Kh[pr0]? = some (.inl 4)) (σ : Sg) : MC l Kh Ph yX4_passDays cX4_passDays 8 0 4 [.inr (.inr pr0), .inl a1] σ (Pr_passDays pr0 a1 σ) := by
  refine mc_of (by decide) (Nat.le_of_ble_eq_true rfl) ?_
  change G l Kh Ph RX4 cX4_passDays 8 0 4 0 [some (.inr (.inr pr0)), some (.inl a1), none, none, none, none, none, none] [] σ (Pr_passDays pr0 a1 σ)
  unfold Pr_passDays
  refine g_aload_n dX4_passDays_0 rfl rfl ?_
  refine g_geti fl_RX4_68 hpr0 (by decide) dX4_passDays_1 ?_
  refine n_istore_n (fun x1 => [some (.inr (.inr pr0)), some (.inl a1), some (.inl x1), none, none, none, none, none]) dX4_passDays_4 rfl (Nat.le_of_ble_eq_true rfl) (fun _ => rfl) ?_
  intro x1
  refine g_iconst dX4_passDays_5 (by decide) ?_
  refine g_istore_n (lv' := [some (.inr (.inr pr0)), some (.inl a1), some (.inl x1), some (.inl 0), none, none, none, none]) dX4_passDays_6 rfl (Nat.le_of_ble_eq_true rfl) rfl ?_
  refine (ok_Pr_passDays_L7 pr0 a1 x1 hpr0 fu 0 σ)
theorem dX11_day_0 : decode cX11_day 0 = .ok (.iload_n 1, 1) := by decide +kernel
theorem dX11_day_1 : decode cX11_day 1 = .ok (.iconst 1, 1) := by decide +kernel
theorem dX11_day_2 : decode cX11_day 2 = .ok (.bipush 99, 2) := by decide +kernel
theorem dX11_day_4 : decode cX11_day 4 = .ok (.invokestatic 135, 3) := by decide +kernel
theorem dX11_day_7 : decode cX11_day 7 = .ok (.ifCond .ne 9, 3) := by decide +kernel
theorem dX11_day_10 : decode cX11_day 10 = .ok (.aload_n 0, 1) := by decide +kernel
theorem dX11_day_11 : decode cX11_day 11 = .ok (.iconst 5, 1) := by decide +kernel
theorem dX11_day_12 : decode cX11_day 12 = .ok (.invokevirtual 147, 3) := by decide +kernel
theorem dX11_day_15 : decode cX11_day 15 = .ok (.ireturn, 1) := by decide +kernel
theorem dX11_day_16 : decode cX11_day 16 = .ok (.aload_n 0, 1) := by decide +kernel
theorem dX11_day_17 : decode cX11_day 17 = .ok (.getfield 43, 3) := by decide +kernel
theorem dX11_day_20 : decode cX11_day 20 = .ok (.getfield 232, 3) := by decide +kernel
theorem dX11_day_23 : decode cX11_day 23 = .ok (.iload_n 1, 1) := by decide +kernel
theorem dX11_day_24 : decode cX11_day 24 = .ok (.iadd, 1) := by decide +kernel
theorem dX11_day_25 : decode cX11_day 25 = .ok (.sipush 9999, 3) := by decide +kernel
theorem dX11_day_28 : decode cX11_day 28 = .ok (.if_icmp .le 10, 3) := by decide +kernel
theorem dX11_day_31 : decode cX11_day 31 = .ok (.aload_n 0, 1) := by decide +kernel
theorem dX11_day_32 : decode cX11_day 32 = .ok (.bipush 7, 2) := by decide +kernel
theorem dX11_day_34 : decode cX11_day 34 = .ok (.invokevirtual 147, 3) := by decide +kernel
theorem dX11_day_37 : decode cX11_day 37 = .ok (.ireturn, 1) := by decide +kernel
theorem dX11_day_38 : decode cX11_day 38 = .ok (.aload_n 0, 1) := by decide +kernel
theorem dX11_day_39 : decode cX11_day 39 = .ok (.aload_n 0, 1) := by decide +kernel
theorem dX11_day_40 : decode cX11_day 40 = .ok (.getfield 43, 3) := by decide +kernel
theorem dX11_day_43 : decode cX11_day 43 = .ok (.iload_n 1, 1) := by decide +kernel
theorem dX11_day_44 : decode cX11_day 44 = .ok (.invokevirtual 300, 3) := by decide +kernel
theorem dX11_day_47 : decode cX11_day 47 = .ok (.invokevirtual 194, 3) := by decide +kernel
theorem dX11_day_50 : decode cX11_day 50 = .ok (.ireturn, 1) := by decide +kernel
theorem mw_X11_day : MW yX11_day cX11_day 2 0 1 false := ⟨tm 1143 (by decide +kernel) rfl, tm 235 (by decide +kernel) rfl, by decide, by decide, (by rw [if_neg (by decide)]; exact ⟨tm 1141 (by decide +kernel) rfl, tm 1142 (by decide +kernel) rfl⟩)⟩
theorem lk_RX11_300 : LK RX11 300 yX4_passDays := Or.inr ⟨"HairProvince", tm 1144 (by decide +kernel) rfl⟩
theorem fl_RX11_232 : FL RX11 232 4 16 := ⟨_, _, _, _, cw_4, by decide, Or.inl (by decide), Or.inr (by decide), Or.inr ⟨"HairProvince", tm 444 (by decide +kernel) rfl⟩⟩
def H_day (a1 : Int) (σ : Sg) : Rs := (bd (H_within a1 1 99 σ) (fun r1 s2 => (if r1 = 0 then (bd (H_fail 5 s2) (fun r3 s4 => (some (r3, s4)))) else (if 9999 < (w32 ((s2 8 16) + a1)) then (bd (H_fail 7 s2) (fun r5 s6 => (some (r5, s6)))) else (bd (Pr_passDays 8 a1 s2) (fun r7 s8 => (bd (H_give r7 s8) (fun r9 s10 => (some (r9, s10))))))))))
theorem ok_H_day (a1 : Int) (σ : Sg) : MC l Kh Ph yX11_day cX11_day 2 0 5 [.inr (.inr 0), .inl a1] σ (H_day a1 σ) := by
  refine mc_of (by decide) (Nat.le_of_ble_eq_true rfl) ?_
  change G l Kh Ph RX11 cX11_day 2 0 5 0 [some (.inr (.inr 0)), some (.inl a1)] [] σ (H_day a1 σ)
  unfold H_day
  refine g_iload_n dX11_day_0 rfl rfl ?_
  refine g_iconst dX11_day_1 (by decide) ?_
  refine g_bipush dX11_day_2 (by decide) ?_
  refine g_calls3 (st := []) mw_X11_within lk_RX11_135 (ok_H_within a1 1 99 σ) (Nat.le_of_ble_eq_true rfl) rfl rfl (Nat.le_of_ble_eq_true rfl) dX11_day_4 ?_
  intro r1 s2
  refine g_ifne (tgt := 16) dX11_day_7 (by decide) ?_ ?_
  · refine g_aload_n dX11_day_10 rfl rfl ?_
    refine g_iconst dX11_day_11 (by decide) ?_
    refine g_callv0 (st := []) 9 mw_X11_fail lk_RX11_147 rfl kh_0 (ok_H_fail 5 s2) (Nat.le_of_ble_eq_true rfl) rfl rfl (Nat.le_of_ble_eq_true rfl) dX11_day_12 ?_
    intro r3 s4
    exact g_iret dX11_day_15
  · refine g_aload_n dX11_day_16 rfl rfl ?_
    refine g_getr' (q := 8) fl_RX11_43 kh_0 (by decide) rfl dX11_day_17 ?_
    refine g_geti fl_RX11_232 kh_8 (by decide) dX11_day_20 ?_
    refine g_iload_n dX11_day_23 rfl rfl ?_
    refine g_iadd dX11_day_24 ?_
    refine g_sipush dX11_day_25 (by decide) ?_
    refine g_icmple (tgt := 38) dX11_day_28 (by decide) ?_ ?_
    · refine g_aload_n dX11_day_31 rfl rfl ?_
      refine g_bipush dX11_day_32 (by decide) ?_
      refine g_callv0 (st := []) 9 mw_X11_fail lk_RX11_147 rfl kh_0 (ok_H_fail 7 s2) (Nat.le_of_ble_eq_true rfl) rfl rfl (Nat.le_of_ble_eq_true rfl) dX11_day_34 ?_
      intro r5 s6
      exact g_iret dX11_day_37
    · refine g_aload_n dX11_day_38 rfl rfl ?_
      refine g_aload_n dX11_day_39 rfl rfl ?_
      refine g_getr' (q := 8) fl_RX11_43 kh_0 (by decide) rfl dX11_day_40 ?_
      refine g_iload_n dX11_day_43 rfl rfl ?_
      refine g_callv0 (st := [.inr (.inr 0)]) 4 mw_X4_passDays lk_RX11_300 rfl kh_8 (ok_Pr_passDays 8 a1 kh_8 s2) (Nat.le_of_ble_eq_true rfl) rfl rfl (Nat.le_of_ble_eq_true rfl) dX11_day_44 ?_
      intro r7 s8
      refine g_callv0 (st := []) 9 mw_X11_give lk_RX11_194 rfl kh_0 (ok_H_give r7 s8) (Nat.le_of_ble_eq_true rfl) rfl rfl (Nat.le_of_ble_eq_true rfl) dX11_day_47 ?_
      intro r9 s10
      exact g_iret dX11_day_50
theorem dX4_grownTogether_0 : decode cX4_grownTogether 0 = .ok (.iconst 0, 1) := by decide +kernel
theorem dX4_grownTogether_1 : decode cX4_grownTogether 1 = .ok (.istore_n 3, 1) := by decide +kernel
theorem dX4_grownTogether_2 : decode cX4_grownTogether 2 = .ok (.iconst 0, 1) := by decide +kernel
theorem dX4_grownTogether_3 : decode cX4_grownTogether 3 = .ok (.istore 4, 2) := by decide +kernel
theorem dX4_grownTogether_5 : decode cX4_grownTogether 5 = .ok (.iload 4, 2) := by decide +kernel
theorem dX4_grownTogether_7 : decode cX4_grownTogether 7 = .ok (.aload_n 0, 1) := by decide +kernel
theorem dX4_grownTogether_8 : decode cX4_grownTogether 8 = .ok (.getfield 50, 3) := by decide +kernel
theorem dX4_grownTogether_11 : decode cX4_grownTogether 11 = .ok (.if_icmp .ge 38, 3) := by decide +kernel
theorem dX4_grownTogether_14 : decode cX4_grownTogether 14 = .ok (.iload 4, 2) := by decide +kernel
theorem dX4_grownTogether_16 : decode cX4_grownTogether 16 = .ok (.bipush 8, 2) := by decide +kernel
theorem dX4_grownTogether_18 : decode cX4_grownTogether 18 = .ok (.if_icmp .ge 31, 3) := by decide +kernel
theorem dX4_grownTogether_21 : decode cX4_grownTogether 21 = .ok (.iload_n 1, 1) := by decide +kernel
theorem dX4_grownTogether_22 : decode cX4_grownTogether 22 = .ok (.iload 4, 2) := by decide +kernel
theorem dX4_grownTogether_24 : decode cX4_grownTogether 24 = .ok (.ishr, 1) := by decide +kernel
theorem dX4_grownTogether_25 : decode cX4_grownTogether 25 = .ok (.iconst 1, 1) := by decide +kernel
theorem dX4_grownTogether_26 : decode cX4_grownTogether 26 = .ok (.iand, 1) := by decide +kernel
theorem dX4_grownTogether_27 : decode cX4_grownTogether 27 = .ok (.iconst 1, 1) := by decide +kernel
theorem dX4_grownTogether_28 : decode cX4_grownTogether 28 = .ok (.if_icmp .ne 15, 3) := by decide +kernel
theorem dX4_grownTogether_31 : decode cX4_grownTogether 31 = .ok (.iload_n 3, 1) := by decide +kernel
theorem dX4_grownTogether_32 : decode cX4_grownTogether 32 = .ok (.aload_n 0, 1) := by decide +kernel
theorem dX4_grownTogether_33 : decode cX4_grownTogether 33 = .ok (.iload_n 2, 1) := by decide +kernel
theorem dX4_grownTogether_34 : decode cX4_grownTogether 34 = .ok (.iload 4, 2) := by decide +kernel
theorem dX4_grownTogether_36 : decode cX4_grownTogether 36 = .ok (.iconst 0, 1) := by decide +kernel
theorem dX4_grownTogether_37 : decode cX4_grownTogether 37 = .ok (.iconst 0, 1) := by decide +kernel
theorem dX4_grownTogether_38 : decode cX4_grownTogether 38 = .ok (.invokevirtual 94, 3) := by decide +kernel
theorem dX4_grownTogether_41 : decode cX4_grownTogether 41 = .ok (.iadd, 1) := by decide +kernel
theorem dX4_grownTogether_42 : decode cX4_grownTogether 42 = .ok (.istore_n 3, 1) := by decide +kernel
theorem dX4_grownTogether_43 : decode cX4_grownTogether 43 = .ok (.iinc 4 1, 3) := by decide +kernel
theorem dX4_grownTogether_46 : decode cX4_grownTogether 46 = .ok (.goto (-41), 3) := by decide +kernel
theorem dX4_grownTogether_49 : decode cX4_grownTogether 49 = .ok (.iload_n 3, 1) := by decide +kernel
theorem dX4_grownTogether_50 : decode cX4_grownTogether 50 = .ok (.ireturn, 1) := by decide +kernel
theorem mw_X4_grownTogether : MW yX4_grownTogether cX4_grownTogether 5 0 2 false := ⟨tm 1338 (by decide +kernel) rfl, tm 242 (by decide +kernel) rfl, by decide, by decide, (by rw [if_neg (by decide)]; exact ⟨tm 1337 (by decide +kernel) rfl, tm 89 (by decide +kernel) rfl⟩)⟩
def Pr_grownTogether_L5 (pr0 : Nat) (a1 : Int) (a2 : Int) : Nat → Int → Int → Sg → Rs
  | 0, _, _, _ => none
  | n + 1, v3, v4, σ => (if v4 < (σ pr0 10) then (if v4 < 8 then (if (an32 (sr32 a1 v4) 1) = 1 then (bd (Pr_lengthOn pr0 a2 v4 0 0 σ) (fun r1 s2 => (nm (w32 (v3 + r1)) (fun x3 => (nm (w32 (v4 + 1)) (fun x4 => (Pr_grownTogether_L5 pr0 a1 a2 n x3 x4 s2))))))) else (nm (w32 (v4 + 1)) (fun x5 => (Pr_grownTogether_L5 pr0 a1 a2 n v3 x5 σ)))) else (some (v3, σ))) else (some (v3, σ)))
theorem ok_Pr_grownTogether_L5 (pr0 : Nat) (a1 : Int) (a2 : Int) (hpr0 : Kh[pr0]? = some (.inl 4)) : ∀ (n : Nat) (v3 v4 : Int) (σ : Sg), G l Kh Ph RX4 cX4_grownTogether 5 0 2 5 [some (.inr (.inr pr0)), some (.inl a1), some (.inl a2), some (.inl v3), some (.inl v4)] [] σ (Pr_grownTogether_L5 pr0 a1 a2 n v3 v4 σ) := by
  intro n
  induction n with
  | zero => intros; exact G.none_
  | succ n ih =>
    intro v3 v4 σ
    rw [Pr_grownTogether_L5]
    refine g_iload dX4_grownTogether_5 rfl ?_
    refine g_aload_n dX4_grownTogether_7 rfl rfl ?_
    refine g_geti fl_RX4_50 hpr0 (by decide) dX4_grownTogether_8 ?_
    refine g_icmpge (tgt := 49) dX4_grownTogether_11 (by decide) ?_ ?_
    · refine g_iload dX4_grownTogether_14 rfl ?_
      refine g_bipush dX4_grownTogether_16 (by decide) ?_
      refine g_icmpge (tgt := 49) dX4_grownTogether_18 (by decide) ?_ ?_
      · refine g_iload_n dX4_grownTogether_21 rfl rfl ?_
        refine g_iload dX4_grownTogether_22 rfl ?_
        refine g_ishr dX4_grownTogether_24 ?_
        refine g_iconst dX4_grownTogether_25 (by decide) ?_
        refine g_iand dX4_grownTogether_26 ?_
        refine g_iconst dX4_grownTogether_27 (by decide) ?_
        refine g_icmpne (tgt := 43) dX4_grownTogether_28 (by decide) ?_ ?_
        · refine g_iload_n dX4_grownTogether_31 rfl rfl ?_
          refine g_aload_n dX4_grownTogether_32 rfl rfl ?_
          refine g_iload_n dX4_grownTogether_33 rfl rfl ?_
          refine g_iload dX4_grownTogether_34 rfl ?_
          refine g_iconst dX4_grownTogether_36 (by decide) ?_
          refine g_iconst dX4_grownTogether_37 (by decide) ?_
          refine g_callv0 (st := [.inl v3]) 4 mw_X4_lengthOn lk_RX4_94 rfl hpr0 (ok_Pr_lengthOn pr0 a2 v4 0 0 hpr0 σ) (Nat.le_of_ble_eq_true rfl) rfl rfl (Nat.le_of_ble_eq_true rfl) dX4_grownTogether_38 ?_
          intro r1 s2
          refine g_iadd dX4_grownTogether_41 ?_
          refine n_istore_n (fun x3 => [some (.inr (.inr pr0)), some (.inl a1), some (.inl a2), some (.inl x3), some (.inl v4)]) dX4_grownTogether_42 rfl (Nat.le_of_ble_eq_true rfl) (fun _ => rfl) ?_
          intro x3
          refine n_iinc (fun x4 => [some (.inr (.inr pr0)), some (.inl a1), some (.inl a2), some (.inl x3), some (.inl x4)]) dX4_grownTogether_43 rfl (Nat.le_of_ble_eq_true rfl) (fun _ => rfl) ?_
          intro x4
          refine g_goto (tgt := 5) dX4_grownTogether_46 (by decide) ?_
          exact (ih x3 x4 s2)
        · refine n_iinc (fun x5 => [some (.inr (.inr pr0)), some (.inl a1), some (.inl a2), some (.inl v3), some (.inl x5)]) dX4_grownTogether_43 rfl (Nat.le_of_ble_eq_true rfl) (fun _ => rfl) ?_
          intro x5
          refine g_goto (tgt := 5) dX4_grownTogether_46 (by decide) ?_
          exact (ih v3 x5 σ)
      · refine g_iload_n dX4_grownTogether_49 rfl rfl ?_
        exact g_iret dX4_grownTogether_50
    · refine g_iload_n dX4_grownTogether_49 rfl rfl ?_
      exact g_iret dX4_grownTogether_50
def Pr_grownTogether (pr0 : Nat) (a1 : Int) (a2 : Int) (σ : Sg) : Rs := (Pr_grownTogether_L5 pr0 a1 a2 fu 0 0 σ)
theorem ok_Pr_grownTogether (pr0 : Nat) (a1 : Int) (a2 : Int) (hpr0 : Kh[pr0]? = some (.inl 4)) (σ : Sg) : MC l Kh Ph yX4_grownTogether cX4_grownTogether 5 0 2 [.inr (.inr pr0), .inl a1, .inl a2] σ (Pr_grownTogether pr0 a1 a2 σ) := by
  refine mc_of (by decide) (Nat.le_of_ble_eq_true rfl) ?_
  change G l Kh Ph RX4 cX4_grownTogether 5 0 2 0 [some (.inr (.inr pr0)), some (.inl a1), some (.inl a2), none, none] [] σ (Pr_grownTogether pr0 a1 a2 σ)
  unfold Pr_grownTogether
  refine g_iconst dX4_grownTogether_0 (by decide) ?_
  refine g_istore_n (lv' := [some (.inr (.inr pr0)), some (.inl a1), some (.inl a2), some (.inl 0), none]) dX4_grownTogether_1 rfl (Nat.le_of_ble_eq_true rfl) rfl ?_
  refine g_iconst dX4_grownTogether_2 (by decide) ?_
  refine g_istore (lv' := [some (.inr (.inr pr0)), some (.inl a1), some (.inl a2), some (.inl 0), some (.inl 0)]) dX4_grownTogether_3 (Nat.le_of_ble_eq_true rfl) rfl ?_
  refine (ok_Pr_grownTogether_L5 pr0 a1 a2 hpr0 fu 0 0 σ)
theorem dX4_isWordSet_0 : decode cX4_isWordSet 0 = .ok (.iload_n 1, 1) := by decide +kernel
theorem dX4_isWordSet_1 : decode cX4_isWordSet 1 = .ok (.ifCond .lt 17, 3) := by decide +kernel
theorem dX4_isWordSet_4 : decode cX4_isWordSet 4 = .ok (.iload_n 1, 1) := by decide +kernel
theorem dX4_isWordSet_5 : decode cX4_isWordSet 5 = .ok (.iconst 1, 1) := by decide +kernel
theorem dX4_isWordSet_6 : decode cX4_isWordSet 6 = .ok (.aload_n 0, 1) := by decide +kernel
theorem dX4_isWordSet_7 : decode cX4_isWordSet 7 = .ok (.getfield 50, 3) := by decide +kernel
theorem dX4_isWordSet_10 : decode cX4_isWordSet 10 = .ok (.ishl, 1) := by decide +kernel
theorem dX4_isWordSet_11 : decode cX4_isWordSet 11 = .ok (.if_icmp .ge 7, 3) := by decide +kernel
theorem dX4_isWordSet_14 : decode cX4_isWordSet 14 = .ok (.iconst 1, 1) := by decide +kernel
theorem dX4_isWordSet_15 : decode cX4_isWordSet 15 = .ok (.goto 4, 3) := by decide +kernel
theorem dX4_isWordSet_18 : decode cX4_isWordSet 18 = .ok (.iconst 0, 1) := by decide +kernel
theorem dX4_isWordSet_19 : decode cX4_isWordSet 19 = .ok (.ireturn, 1) := by decide +kernel
theorem mw_X4_isWordSet : MW yX4_isWordSet cX4_isWordSet 2 3 1 false := ⟨tm 1334 (by decide +kernel) rfl, tm 242 (by decide +kernel) rfl, by decide, by decide, (by rw [if_neg (by decide)]; exact ⟨tm 1333 (by decide +kernel) rfl, tm 88 (by decide +kernel) rfl⟩)⟩
def Pr_isWordSet (pr0 : Nat) (a1 : Int) (σ : Sg) : Rs := (if a1 < 0 then (some (0, σ)) else (if a1 < (sl32 1 (σ pr0 10)) then (some (1, σ)) else (some (0, σ))))
theorem ok_Pr_isWordSet (pr0 : Nat) (a1 : Int) (hpr0 : Kh[pr0]? = some (.inl 4)) (σ : Sg) : MC l Kh Ph yX4_isWordSet cX4_isWordSet 2 3 1 [.inr (.inr pr0), .inl a1] σ (Pr_isWordSet pr0 a1 σ) := by
  refine mc_of (by decide) (Nat.le_of_ble_eq_true rfl) ?_
  change G l Kh Ph RX4 cX4_isWordSet 2 3 1 0 [some (.inr (.inr pr0)), some (.inl a1)] [] σ (Pr_isWordSet pr0 a1 σ)
  unfold Pr_isWordSet
  refine g_iload_n dX4_isWordSet_0 rfl rfl ?_
  refine g_iflt (tgt := 18) dX4_isWordSet_1 (by decide) ?_ ?_
  · refine g_iconst dX4_isWordSet_18 (by decide) ?_
    exact g_zret0 dX4_isWordSet_19
  · refine g_iload_n dX4_isWordSet_4 rfl rfl ?_
    refine g_iconst dX4_isWordSet_5 (by decide) ?_
    refine g_aload_n dX4_isWordSet_6 rfl rfl ?_
    refine g_geti fl_RX4_50 hpr0 (by decide) dX4_isWordSet_7 ?_
    refine g_ishl dX4_isWordSet_10 ?_
    refine g_icmpge (tgt := 18) dX4_isWordSet_11 (by decide) ?_ ?_
    · refine g_iconst dX4_isWordSet_14 (by decide) ?_
      refine g_goto (tgt := 19) dX4_isWordSet_15 (by decide) ?_
      exact g_zret1 dX4_isWordSet_19
    · refine g_iconst dX4_isWordSet_18 (by decide) ?_
      exact g_zret0 dX4_isWordSet_19
theorem dX11_daysFor_0 : decode cX11_daysFor 0 = .ok (.aload_n 0, 1) := by decide +kernel
theorem dX11_daysFor_1 : decode cX11_daysFor 1 = .ok (.getfield 43, 3) := by decide +kernel
theorem dX11_daysFor_4 : decode cX11_daysFor 4 = .ok (.iload_n 1, 1) := by decide +kernel
theorem dX11_daysFor_5 : decode cX11_daysFor 5 = .ok (.invokevirtual 376, 3) := by decide +kernel
theorem dX11_daysFor_8 : decode cX11_daysFor 8 = .ok (.ifCond .eq 14, 3) := by decide +kernel
theorem dX11_daysFor_11 : decode cX11_daysFor 11 = .ok (.iload_n 2, 1) := by decide +kernel
theorem dX11_daysFor_12 : decode cX11_daysFor 12 = .ok (.iconst 0, 1) := by decide +kernel
theorem dX11_daysFor_13 : decode cX11_daysFor 13 = .ok (.sipush 9999, 3) := by decide +kernel
theorem dX11_daysFor_16 : decode cX11_daysFor 16 = .ok (.invokestatic 135, 3) := by decide +kernel
theorem dX11_daysFor_19 : decode cX11_daysFor 19 = .ok (.ifCond .ne 9, 3) := by decide +kernel
theorem dX11_daysFor_22 : decode cX11_daysFor 22 = .ok (.aload_n 0, 1) := by decide +kernel
theorem dX11_daysFor_23 : decode cX11_daysFor 23 = .ok (.iconst 5, 1) := by decide +kernel
theorem dX11_daysFor_24 : decode cX11_daysFor 24 = .ok (.invokevirtual 147, 3) := by decide +kernel
theorem dX11_daysFor_27 : decode cX11_daysFor 27 = .ok (.ireturn, 1) := by decide +kernel
theorem dX11_daysFor_28 : decode cX11_daysFor 28 = .ok (.iconst 0, 1) := by decide +kernel
theorem dX11_daysFor_29 : decode cX11_daysFor 29 = .ok (.istore_n 3, 1) := by decide +kernel
theorem dX11_daysFor_30 : decode cX11_daysFor 30 = .ok (.iload_n 3, 1) := by decide +kernel
theorem dX11_daysFor_31 : decode cX11_daysFor 31 = .ok (.bipush 99, 2) := by decide +kernel
theorem dX11_daysFor_33 : decode cX11_daysFor 33 = .ok (.if_icmp .gt 28, 3) := by decide +kernel
theorem dX11_daysFor_36 : decode cX11_daysFor 36 = .ok (.aload_n 0, 1) := by decide +kernel
theorem dX11_daysFor_37 : decode cX11_daysFor 37 = .ok (.getfield 43, 3) := by decide +kernel
theorem dX11_daysFor_40 : decode cX11_daysFor 40 = .ok (.iload_n 1, 1) := by decide +kernel
theorem dX11_daysFor_41 : decode cX11_daysFor 41 = .ok (.iload_n 3, 1) := by decide +kernel
theorem dX11_daysFor_42 : decode cX11_daysFor 42 = .ok (.invokevirtual 379, 3) := by decide +kernel
theorem dX11_daysFor_45 : decode cX11_daysFor 45 = .ok (.iload_n 2, 1) := by decide +kernel
theorem dX11_daysFor_46 : decode cX11_daysFor 46 = .ok (.if_icmp .lt 9, 3) := by decide +kernel
theorem dX11_daysFor_49 : decode cX11_daysFor 49 = .ok (.aload_n 0, 1) := by decide +kernel
theorem dX11_daysFor_50 : decode cX11_daysFor 50 = .ok (.iload_n 3, 1) := by decide +kernel
theorem dX11_daysFor_51 : decode cX11_daysFor 51 = .ok (.invokevirtual 194, 3) := by decide +kernel
theorem dX11_daysFor_54 : decode cX11_daysFor 54 = .ok (.ireturn, 1) := by decide +kernel
theorem dX11_daysFor_55 : decode cX11_daysFor 55 = .ok (.iinc 3 1, 3) := by decide +kernel
theorem dX11_daysFor_58 : decode cX11_daysFor 58 = .ok (.goto (-28), 3) := by decide +kernel
theorem dX11_daysFor_61 : decode cX11_daysFor 61 = .ok (.aload_n 0, 1) := by decide +kernel
theorem dX11_daysFor_62 : decode cX11_daysFor 62 = .ok (.bipush 8, 2) := by decide +kernel
theorem dX11_daysFor_64 : decode cX11_daysFor 64 = .ok (.invokevirtual 147, 3) := by decide +kernel
theorem dX11_daysFor_67 : decode cX11_daysFor 67 = .ok (.ireturn, 1) := by decide +kernel
theorem mw_X11_daysFor : MW yX11_daysFor cX11_daysFor 4 0 2 false := ⟨tm 1342 (by decide +kernel) rfl, tm 235 (by decide +kernel) rfl, by decide, by decide, (by rw [if_neg (by decide)]; exact ⟨tm 1340 (by decide +kernel) rfl, tm 1341 (by decide +kernel) rfl⟩)⟩
theorem lk_RX11_376 : LK RX11 376 yX4_isWordSet := Or.inr ⟨"HairProvince", tm 1331 (by decide +kernel) rfl⟩
theorem lk_RX11_379 : LK RX11 379 yX4_grownTogether := Or.inr ⟨"HairProvince", tm 1335 (by decide +kernel) rfl⟩
def H_daysFor_L30 (a1 : Int) (a2 : Int) : Nat → Int → Sg → Rs
  | 0, _, _ => none
  | n + 1, v3, σ => (if 99 < v3 then (bd (H_fail 8 σ) (fun r9 s10 => (some (r9, s10)))) else (bd (Pr_grownTogether 8 a1 v3 σ) (fun r11 s12 => (if r11 < a2 then (nm (w32 (v3 + 1)) (fun x13 => (H_daysFor_L30 a1 a2 n x13 s12))) else (bd (H_give v3 s12) (fun r14 s15 => (some (r14, s15))))))))
theorem ok_H_daysFor_L30 (a1 : Int) (a2 : Int) : ∀ (n : Nat) (v3 : Int) (σ : Sg), G l Kh Ph RX11 cX11_daysFor 4 0 3 30 [some (.inr (.inr 0)), some (.inl a1), some (.inl a2), some (.inl v3)] [] σ (H_daysFor_L30 a1 a2 n v3 σ) := by
  intro n
  induction n with
  | zero => intros; exact G.none_
  | succ n ih =>
    intro v3 σ
    rw [H_daysFor_L30]
    refine g_iload_n dX11_daysFor_30 rfl rfl ?_
    refine g_bipush dX11_daysFor_31 (by decide) ?_
    refine g_icmpgt (tgt := 61) dX11_daysFor_33 (by decide) ?_ ?_
    · refine g_aload_n dX11_daysFor_61 rfl rfl ?_
      refine g_bipush dX11_daysFor_62 (by decide) ?_
      refine g_callv0 (st := []) 9 mw_X11_fail lk_RX11_147 rfl kh_0 (ok_H_fail 8 σ) (Nat.le_of_ble_eq_true rfl) rfl rfl (Nat.le_of_ble_eq_true rfl) dX11_daysFor_64 ?_
      intro r9 s10
      exact g_iret dX11_daysFor_67
    · refine g_aload_n dX11_daysFor_36 rfl rfl ?_
      refine g_getr' (q := 8) fl_RX11_43 kh_0 (by decide) rfl dX11_daysFor_37 ?_
      refine g_iload_n dX11_daysFor_40 rfl rfl ?_
      refine g_iload_n dX11_daysFor_41 rfl rfl ?_
      refine g_callv0 (st := []) 4 mw_X4_grownTogether lk_RX11_379 rfl kh_8 (ok_Pr_grownTogether 8 a1 v3 kh_8 σ) (Nat.le_of_ble_eq_true rfl) rfl rfl (Nat.le_of_ble_eq_true rfl) dX11_daysFor_42 ?_
      intro r11 s12
      refine g_iload_n dX11_daysFor_45 rfl rfl ?_
      refine g_icmplt (tgt := 55) dX11_daysFor_46 (by decide) ?_ ?_
      · refine n_iinc (fun x13 => [some (.inr (.inr 0)), some (.inl a1), some (.inl a2), some (.inl x13)]) dX11_daysFor_55 rfl (Nat.le_of_ble_eq_true rfl) (fun _ => rfl) ?_
        intro x13
        refine g_goto (tgt := 30) dX11_daysFor_58 (by decide) ?_
        exact (ih x13 s12)
      · refine g_aload_n dX11_daysFor_49 rfl rfl ?_
        refine g_iload_n dX11_daysFor_50 rfl rfl ?_
        refine g_callv0 (st := []) 9 mw_X11_give lk_RX11_194 rfl kh_0 (ok_H_give v3 s12) (Nat.le_of_ble_eq_true rfl) rfl rfl (Nat.le_of_ble_eq_true rfl) dX11_daysFor_51 ?_
        intro r14 s15
        exact g_iret dX11_daysFor_54
def H_daysFor (a1 : Int) (a2 : Int) (σ : Sg) : Rs := (bd (Pr_isWordSet 8 a1 σ) (fun r1 s2 => (if r1 = 0 then (bd (H_fail 5 s2) (fun r3 s4 => (some (r3, s4)))) else (bd (H_within a2 0 9999 s2) (fun r5 s6 => (if r5 = 0 then (bd (H_fail 5 s6) (fun r7 s8 => (some (r7, s8)))) else (H_daysFor_L30 a1 a2 fu 0 s6)))))))
theorem ok_H_daysFor (a1 : Int) (a2 : Int) (σ : Sg) : MC l Kh Ph yX11_daysFor cX11_daysFor 4 0 3 [.inr (.inr 0), .inl a1, .inl a2] σ (H_daysFor a1 a2 σ) := by
  refine mc_of (by decide) (Nat.le_of_ble_eq_true rfl) ?_
  change G l Kh Ph RX11 cX11_daysFor 4 0 3 0 [some (.inr (.inr 0)), some (.inl a1), some (.inl a2), none] [] σ (H_daysFor a1 a2 σ)
  unfold H_daysFor
  refine g_aload_n dX11_daysFor_0 rfl rfl ?_
  refine g_getr' (q := 8) fl_RX11_43 kh_0 (by decide) rfl dX11_daysFor_1 ?_
  refine g_iload_n dX11_daysFor_4 rfl rfl ?_
  refine g_callv3 (st := []) 4 mw_X4_isWordSet lk_RX11_376 rfl kh_8 (ok_Pr_isWordSet 8 a1 kh_8 σ) (Nat.le_of_ble_eq_true rfl) rfl rfl (Nat.le_of_ble_eq_true rfl) dX11_daysFor_5 ?_
  intro r1 s2
  refine g_ifeq (tgt := 22) dX11_daysFor_8 (by decide) ?_ ?_
  · refine g_aload_n dX11_daysFor_22 rfl rfl ?_
    refine g_iconst dX11_daysFor_23 (by decide) ?_
    refine g_callv0 (st := []) 9 mw_X11_fail lk_RX11_147 rfl kh_0 (ok_H_fail 5 s2) (Nat.le_of_ble_eq_true rfl) rfl rfl (Nat.le_of_ble_eq_true rfl) dX11_daysFor_24 ?_
    intro r3 s4
    exact g_iret dX11_daysFor_27
  · refine g_iload_n dX11_daysFor_11 rfl rfl ?_
    refine g_iconst dX11_daysFor_12 (by decide) ?_
    refine g_sipush dX11_daysFor_13 (by decide) ?_
    refine g_calls3 (st := []) mw_X11_within lk_RX11_135 (ok_H_within a2 0 9999 s2) (Nat.le_of_ble_eq_true rfl) rfl rfl (Nat.le_of_ble_eq_true rfl) dX11_daysFor_16 ?_
    intro r5 s6
    refine g_ifne (tgt := 28) dX11_daysFor_19 (by decide) ?_ ?_
    · refine g_aload_n dX11_daysFor_22 rfl rfl ?_
      refine g_iconst dX11_daysFor_23 (by decide) ?_
      refine g_callv0 (st := []) 9 mw_X11_fail lk_RX11_147 rfl kh_0 (ok_H_fail 5 s6) (Nat.le_of_ble_eq_true rfl) rfl rfl (Nat.le_of_ble_eq_true rfl) dX11_daysFor_24 ?_
      intro r7 s8
      exact g_iret dX11_daysFor_27
    · refine g_iconst dX11_daysFor_28 (by decide) ?_
      refine g_istore_n (lv' := [some (.inr (.inr 0)), some (.inl a1), some (.inl a2), some (.inl 0)]) dX11_daysFor_29 rfl (Nat.le_of_ble_eq_true rfl) rfl ?_
      refine (ok_H_daysFor_L30 a1 a2 fu 0 s6)
theorem dX4_isDinner_0 : decode cX4_isDinner 0 = .ok (.iload_n 1, 1) := by decide +kernel
theorem dX4_isDinner_1 : decode cX4_isDinner 1 = .ok (.ifCond .lt 21, 3) := by decide +kernel
theorem dX4_isDinner_4 : decode cX4_isDinner 4 = .ok (.iload_n 1, 1) := by decide +kernel
theorem dX4_isDinner_5 : decode cX4_isDinner 5 = .ok (.aload_n 0, 1) := by decide +kernel
theorem dX4_isDinner_6 : decode cX4_isDinner 6 = .ok (.getfield 56, 3) := by decide +kernel
theorem dX4_isDinner_9 : decode cX4_isDinner 9 = .ok (.if_icmp .ge 13, 3) := by decide +kernel
theorem dX4_isDinner_12 : decode cX4_isDinner 12 = .ok (.iload_n 1, 1) := by decide +kernel
theorem dX4_isDinner_13 : decode cX4_isDinner 13 = .ok (.bipush 6, 2) := by decide +kernel
theorem dX4_isDinner_15 : decode cX4_isDinner 15 = .ok (.if_icmp .ge 7, 3) := by decide +kernel
theorem dX4_isDinner_18 : decode cX4_isDinner 18 = .ok (.iconst 1, 1) := by decide +kernel
theorem dX4_isDinner_19 : decode cX4_isDinner 19 = .ok (.goto 4, 3) := by decide +kernel
theorem dX4_isDinner_22 : decode cX4_isDinner 22 = .ok (.iconst 0, 1) := by decide +kernel
theorem dX4_isDinner_23 : decode cX4_isDinner 23 = .ok (.ireturn, 1) := by decide +kernel
theorem mw_X4_isDinner : MW yX4_isDinner cX4_isDinner 2 3 1 false := ⟨tm 1124 (by decide +kernel) rfl, tm 242 (by decide +kernel) rfl, by decide, by decide, (by rw [if_neg (by decide)]; exact ⟨tm 1123 (by decide +kernel) rfl, tm 65 (by decide +kernel) rfl⟩)⟩
def Pr_isDinner (pr0 : Nat) (a1 : Int) (σ : Sg) : Rs := (if a1 < 0 then (some (0, σ)) else (if a1 < (σ pr0 12) then (if a1 < 6 then (some (1, σ)) else (some (0, σ))) else (some (0, σ))))
theorem ok_Pr_isDinner (pr0 : Nat) (a1 : Int) (hpr0 : Kh[pr0]? = some (.inl 4)) (σ : Sg) : MC l Kh Ph yX4_isDinner cX4_isDinner 2 3 1 [.inr (.inr pr0), .inl a1] σ (Pr_isDinner pr0 a1 σ) := by
  refine mc_of (by decide) (Nat.le_of_ble_eq_true rfl) ?_
  change G l Kh Ph RX4 cX4_isDinner 2 3 1 0 [some (.inr (.inr pr0)), some (.inl a1)] [] σ (Pr_isDinner pr0 a1 σ)
  unfold Pr_isDinner
  refine g_iload_n dX4_isDinner_0 rfl rfl ?_
  refine g_iflt (tgt := 22) dX4_isDinner_1 (by decide) ?_ ?_
  · refine g_iconst dX4_isDinner_22 (by decide) ?_
    exact g_zret0 dX4_isDinner_23
  · refine g_iload_n dX4_isDinner_4 rfl rfl ?_
    refine g_aload_n dX4_isDinner_5 rfl rfl ?_
    refine g_geti fl_RX4_56 hpr0 (by decide) dX4_isDinner_6 ?_
    refine g_icmpge (tgt := 22) dX4_isDinner_9 (by decide) ?_ ?_
    · refine g_iload_n dX4_isDinner_12 rfl rfl ?_
      refine g_bipush dX4_isDinner_13 (by decide) ?_
      refine g_icmpge (tgt := 22) dX4_isDinner_15 (by decide) ?_ ?_
      · refine g_iconst dX4_isDinner_18 (by decide) ?_
        refine g_goto (tgt := 23) dX4_isDinner_19 (by decide) ?_
        exact g_zret1 dX4_isDinner_23
      · refine g_iconst dX4_isDinner_22 (by decide) ?_
        exact g_zret0 dX4_isDinner_23
    · refine g_iconst dX4_isDinner_22 (by decide) ?_
      exact g_zret0 dX4_isDinner_23
theorem dX4_dinnerFact_0 : decode cX4_dinnerFact 0 = .ok (.aload_n 0, 1) := by decide +kernel
theorem dX4_dinnerFact_1 : decode cX4_dinnerFact 1 = .ok (.iload_n 1, 1) := by decide +kernel
theorem dX4_dinnerFact_2 : decode cX4_dinnerFact 2 = .ok (.invokevirtual 84, 3) := by decide +kernel
theorem dX4_dinnerFact_5 : decode cX4_dinnerFact 5 = .ok (.ifCond .eq 16, 3) := by decide +kernel
theorem dX4_dinnerFact_8 : decode cX4_dinnerFact 8 = .ok (.iload_n 2, 1) := by decide +kernel
theorem dX4_dinnerFact_9 : decode cX4_dinnerFact 9 = .ok (.ifCond .lt 12, 3) := by decide +kernel
theorem dX4_dinnerFact_12 : decode cX4_dinnerFact 12 = .ok (.iload_n 2, 1) := by decide +kernel
theorem dX4_dinnerFact_13 : decode cX4_dinnerFact 13 = .ok (.iconst 3, 1) := by decide +kernel
theorem dX4_dinnerFact_14 : decode cX4_dinnerFact 14 = .ok (.if_icmp .ge 7, 3) := by decide +kernel
theorem dX4_dinnerFact_17 : decode cX4_dinnerFact 17 = .ok (.iconst 1, 1) := by decide +kernel
theorem dX4_dinnerFact_18 : decode cX4_dinnerFact 18 = .ok (.goto 4, 3) := by decide +kernel
theorem dX4_dinnerFact_21 : decode cX4_dinnerFact 21 = .ok (.iconst 0, 1) := by decide +kernel
theorem dX4_dinnerFact_22 : decode cX4_dinnerFact 22 = .ok (.istore_n 3, 1) := by decide +kernel
theorem dX4_dinnerFact_23 : decode cX4_dinnerFact 23 = .ok (.iload_n 3, 1) := by decide +kernel
theorem dX4_dinnerFact_24 : decode cX4_dinnerFact 24 = .ok (.ifCond .eq 16, 3) := by decide +kernel
theorem dX4_dinnerFact_27 : decode cX4_dinnerFact 27 = .ok (.aload_n 0, 1) := by decide +kernel
theorem dX4_dinnerFact_28 : decode cX4_dinnerFact 28 = .ok (.getfield 40, 3) := by decide +kernel
theorem dX4_dinnerFact_31 : decode cX4_dinnerFact 31 = .ok (.iload_n 1, 1) := by decide +kernel
theorem dX4_dinnerFact_32 : decode cX4_dinnerFact 32 = .ok (.iconst 3, 1) := by decide +kernel
theorem dX4_dinnerFact_33 : decode cX4_dinnerFact 33 = .ok (.imul, 1) := by decide +kernel
theorem dX4_dinnerFact_34 : decode cX4_dinnerFact 34 = .ok (.iload_n 2, 1) := by decide +kernel
theorem dX4_dinnerFact_35 : decode cX4_dinnerFact 35 = .ok (.iadd, 1) := by decide +kernel
theorem dX4_dinnerFact_36 : decode cX4_dinnerFact 36 = .ok (.iaload, 1) := by decide +kernel
theorem dX4_dinnerFact_37 : decode cX4_dinnerFact 37 = .ok (.goto 4, 3) := by decide +kernel
theorem dX4_dinnerFact_40 : decode cX4_dinnerFact 40 = .ok (.iconst (-1), 1) := by decide +kernel
theorem dX4_dinnerFact_41 : decode cX4_dinnerFact 41 = .ok (.ireturn, 1) := by decide +kernel
theorem mw_X4_dinnerFact : MW yX4_dinnerFact cX4_dinnerFact 4 0 2 false := ⟨tm 1120 (by decide +kernel) rfl, tm 242 (by decide +kernel) rfl, by decide, by decide, (by rw [if_neg (by decide)]; exact ⟨tm 1119 (by decide +kernel) rfl, tm 64 (by decide +kernel) rfl⟩)⟩
theorem lk_RX4_84 : LK RX4 84 yX4_isDinner := Or.inl (tm 1121 (by decide +kernel) rfl)
def Pr_dinnerFact_J22 (pr0 : Nat) (a1 : Int) (a2 : Int) (t0 : Int) (σ : Sg) : Rs := (if t0 = 0 then (some ((-1), σ)) else (rd 18 (w32 ((w32 (a1 * 3)) + a2)) (σ (pr0 + 10) (Int.toNat (w32 ((w32 (a1 * 3)) + a2)))) (fun x3 => (some (x3, σ)))))
theorem ok_Pr_dinnerFact_J22 (pr0 : Nat) (a1 : Int) (a2 : Int) (hpr0 : Kh[pr0]? = some (.inl 4)) : ∀ (t0 : Int) (σ : Sg), G l Kh Ph RX4 cX4_dinnerFact 4 0 2 22 [some (.inr (.inr pr0)), some (.inl a1), some (.inl a2), none] [.inl t0] σ (Pr_dinnerFact_J22 pr0 a1 a2 t0 σ) := by
  intro t0 σ
  unfold Pr_dinnerFact_J22
  refine g_istore_n (lv' := [some (.inr (.inr pr0)), some (.inl a1), some (.inl a2), some (.inl t0)]) dX4_dinnerFact_22 rfl (Nat.le_of_ble_eq_true rfl) rfl ?_
  refine g_iload_n dX4_dinnerFact_23 rfl rfl ?_
  refine g_ifeq (tgt := 40) dX4_dinnerFact_24 (by decide) ?_ ?_
  · refine g_iconst dX4_dinnerFact_40 (by decide) ?_
    exact g_iret dX4_dinnerFact_41
  · refine g_aload_n dX4_dinnerFact_27 rfl rfl ?_
    refine g_getr' (q := (pr0 + 10)) fl_RX4_40 hpr0 (by decide) (qp9 hpr0) dX4_dinnerFact_28 ?_
    refine g_iload_n dX4_dinnerFact_31 rfl rfl ?_
    refine g_iconst dX4_dinnerFact_32 (by decide) ?_
    refine g_imul dX4_dinnerFact_33 ?_
    refine g_iload_n dX4_dinnerFact_34 rfl rfl ?_
    refine g_iadd dX4_dinnerFact_35 ?_
    refine g_iald (kp9 hpr0) dX4_dinnerFact_36 ?_
    intro x3
    refine g_goto (tgt := 41) dX4_dinnerFact_37 (by decide) ?_
    exact g_iret dX4_dinnerFact_41
def Pr_dinnerFact_J21 (pr0 : Nat) (a1 : Int) (a2 : Int) (σ : Sg) : Rs := (Pr_dinnerFact_J22 pr0 a1 a2 0 σ)
theorem ok_Pr_dinnerFact_J21 (pr0 : Nat) (a1 : Int) (a2 : Int) (hpr0 : Kh[pr0]? = some (.inl 4)) : ∀ (σ : Sg), G l Kh Ph RX4 cX4_dinnerFact 4 0 2 21 [some (.inr (.inr pr0)), some (.inl a1), some (.inl a2), none] [] σ (Pr_dinnerFact_J21 pr0 a1 a2  σ) := by
  intro σ
  unfold Pr_dinnerFact_J21
  refine g_iconst dX4_dinnerFact_21 (by decide) ?_
  refine (ok_Pr_dinnerFact_J22 pr0 a1 a2 hpr0 0 σ)
def Pr_dinnerFact (pr0 : Nat) (a1 : Int) (a2 : Int) (σ : Sg) : Rs := (bd (Pr_isDinner pr0 a1 σ) (fun r1 s2 => (if r1 = 0 then (Pr_dinnerFact_J21 pr0 a1 a2 s2) else (if a2 < 0 then (Pr_dinnerFact_J21 pr0 a1 a2 s2) else (if a2 < 3 then (Pr_dinnerFact_J22 pr0 a1 a2 1 s2) else (Pr_dinnerFact_J21 pr0 a1 a2 s2))))))
theorem ok_Pr_dinnerFact (pr0 : Nat) (a1 : Int) (a2 : Int) (hpr0 : Kh[pr0]? = some (.inl 4)) (σ : Sg) : MC l Kh Ph yX4_dinnerFact cX4_dinnerFact 4 0 2 [.inr (.inr pr0), .inl a1, .inl a2] σ (Pr_dinnerFact pr0 a1 a2 σ) := by
  refine mc_of (by decide) (Nat.le_of_ble_eq_true rfl) ?_
  change G l Kh Ph RX4 cX4_dinnerFact 4 0 2 0 [some (.inr (.inr pr0)), some (.inl a1), some (.inl a2), none] [] σ (Pr_dinnerFact pr0 a1 a2 σ)
  unfold Pr_dinnerFact
  refine g_aload_n dX4_dinnerFact_0 rfl rfl ?_
  refine g_iload_n dX4_dinnerFact_1 rfl rfl ?_
  refine g_callv3 (st := []) 4 mw_X4_isDinner lk_RX4_84 rfl hpr0 (ok_Pr_isDinner pr0 a1 hpr0 σ) (Nat.le_of_ble_eq_true rfl) rfl rfl (Nat.le_of_ble_eq_true rfl) dX4_dinnerFact_2 ?_
  intro r1 s2
  refine g_ifeq (tgt := 21) dX4_dinnerFact_5 (by decide) ?_ ?_
  · refine (ok_Pr_dinnerFact_J21 pr0 a1 a2 hpr0 s2)
  · refine g_iload_n dX4_dinnerFact_8 rfl rfl ?_
    refine g_iflt (tgt := 21) dX4_dinnerFact_9 (by decide) ?_ ?_
    · refine (ok_Pr_dinnerFact_J21 pr0 a1 a2 hpr0 s2)
    · refine g_iload_n dX4_dinnerFact_12 rfl rfl ?_
      refine g_iconst dX4_dinnerFact_13 (by decide) ?_
      refine g_icmpge (tgt := 21) dX4_dinnerFact_14 (by decide) ?_ ?_
      · refine g_iconst dX4_dinnerFact_17 (by decide) ?_
        refine g_goto (tgt := 22) dX4_dinnerFact_18 (by decide) ?_
        refine (ok_Pr_dinnerFact_J22 pr0 a1 a2 hpr0 1 s2)
      · refine (ok_Pr_dinnerFact_J21 pr0 a1 a2 hpr0 s2)
theorem dX4_daysTillDinner_0 : decode cX4_daysTillDinner 0 = .ok (.aload_n 0, 1) := by decide +kernel
theorem dX4_daysTillDinner_1 : decode cX4_daysTillDinner 1 = .ok (.iload_n 1, 1) := by decide +kernel
theorem dX4_daysTillDinner_2 : decode cX4_daysTillDinner 2 = .ok (.iconst 2, 1) := by decide +kernel
theorem dX4_daysTillDinner_3 : decode cX4_daysTillDinner 3 = .ok (.invokevirtual 131, 3) := by decide +kernel
theorem dX4_daysTillDinner_6 : decode cX4_daysTillDinner 6 = .ok (.istore_n 2, 1) := by decide +kernel
theorem dX4_daysTillDinner_7 : decode cX4_daysTillDinner 7 = .ok (.iload_n 2, 1) := by decide +kernel
theorem dX4_daysTillDinner_8 : decode cX4_daysTillDinner 8 = .ok (.ifCond .le 14, 3) := by decide +kernel
theorem dX4_daysTillDinner_11 : decode cX4_daysTillDinner 11 = .ok (.iload_n 2, 1) := by decide +kernel
theorem dX4_daysTillDinner_12 : decode cX4_daysTillDinner 12 = .ok (.aload_n 0, 1) := by decide +kernel
theorem dX4_daysTillDinner_13 : decode cX4_daysTillDinner 13 = .ok (.getfield 62, 3) := by decide +kernel
theorem dX4_daysTillDinner_16 : decode cX4_daysTillDinner 16 = .ok (.iload_n 2, 1) := by decide +kernel
theorem dX4_daysTillDinner_17 : decode cX4_daysTillDinner 17 = .ok (.irem, 1) := by decide +kernel
theorem dX4_daysTillDinner_18 : decode cX4_daysTillDinner 18 = .ok (.isub, 1) := by decide +kernel
theorem dX4_daysTillDinner_19 : decode cX4_daysTillDinner 19 = .ok (.goto 4, 3) := by decide +kernel
theorem dX4_daysTillDinner_22 : decode cX4_daysTillDinner 22 = .ok (.iconst (-1), 1) := by decide +kernel
theorem dX4_daysTillDinner_23 : decode cX4_daysTillDinner 23 = .ok (.ireturn, 1) := by decide +kernel
theorem mw_X4_daysTillDinner : MW yX4_daysTillDinner cX4_daysTillDinner 3 0 1 false := ⟨tm 1265 (by decide +kernel) rfl, tm 242 (by decide +kernel) rfl, by decide, by decide, (by rw [if_neg (by decide)]; exact ⟨tm 1264 (by decide +kernel) rfl, tm 78 (by decide +kernel) rfl⟩)⟩
theorem lk_RX4_131 : LK RX4 131 yX4_dinnerFact := Or.inl (tm 1261 (by decide +kernel) rfl)
def Pr_daysTillDinner (pr0 : Nat) (a1 : Int) (σ : Sg) : Rs := (bd (Pr_dinnerFact pr0 a1 2 σ) (fun r1 s2 => (if 0 < r1 then (dv r1 (rm32 (s2 pr0 16) r1) (fun x3 => (some ((w32 (r1 - x3)), s2)))) else (some ((-1), s2)))))
theorem ok_Pr_daysTillDinner (pr0 : Nat) (a1 : Int) (hpr0 : Kh[pr0]? = some (.inl 4)) (σ : Sg) : MC l Kh Ph yX4_daysTillDinner cX4_daysTillDinner 3 0 3 [.inr (.inr pr0), .inl a1] σ (Pr_daysTillDinner pr0 a1 σ) := by
  refine mc_of (by decide) (Nat.le_of_ble_eq_true rfl) ?_
  change G l Kh Ph RX4 cX4_daysTillDinner 3 0 3 0 [some (.inr (.inr pr0)), some (.inl a1), none] [] σ (Pr_daysTillDinner pr0 a1 σ)
  unfold Pr_daysTillDinner
  refine g_aload_n dX4_daysTillDinner_0 rfl rfl ?_
  refine g_iload_n dX4_daysTillDinner_1 rfl rfl ?_
  refine g_iconst dX4_daysTillDinner_2 (by decide) ?_
  refine g_callv0 (st := []) 4 mw_X4_dinnerFact lk_RX4_131 rfl hpr0 (ok_Pr_dinnerFact pr0 a1 2 hpr0 σ) (Nat.le_of_ble_eq_true rfl) rfl rfl (Nat.le_of_ble_eq_true rfl) dX4_daysTillDinner_3 ?_
  intro r1 s2
  refine g_istore_n (lv' := [some (.inr (.inr pr0)), some (.inl a1), some (.inl r1)]) dX4_daysTillDinner_6 rfl (Nat.le_of_ble_eq_true rfl) rfl ?_
  refine g_iload_n dX4_daysTillDinner_7 rfl rfl ?_
  refine g_ifle (tgt := 22) dX4_daysTillDinner_8 (by decide) ?_ ?_
  · refine g_iload_n dX4_daysTillDinner_11 rfl rfl ?_
    refine g_aload_n dX4_daysTillDinner_12 rfl rfl ?_
    refine g_geti fl_RX4_62 hpr0 (by decide) dX4_daysTillDinner_13 ?_
    refine g_iload_n dX4_daysTillDinner_16 rfl rfl ?_
    refine g_irem dX4_daysTillDinner_17 ?_
    intro x3
    refine g_isub dX4_daysTillDinner_18 ?_
    refine g_goto (tgt := 23) dX4_daysTillDinner_19 (by decide) ?_
    exact g_iret dX4_daysTillDinner_23
  · refine g_iconst dX4_daysTillDinner_22 (by decide) ?_
    exact g_iret dX4_daysTillDinner_23
theorem dX4_isAt_0 : decode cX4_isAt 0 = .ok (.aload_n 0, 1) := by decide +kernel
theorem dX4_isAt_1 : decode cX4_isAt 1 = .ok (.iload_n 1, 1) := by decide +kernel
theorem dX4_isAt_2 : decode cX4_isAt 2 = .ok (.iconst 0, 1) := by decide +kernel
theorem dX4_isAt_3 : decode cX4_isAt 3 = .ok (.invokevirtual 131, 3) := by decide +kernel
theorem dX4_isAt_6 : decode cX4_isAt 6 = .ok (.iload_n 2, 1) := by decide +kernel
theorem dX4_isAt_7 : decode cX4_isAt 7 = .ok (.if_icmp .eq 13, 3) := by decide +kernel
theorem dX4_isAt_10 : decode cX4_isAt 10 = .ok (.aload_n 0, 1) := by decide +kernel
theorem dX4_isAt_11 : decode cX4_isAt 11 = .ok (.iload_n 1, 1) := by decide +kernel
theorem dX4_isAt_12 : decode cX4_isAt 12 = .ok (.iconst 1, 1) := by decide +kernel
theorem dX4_isAt_13 : decode cX4_isAt 13 = .ok (.invokevirtual 131, 3) := by decide +kernel
theorem dX4_isAt_16 : decode cX4_isAt 16 = .ok (.iload_n 2, 1) := by decide +kernel
theorem dX4_isAt_17 : decode cX4_isAt 17 = .ok (.if_icmp .ne 7, 3) := by decide +kernel
theorem dX4_isAt_20 : decode cX4_isAt 20 = .ok (.iconst 1, 1) := by decide +kernel
theorem dX4_isAt_21 : decode cX4_isAt 21 = .ok (.goto 4, 3) := by decide +kernel
theorem dX4_isAt_24 : decode cX4_isAt 24 = .ok (.iconst 0, 1) := by decide +kernel
theorem dX4_isAt_25 : decode cX4_isAt 25 = .ok (.ireturn, 1) := by decide +kernel
theorem mw_X4_isAt : MW yX4_isAt cX4_isAt 3 3 2 false := ⟨tm 1260 (by decide +kernel) rfl, tm 242 (by decide +kernel) rfl, by decide, by decide, (by rw [if_neg (by decide)]; exact ⟨tm 1259 (by decide +kernel) rfl, tm 77 (by decide +kernel) rfl⟩)⟩
def Pr_isAt (pr0 : Nat) (a1 : Int) (a2 : Int) (σ : Sg) : Rs := (bd (Pr_dinnerFact pr0 a1 0 σ) (fun r1 s2 => (if r1 = a2 then (some (1, s2)) else (bd (Pr_dinnerFact pr0 a1 1 s2) (fun r3 s4 => (if r3 = a2 then (some (1, s4)) else (some (0, s4))))))))
theorem ok_Pr_isAt (pr0 : Nat) (a1 : Int) (a2 : Int) (hpr0 : Kh[pr0]? = some (.inl 4)) (σ : Sg) : MC l Kh Ph yX4_isAt cX4_isAt 3 3 3 [.inr (.inr pr0), .inl a1, .inl a2] σ (Pr_isAt pr0 a1 a2 σ) := by
  refine mc_of (by decide) (Nat.le_of_ble_eq_true rfl) ?_
  change G l Kh Ph RX4 cX4_isAt 3 3 3 0 [some (.inr (.inr pr0)), some (.inl a1), some (.inl a2)] [] σ (Pr_isAt pr0 a1 a2 σ)
  unfold Pr_isAt
  refine g_aload_n dX4_isAt_0 rfl rfl ?_
  refine g_iload_n dX4_isAt_1 rfl rfl ?_
  refine g_iconst dX4_isAt_2 (by decide) ?_
  refine g_callv0 (st := []) 4 mw_X4_dinnerFact lk_RX4_131 rfl hpr0 (ok_Pr_dinnerFact pr0 a1 0 hpr0 σ) (Nat.le_of_ble_eq_true rfl) rfl rfl (Nat.le_of_ble_eq_true rfl) dX4_isAt_3 ?_
  intro r1 s2
  refine g_iload_n dX4_isAt_6 rfl rfl ?_
  refine g_icmpeq (tgt := 20) dX4_isAt_7 (by decide) ?_ ?_
  · refine g_iconst dX4_isAt_20 (by decide) ?_
    refine g_goto (tgt := 25) dX4_isAt_21 (by decide) ?_
    exact g_zret1 dX4_isAt_25
  · refine g_aload_n dX4_isAt_10 rfl rfl ?_
    refine g_iload_n dX4_isAt_11 rfl rfl ?_
    refine g_iconst dX4_isAt_12 (by decide) ?_
    refine g_callv0 (st := []) 4 mw_X4_dinnerFact lk_RX4_131 rfl hpr0 (ok_Pr_dinnerFact pr0 a1 1 hpr0 s2) (Nat.le_of_ble_eq_true rfl) rfl rfl (Nat.le_of_ble_eq_true rfl) dX4_isAt_13 ?_
    intro r3 s4
    refine g_iload_n dX4_isAt_16 rfl rfl ?_
    refine g_icmpne (tgt := 24) dX4_isAt_17 (by decide) ?_ ?_
    · refine g_iconst dX4_isAt_20 (by decide) ?_
      refine g_goto (tgt := 25) dX4_isAt_21 (by decide) ?_
      exact g_zret1 dX4_isAt_25
    · refine g_iconst dX4_isAt_24 (by decide) ?_
      exact g_zret0 dX4_isAt_25
theorem dX11_dinesIn_0 : decode cX11_dinesIn 0 = .ok (.aload_n 0, 1) := by decide +kernel
theorem dX11_dinesIn_1 : decode cX11_dinesIn 1 = .ok (.getfield 43, 3) := by decide +kernel
theorem dX11_dinesIn_4 : decode cX11_dinesIn 4 = .ok (.iload_n 1, 1) := by decide +kernel
theorem dX11_dinesIn_5 : decode cX11_dinesIn 5 = .ok (.invokevirtual 266, 3) := by decide +kernel
theorem dX11_dinesIn_8 : decode cX11_dinesIn 8 = .ok (.ifCond .ne 9, 3) := by decide +kernel
theorem dX11_dinesIn_11 : decode cX11_dinesIn 11 = .ok (.aload_n 0, 1) := by decide +kernel
theorem dX11_dinesIn_12 : decode cX11_dinesIn 12 = .ok (.iconst 2, 1) := by decide +kernel
theorem dX11_dinesIn_13 : decode cX11_dinesIn 13 = .ok (.invokevirtual 147, 3) := by decide +kernel
theorem dX11_dinesIn_16 : decode cX11_dinesIn 16 = .ok (.ireturn, 1) := by decide +kernel
theorem dX11_dinesIn_17 : decode cX11_dinesIn 17 = .ok (.bipush 31, 2) := by decide +kernel
theorem dX11_dinesIn_19 : decode cX11_dinesIn 19 = .ok (.istore_n 2, 1) := by decide +kernel
theorem dX11_dinesIn_20 : decode cX11_dinesIn 20 = .ok (.iconst 0, 1) := by decide +kernel
theorem dX11_dinesIn_21 : decode cX11_dinesIn 21 = .ok (.istore_n 3, 1) := by decide +kernel
theorem dX11_dinesIn_22 : decode cX11_dinesIn 22 = .ok (.iload_n 3, 1) := by decide +kernel
theorem dX11_dinesIn_23 : decode cX11_dinesIn 23 = .ok (.aload_n 0, 1) := by decide +kernel
theorem dX11_dinesIn_24 : decode cX11_dinesIn 24 = .ok (.getfield 43, 3) := by decide +kernel
theorem dX11_dinesIn_27 : decode cX11_dinesIn 27 = .ok (.getfield 220, 3) := by decide +kernel
theorem dX11_dinesIn_30 : decode cX11_dinesIn 30 = .ok (.if_icmp .ge 34, 3) := by decide +kernel
theorem dX11_dinesIn_33 : decode cX11_dinesIn 33 = .ok (.aload_n 0, 1) := by decide +kernel
theorem dX11_dinesIn_34 : decode cX11_dinesIn 34 = .ok (.getfield 43, 3) := by decide +kernel
theorem dX11_dinesIn_37 : decode cX11_dinesIn 37 = .ok (.iload_n 3, 1) := by decide +kernel
theorem dX11_dinesIn_38 : decode cX11_dinesIn 38 = .ok (.iload_n 1, 1) := by decide +kernel
theorem dX11_dinesIn_39 : decode cX11_dinesIn 39 = .ok (.invokevirtual 336, 3) := by decide +kernel
theorem dX11_dinesIn_42 : decode cX11_dinesIn 42 = .ok (.ifCond .eq 16, 3) := by decide +kernel
theorem dX11_dinesIn_45 : decode cX11_dinesIn 45 = .ok (.iload_n 2, 1) := by decide +kernel
theorem dX11_dinesIn_46 : decode cX11_dinesIn 46 = .ok (.aload_n 0, 1) := by decide +kernel
theorem dX11_dinesIn_47 : decode cX11_dinesIn 47 = .ok (.getfield 43, 3) := by decide +kernel
theorem dX11_dinesIn_50 : decode cX11_dinesIn 50 = .ok (.iload_n 3, 1) := by decide +kernel
theorem dX11_dinesIn_51 : decode cX11_dinesIn 51 = .ok (.invokevirtual 339, 3) := by decide +kernel
theorem dX11_dinesIn_54 : decode cX11_dinesIn 54 = .ok (.invokestatic 197, 3) := by decide +kernel
theorem dX11_dinesIn_57 : decode cX11_dinesIn 57 = .ok (.istore_n 2, 1) := by decide +kernel
theorem dX11_dinesIn_58 : decode cX11_dinesIn 58 = .ok (.iinc 3 1, 3) := by decide +kernel
theorem dX11_dinesIn_61 : decode cX11_dinesIn 61 = .ok (.goto (-39), 3) := by decide +kernel
theorem dX11_dinesIn_64 : decode cX11_dinesIn 64 = .ok (.iload_n 2, 1) := by decide +kernel
theorem dX11_dinesIn_65 : decode cX11_dinesIn 65 = .ok (.bipush 30, 2) := by decide +kernel
theorem dX11_dinesIn_67 : decode cX11_dinesIn 67 = .ok (.if_icmp .le 12, 3) := by decide +kernel
theorem dX11_dinesIn_70 : decode cX11_dinesIn 70 = .ok (.aload_n 0, 1) := by decide +kernel
theorem dX11_dinesIn_71 : decode cX11_dinesIn 71 = .ok (.bipush 8, 2) := by decide +kernel
theorem dX11_dinesIn_73 : decode cX11_dinesIn 73 = .ok (.invokevirtual 147, 3) := by decide +kernel
theorem dX11_dinesIn_76 : decode cX11_dinesIn 76 = .ok (.goto 8, 3) := by decide +kernel
theorem dX11_dinesIn_79 : decode cX11_dinesIn 79 = .ok (.aload_n 0, 1) := by decide +kernel
theorem dX11_dinesIn_80 : decode cX11_dinesIn 80 = .ok (.iload_n 2, 1) := by decide +kernel
theorem dX11_dinesIn_81 : decode cX11_dinesIn 81 = .ok (.invokevirtual 194, 3) := by decide +kernel
theorem dX11_dinesIn_84 : decode cX11_dinesIn 84 = .ok (.ireturn, 1) := by decide +kernel
theorem mw_X11_dinesIn : MW yX11_dinesIn cX11_dinesIn 4 0 1 false := ⟨tm 1256 (by decide +kernel) rfl, tm 235 (by decide +kernel) rfl, by decide, by decide, (by rw [if_neg (by decide)]; exact ⟨tm 1254 (by decide +kernel) rfl, tm 1255 (by decide +kernel) rfl⟩)⟩
theorem lk_RX11_336 : LK RX11 336 yX4_isAt := Or.inr ⟨"HairProvince", tm 1257 (by decide +kernel) rfl⟩
theorem lk_RX11_339 : LK RX11 339 yX4_daysTillDinner := Or.inr ⟨"HairProvince", tm 1262 (by decide +kernel) rfl⟩
theorem mx_RX11_197 : MX RX11 197 Lib.Math.min.name Lib.Math.min.code 2 (some .int) := ⟨tm 972 (by decide +kernel) rfl, tm 800 (by decide +kernel) rfl, tm 251 (by decide +kernel) rfl, tm 801 (by decide +kernel) rfl⟩
def H_dinesIn_L22 (a1 : Int) (k64 : Int → Sg → Rs) : Nat → Int → Int → Sg → Rs
  | 0, _, _, _ => none
  | n + 1, v2, v3, σ => (if v3 < (σ 8 12) then (bd (Pr_isAt 8 v3 a1 σ) (fun r5 s6 => (if r5 = 0 then (nm (w32 (v3 + 1)) (fun x7 => (H_dinesIn_L22 a1 k64 n v2 x7 s6))) else (bd (Pr_daysTillDinner 8 v3 s6) (fun r8 s9 => (nm (min v2 r8) (fun x10 => (nm (w32 (v3 + 1)) (fun x11 => (H_dinesIn_L22 a1 k64 n x10 x11 s9)))))))))) else (k64 v2 σ))
theorem ok_H_dinesIn_L22 (a1 : Int) (k64 : Int → Sg → Rs) (hk64 : ∀ (y2 : Int) (σ : Sg), G l Kh Ph RX11 cX11_dinesIn 4 0 4 64 [some (.inr (.inr 0)), none, some (.inl y2), none] [] σ (k64 y2 σ)) : ∀ (n : Nat) (v2 v3 : Int) (σ : Sg), G l Kh Ph RX11 cX11_dinesIn 4 0 4 22 [some (.inr (.inr 0)), some (.inl a1), some (.inl v2), some (.inl v3)] [] σ (H_dinesIn_L22 a1 k64 n v2 v3 σ) := by
  intro n
  induction n with
  | zero => intros; exact G.none_
  | succ n ih =>
    intro v2 v3 σ
    rw [H_dinesIn_L22]
    refine g_iload_n dX11_dinesIn_22 rfl rfl ?_
    refine g_aload_n dX11_dinesIn_23 rfl rfl ?_
    refine g_getr' (q := 8) fl_RX11_43 kh_0 (by decide) rfl dX11_dinesIn_24 ?_
    refine g_geti fl_RX11_220 kh_8 (by decide) dX11_dinesIn_27 ?_
    refine g_icmpge (tgt := 64) dX11_dinesIn_30 (by decide) ?_ ?_
    · refine g_aload_n dX11_dinesIn_33 rfl rfl ?_
      refine g_getr' (q := 8) fl_RX11_43 kh_0 (by decide) rfl dX11_dinesIn_34 ?_
      refine g_iload_n dX11_dinesIn_37 rfl rfl ?_
      refine g_iload_n dX11_dinesIn_38 rfl rfl ?_
      refine g_callv3 (st := []) 4 mw_X4_isAt lk_RX11_336 rfl kh_8 (ok_Pr_isAt 8 v3 a1 kh_8 σ) (Nat.le_of_ble_eq_true rfl) rfl rfl (Nat.le_of_ble_eq_true rfl) dX11_dinesIn_39 ?_
      intro r5 s6
      refine g_ifeq (tgt := 58) dX11_dinesIn_42 (by decide) ?_ ?_
      · refine n_iinc (fun x7 => [some (.inr (.inr 0)), some (.inl a1), some (.inl v2), some (.inl x7)]) dX11_dinesIn_58 rfl (Nat.le_of_ble_eq_true rfl) (fun _ => rfl) ?_
        intro x7
        refine g_goto (tgt := 22) dX11_dinesIn_61 (by decide) ?_
        exact (ih v2 x7 s6)
      · refine g_iload_n dX11_dinesIn_45 rfl rfl ?_
        refine g_aload_n dX11_dinesIn_46 rfl rfl ?_
        refine g_getr' (q := 8) fl_RX11_43 kh_0 (by decide) rfl dX11_dinesIn_47 ?_
        refine g_iload_n dX11_dinesIn_50 rfl rfl ?_
        refine g_callv0 (st := [.inl v2]) 4 mw_X4_daysTillDinner lk_RX11_339 rfl kh_8 (ok_Pr_daysTillDinner 8 v3 kh_8 s6) (Nat.le_of_ble_eq_true rfl) rfl rfl (Nat.le_of_ble_eq_true rfl) dX11_dinesIn_51 ?_
        intro r8 s9
        refine g_mmin mx_RX11_197 (Nat.le_of_ble_eq_true rfl) (Nat.le_of_ble_eq_true rfl) dX11_dinesIn_54 ?_
        refine n_istore_n (fun x10 => [some (.inr (.inr 0)), some (.inl a1), some (.inl x10), some (.inl v3)]) dX11_dinesIn_57 rfl (Nat.le_of_ble_eq_true rfl) (fun _ => rfl) ?_
        intro x10
        refine n_iinc (fun x11 => [some (.inr (.inr 0)), some (.inl a1), some (.inl x10), some (.inl x11)]) dX11_dinesIn_58 rfl (Nat.le_of_ble_eq_true rfl) (fun _ => rfl) ?_
        intro x11
        refine g_goto (tgt := 22) dX11_dinesIn_61 (by decide) ?_
        exact (ih x10 x11 s9)
    · exact (g_weak [true, false, true, false] (hk64 v2 σ))
def H_dinesIn_J64 (v2 : Int) (σ : Sg) : Rs := (if 30 < v2 then (bd (H_fail 8 σ) (fun r14 s15 => (some (r14, s15)))) else (bd (H_give v2 σ) (fun r16 s17 => (some (r16, s17)))))
theorem ok_H_dinesIn_J64 (v2 : Int) : ∀ (σ : Sg), G l Kh Ph RX11 cX11_dinesIn 4 0 4 64 [some (.inr (.inr 0)), none, some (.inl v2), none] [] σ (H_dinesIn_J64 v2  σ) := by
  intro σ
  unfold H_dinesIn_J64
  refine g_iload_n dX11_dinesIn_64 rfl rfl ?_
  refine g_bipush dX11_dinesIn_65 (by decide) ?_
  refine g_icmple (tgt := 79) dX11_dinesIn_67 (by decide) ?_ ?_
  · refine g_aload_n dX11_dinesIn_70 rfl rfl ?_
    refine g_bipush dX11_dinesIn_71 (by decide) ?_
    refine g_callv0 (st := []) 9 mw_X11_fail lk_RX11_147 rfl kh_0 (ok_H_fail 8 σ) (Nat.le_of_ble_eq_true rfl) rfl rfl (Nat.le_of_ble_eq_true rfl) dX11_dinesIn_73 ?_
    intro r14 s15
    refine g_goto (tgt := 84) dX11_dinesIn_76 (by decide) ?_
    exact g_iret dX11_dinesIn_84
  · refine g_aload_n dX11_dinesIn_79 rfl rfl ?_
    refine g_iload_n dX11_dinesIn_80 rfl rfl ?_
    refine g_callv0 (st := []) 9 mw_X11_give lk_RX11_194 rfl kh_0 (ok_H_give v2 σ) (Nat.le_of_ble_eq_true rfl) rfl rfl (Nat.le_of_ble_eq_true rfl) dX11_dinesIn_81 ?_
    intro r16 s17
    exact g_iret dX11_dinesIn_84
def H_dinesIn (a1 : Int) (σ : Sg) : Rs := (bd (Pr_isPerson 8 a1 σ) (fun r1 s2 => (if r1 = 0 then (bd (H_fail 2 s2) (fun r3 s4 => (some (r3, s4)))) else (H_dinesIn_L22 a1 (fun x12 s13 => (H_dinesIn_J64 x12 s13)) fu 31 0 s2))))
theorem ok_H_dinesIn (a1 : Int) (σ : Sg) : MC l Kh Ph yX11_dinesIn cX11_dinesIn 4 0 4 [.inr (.inr 0), .inl a1] σ (H_dinesIn a1 σ) := by
  refine mc_of (by decide) (Nat.le_of_ble_eq_true rfl) ?_
  change G l Kh Ph RX11 cX11_dinesIn 4 0 4 0 [some (.inr (.inr 0)), some (.inl a1), none, none] [] σ (H_dinesIn a1 σ)
  unfold H_dinesIn
  refine g_aload_n dX11_dinesIn_0 rfl rfl ?_
  refine g_getr' (q := 8) fl_RX11_43 kh_0 (by decide) rfl dX11_dinesIn_1 ?_
  refine g_iload_n dX11_dinesIn_4 rfl rfl ?_
  refine g_callv3 (st := []) 4 mw_X4_isPerson lk_RX11_266 rfl kh_8 (ok_Pr_isPerson 8 a1 kh_8 σ) (Nat.le_of_ble_eq_true rfl) rfl rfl (Nat.le_of_ble_eq_true rfl) dX11_dinesIn_5 ?_
  intro r1 s2
  refine g_ifne (tgt := 17) dX11_dinesIn_8 (by decide) ?_ ?_
  · refine g_aload_n dX11_dinesIn_11 rfl rfl ?_
    refine g_iconst dX11_dinesIn_12 (by decide) ?_
    refine g_callv0 (st := []) 9 mw_X11_fail lk_RX11_147 rfl kh_0 (ok_H_fail 2 s2) (Nat.le_of_ble_eq_true rfl) rfl rfl (Nat.le_of_ble_eq_true rfl) dX11_dinesIn_13 ?_
    intro r3 s4
    exact g_iret dX11_dinesIn_16
  · refine g_bipush dX11_dinesIn_17 (by decide) ?_
    refine g_istore_n (lv' := [some (.inr (.inr 0)), some (.inl a1), some (.inl 31), none]) dX11_dinesIn_19 rfl (Nat.le_of_ble_eq_true rfl) rfl ?_
    refine g_iconst dX11_dinesIn_20 (by decide) ?_
    refine g_istore_n (lv' := [some (.inr (.inr 0)), some (.inl a1), some (.inl 31), some (.inl 0)]) dX11_dinesIn_21 rfl (Nat.le_of_ble_eq_true rfl) rfl ?_
    refine (ok_H_dinesIn_L22 a1 _ ?_ fu 31 0 s2)
    · intro x12 s13
      refine (ok_H_dinesIn_J64 x12 s13)
theorem dX11_dinner_0 : decode cX11_dinner 0 = .ok (.iload_n 1, 1) := by decide +kernel
theorem dX11_dinner_1 : decode cX11_dinner 1 = .ok (.iconst 0, 1) := by decide +kernel
theorem dX11_dinner_2 : decode cX11_dinner 2 = .ok (.aload_n 0, 1) := by decide +kernel
theorem dX11_dinner_3 : decode cX11_dinner 3 = .ok (.getfield 43, 3) := by decide +kernel
theorem dX11_dinner_6 : decode cX11_dinner 6 = .ok (.getfield 220, 3) := by decide +kernel
theorem dX11_dinner_9 : decode cX11_dinner 9 = .ok (.iconst 1, 1) := by decide +kernel
theorem dX11_dinner_10 : decode cX11_dinner 10 = .ok (.isub, 1) := by decide +kernel
theorem dX11_dinner_11 : decode cX11_dinner 11 = .ok (.invokestatic 135, 3) := by decide +kernel
theorem dX11_dinner_14 : decode cX11_dinner 14 = .ok (.ifCond .ne 9, 3) := by decide +kernel
theorem dX11_dinner_17 : decode cX11_dinner 17 = .ok (.aload_n 0, 1) := by decide +kernel
theorem dX11_dinner_18 : decode cX11_dinner 18 = .ok (.iconst 2, 1) := by decide +kernel
theorem dX11_dinner_19 : decode cX11_dinner 19 = .ok (.invokevirtual 147, 3) := by decide +kernel
theorem dX11_dinner_22 : decode cX11_dinner 22 = .ok (.ireturn, 1) := by decide +kernel
theorem dX11_dinner_23 : decode cX11_dinner 23 = .ok (.iload_n 2, 1) := by decide +kernel
theorem dX11_dinner_24 : decode cX11_dinner 24 = .ok (.iconst 0, 1) := by decide +kernel
theorem dX11_dinner_25 : decode cX11_dinner 25 = .ok (.iconst 2, 1) := by decide +kernel
theorem dX11_dinner_26 : decode cX11_dinner 26 = .ok (.invokestatic 135, 3) := by decide +kernel
theorem dX11_dinner_29 : decode cX11_dinner 29 = .ok (.ifCond .ne 9, 3) := by decide +kernel
theorem dX11_dinner_32 : decode cX11_dinner 32 = .ok (.aload_n 0, 1) := by decide +kernel
theorem dX11_dinner_33 : decode cX11_dinner 33 = .ok (.iconst 5, 1) := by decide +kernel
theorem dX11_dinner_34 : decode cX11_dinner 34 = .ok (.invokevirtual 147, 3) := by decide +kernel
theorem dX11_dinner_37 : decode cX11_dinner 37 = .ok (.ireturn, 1) := by decide +kernel
theorem dX11_dinner_38 : decode cX11_dinner 38 = .ok (.aload_n 0, 1) := by decide +kernel
theorem dX11_dinner_39 : decode cX11_dinner 39 = .ok (.aload_n 0, 1) := by decide +kernel
theorem dX11_dinner_40 : decode cX11_dinner 40 = .ok (.getfield 43, 3) := by decide +kernel
theorem dX11_dinner_43 : decode cX11_dinner 43 = .ok (.iload_n 1, 1) := by decide +kernel
theorem dX11_dinner_44 : decode cX11_dinner 44 = .ok (.iload_n 2, 1) := by decide +kernel
theorem dX11_dinner_45 : decode cX11_dinner 45 = .ok (.invokevirtual 294, 3) := by decide +kernel
theorem dX11_dinner_48 : decode cX11_dinner 48 = .ok (.invokevirtual 194, 3) := by decide +kernel
theorem dX11_dinner_51 : decode cX11_dinner 51 = .ok (.ireturn, 1) := by decide +kernel
theorem mw_X11_dinner : MW yX11_dinner cX11_dinner 3 0 2 false := ⟨tm 1116 (by decide +kernel) rfl, tm 235 (by decide +kernel) rfl, by decide, by decide, (by rw [if_neg (by decide)]; exact ⟨tm 1114 (by decide +kernel) rfl, tm 1115 (by decide +kernel) rfl⟩)⟩
theorem lk_RX11_294 : LK RX11 294 yX4_dinnerFact := Or.inr ⟨"HairProvince", tm 1117 (by decide +kernel) rfl⟩
def H_dinner (a1 : Int) (a2 : Int) (σ : Sg) : Rs := (bd (H_within a1 0 (w32 ((σ 8 12) - 1)) σ) (fun r1 s2 => (if r1 = 0 then (bd (H_fail 2 s2) (fun r3 s4 => (some (r3, s4)))) else (bd (H_within a2 0 2 s2) (fun r5 s6 => (if r5 = 0 then (bd (H_fail 5 s6) (fun r7 s8 => (some (r7, s8)))) else (bd (Pr_dinnerFact 8 a1 a2 s6) (fun r9 s10 => (bd (H_give r9 s10) (fun r11 s12 => (some (r11, s12))))))))))))
theorem ok_H_dinner (a1 : Int) (a2 : Int) (σ : Sg) : MC l Kh Ph yX11_dinner cX11_dinner 3 0 3 [.inr (.inr 0), .inl a1, .inl a2] σ (H_dinner a1 a2 σ) := by
  refine mc_of (by decide) (Nat.le_of_ble_eq_true rfl) ?_
  change G l Kh Ph RX11 cX11_dinner 3 0 3 0 [some (.inr (.inr 0)), some (.inl a1), some (.inl a2)] [] σ (H_dinner a1 a2 σ)
  unfold H_dinner
  refine g_iload_n dX11_dinner_0 rfl rfl ?_
  refine g_iconst dX11_dinner_1 (by decide) ?_
  refine g_aload_n dX11_dinner_2 rfl rfl ?_
  refine g_getr' (q := 8) fl_RX11_43 kh_0 (by decide) rfl dX11_dinner_3 ?_
  refine g_geti fl_RX11_220 kh_8 (by decide) dX11_dinner_6 ?_
  refine g_iconst dX11_dinner_9 (by decide) ?_
  refine g_isub dX11_dinner_10 ?_
  refine g_calls3 (st := []) mw_X11_within lk_RX11_135 (ok_H_within a1 0 (w32 ((σ 8 12) - 1)) σ) (Nat.le_of_ble_eq_true rfl) rfl rfl (Nat.le_of_ble_eq_true rfl) dX11_dinner_11 ?_
  intro r1 s2
  refine g_ifne (tgt := 23) dX11_dinner_14 (by decide) ?_ ?_
  · refine g_aload_n dX11_dinner_17 rfl rfl ?_
    refine g_iconst dX11_dinner_18 (by decide) ?_
    refine g_callv0 (st := []) 9 mw_X11_fail lk_RX11_147 rfl kh_0 (ok_H_fail 2 s2) (Nat.le_of_ble_eq_true rfl) rfl rfl (Nat.le_of_ble_eq_true rfl) dX11_dinner_19 ?_
    intro r3 s4
    exact g_iret dX11_dinner_22
  · refine g_iload_n dX11_dinner_23 rfl rfl ?_
    refine g_iconst dX11_dinner_24 (by decide) ?_
    refine g_iconst dX11_dinner_25 (by decide) ?_
    refine g_calls3 (st := []) mw_X11_within lk_RX11_135 (ok_H_within a2 0 2 s2) (Nat.le_of_ble_eq_true rfl) rfl rfl (Nat.le_of_ble_eq_true rfl) dX11_dinner_26 ?_
    intro r5 s6
    refine g_ifne (tgt := 38) dX11_dinner_29 (by decide) ?_ ?_
    · refine g_aload_n dX11_dinner_32 rfl rfl ?_
      refine g_iconst dX11_dinner_33 (by decide) ?_
      refine g_callv0 (st := []) 9 mw_X11_fail lk_RX11_147 rfl kh_0 (ok_H_fail 5 s6) (Nat.le_of_ble_eq_true rfl) rfl rfl (Nat.le_of_ble_eq_true rfl) dX11_dinner_34 ?_
      intro r7 s8
      exact g_iret dX11_dinner_37
    · refine g_aload_n dX11_dinner_38 rfl rfl ?_
      refine g_aload_n dX11_dinner_39 rfl rfl ?_
      refine g_getr' (q := 8) fl_RX11_43 kh_0 (by decide) rfl dX11_dinner_40 ?_
      refine g_iload_n dX11_dinner_43 rfl rfl ?_
      refine g_iload_n dX11_dinner_44 rfl rfl ?_
      refine g_callv0 (st := [.inr (.inr 0)]) 4 mw_X4_dinnerFact lk_RX11_294 rfl kh_8 (ok_Pr_dinnerFact 8 a1 a2 kh_8 s6) (Nat.le_of_ble_eq_true rfl) rfl rfl (Nat.le_of_ble_eq_true rfl) dX11_dinner_45 ?_
      intro r9 s10
      refine g_callv0 (st := []) 9 mw_X11_give lk_RX11_194 rfl kh_0 (ok_H_give r9 s10) (Nat.le_of_ble_eq_true rfl) rfl rfl (Nat.le_of_ble_eq_true rfl) dX11_dinner_48 ?_
      intro r11 s12
      exact g_iret dX11_dinner_51
theorem dX11_fault_0 : decode cX11_fault 0 = .ok (.iload_n 1, 1) := by decide +kernel
theorem dX11_fault_1 : decode cX11_fault 1 = .ok (.ifCond .ne 8, 3) := by decide +kernel
theorem dX11_fault_4 : decode cX11_fault 4 = .ok (.aload_n 0, 1) := by decide +kernel
theorem dX11_fault_5 : decode cX11_fault 5 = .ok (.getfield 20, 3) := by decide +kernel
theorem dX11_fault_8 : decode cX11_fault 8 = .ok (.ireturn, 1) := by decide +kernel
theorem dX11_fault_9 : decode cX11_fault 9 = .ok (.iload_n 1, 1) := by decide +kernel
theorem dX11_fault_10 : decode cX11_fault 10 = .ok (.iconst 1, 1) := by decide +kernel
theorem dX11_fault_11 : decode cX11_fault 11 = .ok (.if_icmp .ne 10, 3) := by decide +kernel
theorem dX11_fault_14 : decode cX11_fault 14 = .ok (.aload_n 0, 1) := by decide +kernel
theorem dX11_fault_15 : decode cX11_fault 15 = .ok (.getfield 23, 3) := by decide +kernel
theorem dX11_fault_18 : decode cX11_fault 18 = .ok (.goto 4, 3) := by decide +kernel
theorem dX11_fault_21 : decode cX11_fault 21 = .ok (.iconst (-1), 1) := by decide +kernel
theorem dX11_fault_22 : decode cX11_fault 22 = .ok (.ireturn, 1) := by decide +kernel
theorem mw_X11_fault : MW yX11_fault cX11_fault 2 0 1 false := ⟨tm 1047 (by decide +kernel) rfl, tm 235 (by decide +kernel) rfl, by decide, by decide, (by rw [if_neg (by decide)]; exact ⟨tm 1045 (by decide +kernel) rfl, tm 1046 (by decide +kernel) rfl⟩)⟩
def H_fault (a1 : Int) (σ : Sg) : Rs := (if a1 = 0 then (some ((σ 0 3), σ)) else (if a1 = 1 then (some ((σ 0 4), σ)) else (some ((-1), σ))))
theorem ok_H_fault (a1 : Int) (σ : Sg) : MC l Kh Ph yX11_fault cX11_fault 2 0 1 [.inr (.inr 0), .inl a1] σ (H_fault a1 σ) := by
  refine mc_of (by decide) (Nat.le_of_ble_eq_true rfl) ?_
  change G l Kh Ph RX11 cX11_fault 2 0 1 0 [some (.inr (.inr 0)), some (.inl a1)] [] σ (H_fault a1 σ)
  unfold H_fault
  refine g_iload_n dX11_fault_0 rfl rfl ?_
  refine g_ifne (tgt := 9) dX11_fault_1 (by decide) ?_ ?_
  · refine g_aload_n dX11_fault_4 rfl rfl ?_
    refine g_geti fl_RX11_20 kh_0 (by decide) dX11_fault_5 ?_
    exact g_iret dX11_fault_8
  · refine g_iload_n dX11_fault_9 rfl rfl ?_
    refine g_iconst dX11_fault_10 (by decide) ?_
    refine g_icmpne (tgt := 21) dX11_fault_11 (by decide) ?_ ?_
    · refine g_aload_n dX11_fault_14 rfl rfl ?_
      refine g_geti fl_RX11_23 kh_0 (by decide) dX11_fault_15 ?_
      refine g_goto (tgt := 22) dX11_fault_18 (by decide) ?_
      exact g_iret dX11_fault_22
    · refine g_iconst dX11_fault_21 (by decide) ?_
      exact g_iret dX11_fault_22
theorem dX7_putBytes_0 : decode cX7_putBytes 0 = .ok (.bipush 24, 2) := by decide +kernel
theorem dX7_putBytes_2 : decode cX7_putBytes 2 = .ok (.istore_n 2, 1) := by decide +kernel
theorem dX7_putBytes_3 : decode cX7_putBytes 3 = .ok (.iload_n 2, 1) := by decide +kernel
theorem dX7_putBytes_4 : decode cX7_putBytes 4 = .ok (.ifCond .lt 42, 3) := by decide +kernel
theorem dX7_putBytes_7 : decode cX7_putBytes 7 = .ok (.aload_n 0, 1) := by decide +kernel
theorem dX7_putBytes_8 : decode cX7_putBytes 8 = .ok (.getfield 46, 3) := by decide +kernel
theorem dX7_putBytes_11 : decode cX7_putBytes 11 = .ok (.sipush 900, 3) := by decide +kernel
theorem dX7_putBytes_14 : decode cX7_putBytes 14 = .ok (.if_icmp .ge 32, 3) := by decide +kernel
theorem dX7_putBytes_17 : decode cX7_putBytes 17 = .ok (.aload_n 0, 1) := by decide +kernel
theorem dX7_putBytes_18 : decode cX7_putBytes 18 = .ok (.getfield 15, 3) := by decide +kernel
theorem dX7_putBytes_21 : decode cX7_putBytes 21 = .ok (.aload_n 0, 1) := by decide +kernel
theorem dX7_putBytes_22 : decode cX7_putBytes 22 = .ok (.getfield 46, 3) := by decide +kernel
theorem dX7_putBytes_25 : decode cX7_putBytes 25 = .ok (.iload_n 1, 1) := by decide +kernel
theorem dX7_putBytes_26 : decode cX7_putBytes 26 = .ok (.iload_n 2, 1) := by decide +kernel
theorem dX7_putBytes_27 : decode cX7_putBytes 27 = .ok (.ishr, 1) := by decide +kernel
theorem dX7_putBytes_28 : decode cX7_putBytes 28 = .ok (.i2b, 1) := by decide +kernel
theorem dX7_putBytes_29 : decode cX7_putBytes 29 = .ok (.bastore, 1) := by decide +kernel
theorem dX7_putBytes_30 : decode cX7_putBytes 30 = .ok (.aload_n 0, 1) := by decide +kernel
theorem dX7_putBytes_31 : decode cX7_putBytes 31 = .ok (.dup, 1) := by decide +kernel
theorem dX7_putBytes_32 : decode cX7_putBytes 32 = .ok (.getfield 46, 3) := by decide +kernel
theorem dX7_putBytes_35 : decode cX7_putBytes 35 = .ok (.iconst 1, 1) := by decide +kernel
theorem dX7_putBytes_36 : decode cX7_putBytes 36 = .ok (.iadd, 1) := by decide +kernel
theorem dX7_putBytes_37 : decode cX7_putBytes 37 = .ok (.putfield 46, 3) := by decide +kernel
theorem dX7_putBytes_40 : decode cX7_putBytes 40 = .ok (.iinc 2 (-8), 3) := by decide +kernel
theorem dX7_putBytes_43 : decode cX7_putBytes 43 = .ok (.goto (-40), 3) := by decide +kernel
theorem dX7_putBytes_46 : decode cX7_putBytes 46 = .ok (.return_, 1) := by decide +kernel
theorem mw_X7_putBytes : MW yX7_putBytes cX7_putBytes 3 2 1 false := ⟨tm 790 (by decide +kernel) rfl, tm 237 (by decide +kernel) rfl, by decide, by decide, (by rw [if_neg (by decide)]; exact ⟨tm 789 (by decide +kernel) rfl, tm 15 (by decide +kernel) rfl⟩)⟩
theorem fl_RX7_15 : FL RX7 15 6 0 := ⟨_, _, _, _, cw_6, by decide, Or.inr (Or.inr (Or.inr (by decide))), Or.inl (by decide), Or.inl (tm 342 (by decide +kernel) rfl)⟩
theorem fl_RX7_46 : FL RX7 46 6 1 := ⟨_, _, _, _, cw_6, by decide, Or.inl (by decide), Or.inr (by decide), Or.inl (tm 343 (by decide +kernel) rfl)⟩
def To_putBytes_L3 (a1 : Int) : Nat → Int → Sg → Rs
  | 0, _, _ => none
  | n + 1, v2, σ => (if v2 < 0 then (some (0, σ)) else (if (σ 5 1) < 900 then (wr 900 (σ 5 1) (up_s σ 6 (Int.toNat (σ 5 1)) (b32 (b32 (sr32 a1 v2)))) (fun s1 => (nm (up_s s1 5 1 (w32 ((s1 5 1) + 1))) (fun s2 => (nm (w32 (v2 + (-8))) (fun x3 => (To_putBytes_L3 a1 n x3 s2))))))) else (some (0, σ))))
theorem ok_To_putBytes_L3 (a1 : Int) : ∀ (n : Nat) (v2 : Int) (σ : Sg), G l Kh Ph RX7 cX7_putBytes 3 2 1 3 [some (.inr (.inr 5)), some (.inl a1), some (.inl v2)] [] σ (To_putBytes_L3 a1 n v2 σ) := by
  intro n
  induction n with
  | zero => intros; exact G.none_
  | succ n ih =>
    intro v2 σ
    rw [To_putBytes_L3]
    refine g_iload_n dX7_putBytes_3 rfl rfl ?_
    refine g_iflt (tgt := 46) dX7_putBytes_4 (by decide) ?_ ?_
    · exact g_vret dX7_putBytes_46
    · refine g_aload_n dX7_putBytes_7 rfl rfl ?_
      refine g_geti fl_RX7_46 kh_5 (by decide) dX7_putBytes_8 ?_
      refine g_sipush dX7_putBytes_11 (by decide) ?_
      refine g_icmpge (tgt := 46) dX7_putBytes_14 (by decide) ?_ ?_
      · refine g_aload_n dX7_putBytes_17 rfl rfl ?_
        refine g_getr' (q := 6) fl_RX7_15 kh_5 (by decide) rfl dX7_putBytes_18 ?_
        refine g_aload_n dX7_putBytes_21 rfl rfl ?_
        refine g_geti fl_RX7_46 kh_5 (by decide) dX7_putBytes_22 ?_
        refine g_iload_n dX7_putBytes_25 rfl rfl ?_
        refine g_iload_n dX7_putBytes_26 rfl rfl ?_
        refine g_ishr dX7_putBytes_27 ?_
        refine g_i2b dX7_putBytes_28 ?_
        refine g_bast kh_6 dX7_putBytes_29 ?_
        intro s1
        refine g_aload_n dX7_putBytes_30 rfl rfl ?_
        refine g_dup dX7_putBytes_31 rfl ?_
        refine g_geti fl_RX7_46 kh_5 (by decide) dX7_putBytes_32 ?_
        refine g_iconst dX7_putBytes_35 (by decide) ?_
        refine g_iadd dX7_putBytes_36 ?_
        refine g_puti fl_RX7_46 kh_5 (by decide) dX7_putBytes_37 ?_
        intro s2
        refine n_iinc (fun x3 => [some (.inr (.inr 5)), some (.inl a1), some (.inl x3)]) dX7_putBytes_40 rfl (Nat.le_of_ble_eq_true rfl) (fun _ => rfl) ?_
        intro x3
        refine g_goto (tgt := 3) dX7_putBytes_43 (by decide) ?_
        exact (ih x3 s2)
      · exact g_vret dX7_putBytes_46
def To_putBytes (a1 : Int) (σ : Sg) : Rs := (To_putBytes_L3 a1 fu 24 σ)
theorem ok_To_putBytes (a1 : Int) (σ : Sg) : MC l Kh Ph yX7_putBytes cX7_putBytes 3 2 1 [.inr (.inr 5), .inl a1] σ (To_putBytes a1 σ) := by
  refine mc_of (by decide) (Nat.le_of_ble_eq_true rfl) ?_
  change G l Kh Ph RX7 cX7_putBytes 3 2 1 0 [some (.inr (.inr 5)), some (.inl a1), none] [] σ (To_putBytes a1 σ)
  unfold To_putBytes
  refine g_bipush dX7_putBytes_0 (by decide) ?_
  refine g_istore_n (lv' := [some (.inr (.inr 5)), some (.inl a1), some (.inl 24)]) dX7_putBytes_2 rfl (Nat.le_of_ble_eq_true rfl) rfl ?_
  refine (ok_To_putBytes_L3 a1 fu 24 σ)
theorem dX11_feed_0 : decode cX11_feed 0 = .ok (.aload_n 0, 1) := by decide +kernel
theorem dX11_feed_1 : decode cX11_feed 1 = .ok (.getfield 36, 3) := by decide +kernel
theorem dX11_feed_4 : decode cX11_feed 4 = .ok (.getfield 164, 3) := by decide +kernel
theorem dX11_feed_7 : decode cX11_feed 7 = .ok (.bipush 20, 2) := by decide +kernel
theorem dX11_feed_9 : decode cX11_feed 9 = .ok (.iadd, 1) := by decide +kernel
theorem dX11_feed_10 : decode cX11_feed 10 = .ok (.sipush 900, 3) := by decide +kernel
theorem dX11_feed_13 : decode cX11_feed 13 = .ok (.if_icmp .le 5, 3) := by decide +kernel
theorem dX11_feed_16 : decode cX11_feed 16 = .ok (.iconst (-1), 1) := by decide +kernel
theorem dX11_feed_17 : decode cX11_feed 17 = .ok (.ireturn, 1) := by decide +kernel
theorem dX11_feed_18 : decode cX11_feed 18 = .ok (.aload_n 0, 1) := by decide +kernel
theorem dX11_feed_19 : decode cX11_feed 19 = .ok (.getfield 36, 3) := by decide +kernel
theorem dX11_feed_22 : decode cX11_feed 22 = .ok (.iload_n 1, 1) := by decide +kernel
theorem dX11_feed_23 : decode cX11_feed 23 = .ok (.invokevirtual 167, 3) := by decide +kernel
theorem dX11_feed_26 : decode cX11_feed 26 = .ok (.aload_n 0, 1) := by decide +kernel
theorem dX11_feed_27 : decode cX11_feed 27 = .ok (.getfield 36, 3) := by decide +kernel
theorem dX11_feed_30 : decode cX11_feed 30 = .ok (.iload_n 2, 1) := by decide +kernel
theorem dX11_feed_31 : decode cX11_feed 31 = .ok (.invokevirtual 167, 3) := by decide +kernel
theorem dX11_feed_34 : decode cX11_feed 34 = .ok (.aload_n 0, 1) := by decide +kernel
theorem dX11_feed_35 : decode cX11_feed 35 = .ok (.getfield 36, 3) := by decide +kernel
theorem dX11_feed_38 : decode cX11_feed 38 = .ok (.iload_n 3, 1) := by decide +kernel
theorem dX11_feed_39 : decode cX11_feed 39 = .ok (.invokevirtual 167, 3) := by decide +kernel
theorem dX11_feed_42 : decode cX11_feed 42 = .ok (.aload_n 0, 1) := by decide +kernel
theorem dX11_feed_43 : decode cX11_feed 43 = .ok (.getfield 36, 3) := by decide +kernel
theorem dX11_feed_46 : decode cX11_feed 46 = .ok (.iload 4, 2) := by decide +kernel
theorem dX11_feed_48 : decode cX11_feed 48 = .ok (.invokevirtual 167, 3) := by decide +kernel
theorem dX11_feed_51 : decode cX11_feed 51 = .ok (.aload_n 0, 1) := by decide +kernel
theorem dX11_feed_52 : decode cX11_feed 52 = .ok (.getfield 36, 3) := by decide +kernel
theorem dX11_feed_55 : decode cX11_feed 55 = .ok (.iload 5, 2) := by decide +kernel
theorem dX11_feed_57 : decode cX11_feed 57 = .ok (.invokevirtual 167, 3) := by decide +kernel
theorem dX11_feed_60 : decode cX11_feed 60 = .ok (.aload_n 0, 1) := by decide +kernel
theorem dX11_feed_61 : decode cX11_feed 61 = .ok (.getfield 36, 3) := by decide +kernel
theorem dX11_feed_64 : decode cX11_feed 64 = .ok (.getfield 164, 3) := by decide +kernel
theorem dX11_feed_67 : decode cX11_feed 67 = .ok (.ireturn, 1) := by decide +kernel
theorem mw_X11_feed : MW yX11_feed cX11_feed 6 0 5 false := ⟨tm 786 (by decide +kernel) rfl, tm 235 (by decide +kernel) rfl, by decide, by decide, (by rw [if_neg (by decide)]; exact ⟨tm 784 (by decide +kernel) rfl, tm 785 (by decide +kernel) rfl⟩)⟩
theorem lk_RX11_167 : LK RX11 167 yX7_putBytes := Or.inr ⟨"HairProvince", tm 787 (by decide +kernel) rfl⟩
def H_feed (a1 : Int) (a2 : Int) (a3 : Int) (a4 : Int) (a5 : Int) (σ : Sg) : Rs := (if 900 < (w32 ((σ 5 1) + 20)) then (some ((-1), σ)) else (bd (To_putBytes a1 σ) (fun r1 s2 => (bd (To_putBytes a2 s2) (fun r3 s4 => (bd (To_putBytes a3 s4) (fun r5 s6 => (bd (To_putBytes a4 s6) (fun r7 s8 => (bd (To_putBytes a5 s8) (fun r9 s10 => (some ((s10 5 1), s10)))))))))))))
theorem ok_H_feed (a1 : Int) (a2 : Int) (a3 : Int) (a4 : Int) (a5 : Int) (σ : Sg) : MC l Kh Ph yX11_feed cX11_feed 6 0 2 [.inr (.inr 0), .inl a1, .inl a2, .inl a3, .inl a4, .inl a5] σ (H_feed a1 a2 a3 a4 a5 σ) := by
  refine mc_of (by decide) (Nat.le_of_ble_eq_true rfl) ?_
  change G l Kh Ph RX11 cX11_feed 6 0 2 0 [some (.inr (.inr 0)), some (.inl a1), some (.inl a2), some (.inl a3), some (.inl a4), some (.inl a5)] [] σ (H_feed a1 a2 a3 a4 a5 σ)
  unfold H_feed
  refine g_aload_n dX11_feed_0 rfl rfl ?_
  refine g_getr' (q := 5) fl_RX11_36 kh_0 (by decide) rfl dX11_feed_1 ?_
  refine g_geti fl_RX11_164 kh_5 (by decide) dX11_feed_4 ?_
  refine g_bipush dX11_feed_7 (by decide) ?_
  refine g_iadd dX11_feed_9 ?_
  refine g_sipush dX11_feed_10 (by decide) ?_
  refine g_icmple (tgt := 18) dX11_feed_13 (by decide) ?_ ?_
  · refine g_iconst dX11_feed_16 (by decide) ?_
    exact g_iret dX11_feed_17
  · refine g_aload_n dX11_feed_18 rfl rfl ?_
    refine g_getr' (q := 5) fl_RX11_36 kh_0 (by decide) rfl dX11_feed_19 ?_
    refine g_iload_n dX11_feed_22 rfl rfl ?_
    refine g_callv2 (st := []) 6 mw_X7_putBytes lk_RX11_167 rfl kh_5 (ok_To_putBytes a1 σ) (Nat.le_of_ble_eq_true rfl) rfl rfl (Nat.le_of_ble_eq_true rfl) dX11_feed_23 ?_
    intro r1 s2
    refine g_aload_n dX11_feed_26 rfl rfl ?_
    refine g_getr' (q := 5) fl_RX11_36 kh_0 (by decide) rfl dX11_feed_27 ?_
    refine g_iload_n dX11_feed_30 rfl rfl ?_
    refine g_callv2 (st := []) 6 mw_X7_putBytes lk_RX11_167 rfl kh_5 (ok_To_putBytes a2 s2) (Nat.le_of_ble_eq_true rfl) rfl rfl (Nat.le_of_ble_eq_true rfl) dX11_feed_31 ?_
    intro r3 s4
    refine g_aload_n dX11_feed_34 rfl rfl ?_
    refine g_getr' (q := 5) fl_RX11_36 kh_0 (by decide) rfl dX11_feed_35 ?_
    refine g_iload_n dX11_feed_38 rfl rfl ?_
    refine g_callv2 (st := []) 6 mw_X7_putBytes lk_RX11_167 rfl kh_5 (ok_To_putBytes a3 s4) (Nat.le_of_ble_eq_true rfl) rfl rfl (Nat.le_of_ble_eq_true rfl) dX11_feed_39 ?_
    intro r5 s6
    refine g_aload_n dX11_feed_42 rfl rfl ?_
    refine g_getr' (q := 5) fl_RX11_36 kh_0 (by decide) rfl dX11_feed_43 ?_
    refine g_iload dX11_feed_46 rfl ?_
    refine g_callv2 (st := []) 6 mw_X7_putBytes lk_RX11_167 rfl kh_5 (ok_To_putBytes a4 s6) (Nat.le_of_ble_eq_true rfl) rfl rfl (Nat.le_of_ble_eq_true rfl) dX11_feed_48 ?_
    intro r7 s8
    refine g_aload_n dX11_feed_51 rfl rfl ?_
    refine g_getr' (q := 5) fl_RX11_36 kh_0 (by decide) rfl dX11_feed_52 ?_
    refine g_iload dX11_feed_55 rfl ?_
    refine g_callv2 (st := []) 6 mw_X7_putBytes lk_RX11_167 rfl kh_5 (ok_To_putBytes a5 s8) (Nat.le_of_ble_eq_true rfl) rfl rfl (Nat.le_of_ble_eq_true rfl) dX11_feed_57 ?_
    intro r9 s10
    refine g_aload_n dX11_feed_60 rfl rfl ?_
    refine g_getr' (q := 5) fl_RX11_36 kh_0 (by decide) rfl dX11_feed_61 ?_
    refine g_geti fl_RX11_164 kh_5 (by decide) dX11_feed_64 ?_
    exact g_iret dX11_feed_67
theorem dX11_gameStatus_0 : decode cX11_gameStatus 0 = .ok (.aload_n 0, 1) := by decide +kernel
theorem dX11_gameStatus_1 : decode cX11_gameStatus 1 = .ok (.getfield 43, 3) := by decide +kernel
theorem dX11_gameStatus_4 : decode cX11_gameStatus 4 = .ok (.iload_n 1, 1) := by decide +kernel
theorem dX11_gameStatus_5 : decode cX11_gameStatus 5 = .ok (.invokevirtual 266, 3) := by decide +kernel
theorem dX11_gameStatus_8 : decode cX11_gameStatus 8 = .ok (.ifCond .eq 14, 3) := by decide +kernel
theorem dX11_gameStatus_11 : decode cX11_gameStatus 11 = .ok (.aload_n 0, 1) := by decide +kernel
theorem dX11_gameStatus_12 : decode cX11_gameStatus 12 = .ok (.getfield 43, 3) := by decide +kernel
theorem dX11_gameStatus_15 : decode cX11_gameStatus 15 = .ok (.iload_n 2, 1) := by decide +kernel
theorem dX11_gameStatus_16 : decode cX11_gameStatus 16 = .ok (.invokevirtual 266, 3) := by decide +kernel
theorem dX11_gameStatus_19 : decode cX11_gameStatus 19 = .ok (.ifCond .ne 5, 3) := by decide +kernel
theorem dX11_gameStatus_22 : decode cX11_gameStatus 22 = .ok (.iconst 2, 1) := by decide +kernel
theorem dX11_gameStatus_23 : decode cX11_gameStatus 23 = .ok (.ireturn, 1) := by decide +kernel
theorem dX11_gameStatus_24 : decode cX11_gameStatus 24 = .ok (.iload_n 1, 1) := by decide +kernel
theorem dX11_gameStatus_25 : decode cX11_gameStatus 25 = .ok (.iload_n 2, 1) := by decide +kernel
theorem dX11_gameStatus_26 : decode cX11_gameStatus 26 = .ok (.if_icmp .eq 17, 3) := by decide +kernel
theorem dX11_gameStatus_29 : decode cX11_gameStatus 29 = .ok (.iload_n 3, 1) := by decide +kernel
theorem dX11_gameStatus_30 : decode cX11_gameStatus 30 = .ok (.iload 4, 2) := by decide +kernel
theorem dX11_gameStatus_32 : decode cX11_gameStatus 32 = .ok (.iconst 3, 1) := by decide +kernel
theorem dX11_gameStatus_33 : decode cX11_gameStatus 33 = .ok (.invokestatic 135, 3) := by decide +kernel
theorem dX11_gameStatus_36 : decode cX11_gameStatus 36 = .ok (.ifCond .eq 7, 3) := by decide +kernel
theorem dX11_gameStatus_39 : decode cX11_gameStatus 39 = .ok (.iconst 0, 1) := by decide +kernel
theorem dX11_gameStatus_40 : decode cX11_gameStatus 40 = .ok (.goto 4, 3) := by decide +kernel
theorem dX11_gameStatus_43 : decode cX11_gameStatus 43 = .ok (.iconst 5, 1) := by decide +kernel
theorem dX11_gameStatus_44 : decode cX11_gameStatus 44 = .ok (.ireturn, 1) := by decide +kernel
theorem mw_X11_gameStatus : MW yX11_gameStatus cX11_gameStatus 5 0 4 false := ⟨tm 1428 (by decide +kernel) rfl, tm 235 (by decide +kernel) rfl, by decide, by decide, (by rw [if_neg (by decide)]; exact ⟨tm 1427 (by decide +kernel) rfl, tm 102 (by decide +kernel) rfl⟩)⟩
def H_gameStatus (a1 : Int) (a2 : Int) (a3 : Int) (a4 : Int) (σ : Sg) : Rs := (bd (Pr_isPerson 8 a1 σ) (fun r1 s2 => (if r1 = 0 then (some (2, s2)) else (bd (Pr_isPerson 8 a2 s2) (fun r3 s4 => (if r3 = 0 then (some (2, s4)) else (if a1 = a2 then (some (5, s4)) else (bd (H_within a3 a4 3 s4) (fun r5 s6 => (if r5 = 0 then (some (5, s6)) else (some (0, s6))))))))))))
theorem ok_H_gameStatus (a1 : Int) (a2 : Int) (a3 : Int) (a4 : Int) (σ : Sg) : MC l Kh Ph yX11_gameStatus cX11_gameStatus 5 0 2 [.inr (.inr 0), .inl a1, .inl a2, .inl a3, .inl a4] σ (H_gameStatus a1 a2 a3 a4 σ) := by
  refine mc_of (by decide) (Nat.le_of_ble_eq_true rfl) ?_
  change G l Kh Ph RX11 cX11_gameStatus 5 0 2 0 [some (.inr (.inr 0)), some (.inl a1), some (.inl a2), some (.inl a3), some (.inl a4)] [] σ (H_gameStatus a1 a2 a3 a4 σ)
  unfold H_gameStatus
  refine g_aload_n dX11_gameStatus_0 rfl rfl ?_
  refine g_getr' (q := 8) fl_RX11_43 kh_0 (by decide) rfl dX11_gameStatus_1 ?_
  refine g_iload_n dX11_gameStatus_4 rfl rfl ?_
  refine g_callv3 (st := []) 4 mw_X4_isPerson lk_RX11_266 rfl kh_8 (ok_Pr_isPerson 8 a1 kh_8 σ) (Nat.le_of_ble_eq_true rfl) rfl rfl (Nat.le_of_ble_eq_true rfl) dX11_gameStatus_5 ?_
  intro r1 s2
  refine g_ifeq (tgt := 22) dX11_gameStatus_8 (by decide) ?_ ?_
  · refine g_iconst dX11_gameStatus_22 (by decide) ?_
    exact g_iret dX11_gameStatus_23
  · refine g_aload_n dX11_gameStatus_11 rfl rfl ?_
    refine g_getr' (q := 8) fl_RX11_43 kh_0 (by decide) rfl dX11_gameStatus_12 ?_
    refine g_iload_n dX11_gameStatus_15 rfl rfl ?_
    refine g_callv3 (st := []) 4 mw_X4_isPerson lk_RX11_266 rfl kh_8 (ok_Pr_isPerson 8 a2 kh_8 s2) (Nat.le_of_ble_eq_true rfl) rfl rfl (Nat.le_of_ble_eq_true rfl) dX11_gameStatus_16 ?_
    intro r3 s4
    refine g_ifne (tgt := 24) dX11_gameStatus_19 (by decide) ?_ ?_
    · refine g_iconst dX11_gameStatus_22 (by decide) ?_
      exact g_iret dX11_gameStatus_23
    · refine g_iload_n dX11_gameStatus_24 rfl rfl ?_
      refine g_iload_n dX11_gameStatus_25 rfl rfl ?_
      refine g_icmpeq (tgt := 43) dX11_gameStatus_26 (by decide) ?_ ?_
      · refine g_iconst dX11_gameStatus_43 (by decide) ?_
        exact g_iret dX11_gameStatus_44
      · refine g_iload_n dX11_gameStatus_29 rfl rfl ?_
        refine g_iload dX11_gameStatus_30 rfl ?_
        refine g_iconst dX11_gameStatus_32 (by decide) ?_
        refine g_calls3 (st := []) mw_X11_within lk_RX11_135 (ok_H_within a3 a4 3 s4) (Nat.le_of_ble_eq_true rfl) rfl rfl (Nat.le_of_ble_eq_true rfl) dX11_gameStatus_33 ?_
        intro r5 s6
        refine g_ifeq (tgt := 43) dX11_gameStatus_36 (by decide) ?_ ?_
        · refine g_iconst dX11_gameStatus_43 (by decide) ?_
          exact g_iret dX11_gameStatus_44
        · refine g_iconst dX11_gameStatus_39 (by decide) ?_
          refine g_goto (tgt := 44) dX11_gameStatus_40 (by decide) ?_
          exact g_iret dX11_gameStatus_44
theorem dX0_canSay_0 : decode cX0_canSay 0 = .ok (.aload_n 0, 1) := by decide +kernel
theorem dX0_canSay_1 : decode cX0_canSay 1 = .ok (.getfield 15, 3) := by decide +kernel
theorem dX0_canSay_4 : decode cX0_canSay 4 = .ok (.iload_n 1, 1) := by decide +kernel
theorem dX0_canSay_5 : decode cX0_canSay 5 = .ok (.iaload, 1) := by decide +kernel
theorem dX0_canSay_6 : decode cX0_canSay 6 = .ok (.iload_n 3, 1) := by decide +kernel
theorem dX0_canSay_7 : decode cX0_canSay 7 = .ok (.ishr, 1) := by decide +kernel
theorem dX0_canSay_8 : decode cX0_canSay 8 = .ok (.iconst 1, 1) := by decide +kernel
theorem dX0_canSay_9 : decode cX0_canSay 9 = .ok (.iand, 1) := by decide +kernel
theorem dX0_canSay_10 : decode cX0_canSay 10 = .ok (.iconst 1, 1) := by decide +kernel
theorem dX0_canSay_11 : decode cX0_canSay 11 = .ok (.if_icmp .ne 20, 3) := by decide +kernel
theorem dX0_canSay_14 : decode cX0_canSay 14 = .ok (.aload_n 0, 1) := by decide +kernel
theorem dX0_canSay_15 : decode cX0_canSay 15 = .ok (.getfield 11, 3) := by decide +kernel
theorem dX0_canSay_18 : decode cX0_canSay 18 = .ok (.iload_n 2, 1) := by decide +kernel
theorem dX0_canSay_19 : decode cX0_canSay 19 = .ok (.iaload, 1) := by decide +kernel
theorem dX0_canSay_20 : decode cX0_canSay 20 = .ok (.iload_n 3, 1) := by decide +kernel
theorem dX0_canSay_21 : decode cX0_canSay 21 = .ok (.ishr, 1) := by decide +kernel
theorem dX0_canSay_22 : decode cX0_canSay 22 = .ok (.iconst 1, 1) := by decide +kernel
theorem dX0_canSay_23 : decode cX0_canSay 23 = .ok (.iand, 1) := by decide +kernel
theorem dX0_canSay_24 : decode cX0_canSay 24 = .ok (.ifCond .ne 7, 3) := by decide +kernel
theorem dX0_canSay_27 : decode cX0_canSay 27 = .ok (.iconst 1, 1) := by decide +kernel
theorem dX0_canSay_28 : decode cX0_canSay 28 = .ok (.goto 4, 3) := by decide +kernel
theorem dX0_canSay_31 : decode cX0_canSay 31 = .ok (.iconst 0, 1) := by decide +kernel
theorem dX0_canSay_32 : decode cX0_canSay 32 = .ok (.ireturn, 1) := by decide +kernel
theorem mw_X0_canSay : MW yX0_canSay cX0_canSay 4 3 3 false := ⟨tm 1450 (by decide +kernel) rfl, tm 248 (by decide +kernel) rfl, by decide, by decide, (by rw [if_neg (by decide)]; exact ⟨tm 1449 (by decide +kernel) rfl, tm 106 (by decide +kernel) rfl⟩)⟩
theorem fl_RX0_11 : FL RX0 11 0 0 := ⟨_, _, _, _, cw_0, by decide, Or.inr (Or.inr (Or.inr (by decide))), Or.inl (by decide), Or.inl (tm 605 (by decide +kernel) rfl)⟩
theorem fl_RX0_15 : FL RX0 15 0 1 := ⟨_, _, _, _, cw_0, by decide, Or.inr (Or.inr (Or.inr (by decide))), Or.inl (by decide), Or.inl (tm 606 (by decide +kernel) rfl)⟩
def Du_canSay (a1 : Int) (a2 : Int) (a3 : Int) (σ : Sg) : Rs := (rd 8 a1 (σ 110 (Int.toNat a1)) (fun x1 => (if (an32 (sr32 x1 a3) 1) = 1 then (rd 8 a2 (σ 109 (Int.toNat a2)) (fun x2 => (if (an32 (sr32 x2 a3) 1) = 0 then (some (1, σ)) else (some (0, σ))))) else (some (0, σ)))))
theorem ok_Du_canSay (a1 : Int) (a2 : Int) (a3 : Int) (σ : Sg) : MC l Kh Ph yX0_canSay cX0_canSay 4 3 1 [.inr (.inr 108), .inl a1, .inl a2, .inl a3] σ (Du_canSay a1 a2 a3 σ) := by
  refine mc_of (by decide) (Nat.le_of_ble_eq_true rfl) ?_
  change G l Kh Ph RX0 cX0_canSay 4 3 1 0 [some (.inr (.inr 108)), some (.inl a1), some (.inl a2), some (.inl a3)] [] σ (Du_canSay a1 a2 a3 σ)
  unfold Du_canSay
  refine g_aload_n dX0_canSay_0 rfl rfl ?_
  refine g_getr' (q := 110) fl_RX0_15 kh_108 (by decide) rfl dX0_canSay_1 ?_
  refine g_iload_n dX0_canSay_4 rfl rfl ?_
  refine g_iald kh_110 dX0_canSay_5 ?_
  intro x1
  refine g_iload_n dX0_canSay_6 rfl rfl ?_
  refine g_ishr dX0_canSay_7 ?_
  refine g_iconst dX0_canSay_8 (by decide) ?_
  refine g_iand dX0_canSay_9 ?_
  refine g_iconst dX0_canSay_10 (by decide) ?_
  refine g_icmpne (tgt := 31) dX0_canSay_11 (by decide) ?_ ?_
  · refine g_aload_n dX0_canSay_14 rfl rfl ?_
    refine g_getr' (q := 109) fl_RX0_11 kh_108 (by decide) rfl dX0_canSay_15 ?_
    refine g_iload_n dX0_canSay_18 rfl rfl ?_
    refine g_iald kh_109 dX0_canSay_19 ?_
    intro x2
    refine g_iload_n dX0_canSay_20 rfl rfl ?_
    refine g_ishr dX0_canSay_21 ?_
    refine g_iconst dX0_canSay_22 (by decide) ?_
    refine g_iand dX0_canSay_23 ?_
    refine g_ifne (tgt := 31) dX0_canSay_24 (by decide) ?_ ?_
    · refine g_iconst dX0_canSay_27 (by decide) ?_
      refine g_goto (tgt := 32) dX0_canSay_28 (by decide) ?_
      exact g_zret1 dX0_canSay_32
    · refine g_iconst dX0_canSay_31 (by decide) ?_
      exact g_zret0 dX0_canSay_32
  · refine g_iconst dX0_canSay_31 (by decide) ?_
    exact g_zret0 dX0_canSay_32
theorem dX0_hairAt_0 : decode cX0_hairAt 0 = .ok (.iload_n 2, 1) := by decide +kernel
theorem dX0_hairAt_1 : decode cX0_hairAt 1 = .ok (.iconst 2, 1) := by decide +kernel
theorem dX0_hairAt_2 : decode cX0_hairAt 2 = .ok (.imul, 1) := by decide +kernel
theorem dX0_hairAt_3 : decode cX0_hairAt 3 = .ok (.iload_n 3, 1) := by decide +kernel
theorem dX0_hairAt_4 : decode cX0_hairAt 4 = .ok (.iadd, 1) := by decide +kernel
theorem dX0_hairAt_5 : decode cX0_hairAt 5 = .ok (.istore 4, 2) := by decide +kernel
theorem dX0_hairAt_7 : decode cX0_hairAt 7 = .ok (.iconst 0, 1) := by decide +kernel
theorem dX0_hairAt_8 : decode cX0_hairAt 8 = .ok (.istore 5, 2) := by decide +kernel
theorem dX0_hairAt_10 : decode cX0_hairAt 10 = .ok (.iconst 0, 1) := by decide +kernel
theorem dX0_hairAt_11 : decode cX0_hairAt 11 = .ok (.istore 6, 2) := by decide +kernel
theorem dX0_hairAt_13 : decode cX0_hairAt 13 = .ok (.iload 6, 2) := by decide +kernel
theorem dX0_hairAt_15 : decode cX0_hairAt 15 = .ok (.aload_n 1, 1) := by decide +kernel
theorem dX0_hairAt_16 : decode cX0_hairAt 16 = .ok (.getfield 56, 3) := by decide +kernel
theorem dX0_hairAt_19 : decode cX0_hairAt 19 = .ok (.if_icmp .ge 73, 3) := by decide +kernel
theorem dX0_hairAt_22 : decode cX0_hairAt 22 = .ok (.iload 6, 2) := by decide +kernel
theorem dX0_hairAt_24 : decode cX0_hairAt 24 = .ok (.bipush 8, 2) := by decide +kernel
theorem dX0_hairAt_26 : decode cX0_hairAt 26 = .ok (.if_icmp .ge 66, 3) := by decide +kernel
theorem dX0_hairAt_29 : decode cX0_hairAt 29 = .ok (.aload_n 0, 1) := by decide +kernel
theorem dX0_hairAt_30 : decode cX0_hairAt 30 = .ok (.getfield 15, 3) := by decide +kernel
theorem dX0_hairAt_33 : decode cX0_hairAt 33 = .ok (.iload 4, 2) := by decide +kernel
theorem dX0_hairAt_35 : decode cX0_hairAt 35 = .ok (.iaload, 1) := by decide +kernel
theorem dX0_hairAt_36 : decode cX0_hairAt 36 = .ok (.iload 6, 2) := by decide +kernel
theorem dX0_hairAt_38 : decode cX0_hairAt 38 = .ok (.ishr, 1) := by decide +kernel
theorem dX0_hairAt_39 : decode cX0_hairAt 39 = .ok (.iconst 1, 1) := by decide +kernel
theorem dX0_hairAt_40 : decode cX0_hairAt 40 = .ok (.iand, 1) := by decide +kernel
theorem dX0_hairAt_41 : decode cX0_hairAt 41 = .ok (.iconst 1, 1) := by decide +kernel
theorem dX0_hairAt_42 : decode cX0_hairAt 42 = .ok (.if_icmp .ne 44, 3) := by decide +kernel
theorem dX0_hairAt_45 : decode cX0_hairAt 45 = .ok (.iload 4, 2) := by decide +kernel
theorem dX0_hairAt_47 : decode cX0_hairAt 47 = .ok (.bipush 8, 2) := by decide +kernel
theorem dX0_hairAt_49 : decode cX0_hairAt 49 = .ok (.imul, 1) := by decide +kernel
theorem dX0_hairAt_50 : decode cX0_hairAt 50 = .ok (.iload 6, 2) := by decide +kernel
theorem dX0_hairAt_52 : decode cX0_hairAt 52 = .ok (.iadd, 1) := by decide +kernel
theorem dX0_hairAt_53 : decode cX0_hairAt 53 = .ok (.istore 7, 2) := by decide +kernel
theorem dX0_hairAt_55 : decode cX0_hairAt 55 = .ok (.iload 5, 2) := by decide +kernel
theorem dX0_hairAt_57 : decode cX0_hairAt 57 = .ok (.aload_n 1, 1) := by decide +kernel
theorem dX0_hairAt_58 : decode cX0_hairAt 58 = .ok (.aload_n 1, 1) := by decide +kernel
theorem dX0_hairAt_59 : decode cX0_hairAt 59 = .ok (.getfield 70, 3) := by decide +kernel
theorem dX0_hairAt_62 : decode cX0_hairAt 62 = .ok (.iload_n 2, 1) := by decide +kernel
theorem dX0_hairAt_63 : decode cX0_hairAt 63 = .ok (.iadd, 1) := by decide +kernel
theorem dX0_hairAt_64 : decode cX0_hairAt 64 = .ok (.iload 6, 2) := by decide +kernel
theorem dX0_hairAt_66 : decode cX0_hairAt 66 = .ok (.aload_n 0, 1) := by decide +kernel
theorem dX0_hairAt_67 : decode cX0_hairAt 67 = .ok (.getfield 18, 3) := by decide +kernel
theorem dX0_hairAt_70 : decode cX0_hairAt 70 = .ok (.iload 7, 2) := by decide +kernel
theorem dX0_hairAt_72 : decode cX0_hairAt 72 = .ok (.iaload, 1) := by decide +kernel
theorem dX0_hairAt_73 : decode cX0_hairAt 73 = .ok (.aload_n 0, 1) := by decide +kernel
theorem dX0_hairAt_74 : decode cX0_hairAt 74 = .ok (.getfield 21, 3) := by decide +kernel
theorem dX0_hairAt_77 : decode cX0_hairAt 77 = .ok (.iload 7, 2) := by decide +kernel
theorem dX0_hairAt_79 : decode cX0_hairAt 79 = .ok (.iaload, 1) := by decide +kernel
theorem dX0_hairAt_80 : decode cX0_hairAt 80 = .ok (.invokevirtual 77, 3) := by decide +kernel
theorem dX0_hairAt_83 : decode cX0_hairAt 83 = .ok (.iadd, 1) := by decide +kernel
theorem dX0_hairAt_84 : decode cX0_hairAt 84 = .ok (.istore 5, 2) := by decide +kernel
theorem dX0_hairAt_86 : decode cX0_hairAt 86 = .ok (.iinc 6 1, 3) := by decide +kernel
theorem dX0_hairAt_89 : decode cX0_hairAt 89 = .ok (.goto (-76), 3) := by decide +kernel
theorem dX0_hairAt_92 : decode cX0_hairAt 92 = .ok (.iload 5, 2) := by decide +kernel
theorem dX0_hairAt_94 : decode cX0_hairAt 94 = .ok (.ireturn, 1) := by decide +kernel
theorem mw_X0_hairAt : MW yX0_hairAt cX0_hairAt 8 0 3 false := ⟨tm 1445 (by decide +kernel) rfl, tm 248 (by decide +kernel) rfl, by decide, by decide, (by rw [if_neg (by decide)]; exact ⟨tm 1444 (by decide +kernel) rfl, tm 105 (by decide +kernel) rfl⟩)⟩
theorem lk_RX0_77 : LK RX0 77 yX4_lengthOn := Or.inr ⟨"HairProvince", tm 1446 (by decide +kernel) rfl⟩
theorem fl_RX0_18 : FL RX0 18 0 2 := ⟨_, _, _, _, cw_0, by decide, Or.inr (Or.inr (Or.inr (by decide))), Or.inl (by decide), Or.inl (tm 607 (by decide +kernel) rfl)⟩
theorem fl_RX0_21 : FL RX0 21 0 3 := ⟨_, _, _, _, cw_0, by decide, Or.inr (Or.inr (Or.inr (by decide))), Or.inl (by decide), Or.inl (tm 608 (by decide +kernel) rfl)⟩
theorem fl_RX0_56 : FL RX0 56 4 10 := ⟨_, _, _, _, cw_4, by decide, Or.inl (by decide), Or.inr (by decide), Or.inr ⟨"HairProvince", tm 421 (by decide +kernel) rfl⟩⟩
theorem fl_RX0_70 : FL RX0 70 4 16 := ⟨_, _, _, _, cw_4, by decide, Or.inl (by decide), Or.inr (by decide), Or.inr ⟨"HairProvince", tm 443 (by decide +kernel) rfl⟩⟩
def Du_hairAt_L13 (pr1 : Nat) (a2 : Int) (v4 : Int) : Nat → Int → Int → Sg → Rs
  | 0, _, _, _ => none
  | n + 1, v5, v6, σ => (if v6 < (σ pr1 10) then (if v6 < 8 then (rd 8 v4 (σ 110 (Int.toNat v4)) (fun x2 => (if (an32 (sr32 x2 v6) 1) = 1 then (nm (w32 ((w32 (v4 * 8)) + v6)) (fun x3 => (rd 64 x3 (σ 111 (Int.toNat x3)) (fun x4 => (rd 64 x3 (σ 112 (Int.toNat x3)) (fun x5 => (bd (Pr_lengthOn pr1 (w32 ((σ pr1 16) + a2)) v6 x4 x5 σ) (fun r6 s7 => (nm (w32 (v5 + r6)) (fun x8 => (nm (w32 (v6 + 1)) (fun x9 => (Du_hairAt_L13 pr1 a2 v4 n x8 x9 s7))))))))))))) else (nm (w32 (v6 + 1)) (fun x10 => (Du_hairAt_L13 pr1 a2 v4 n v5 x10 σ)))))) else (some (v5, σ))) else (some (v5, σ)))
theorem ok_Du_hairAt_L13 (pr1 : Nat) (a2 : Int) (v4 : Int) (hpr1 : Kh[pr1]? = some (.inl 4)) : ∀ (n : Nat) (v5 v6 : Int) (σ : Sg), G l Kh Ph RX0 cX0_hairAt 8 0 2 13 [some (.inr (.inr 108)), some (.inr (.inr pr1)), some (.inl a2), none, some (.inl v4), some (.inl v5), some (.inl v6), none] [] σ (Du_hairAt_L13 pr1 a2 v4 n v5 v6 σ) := by
  intro n
  induction n with
  | zero => intros; exact G.none_
  | succ n ih =>
    intro v5 v6 σ
    rw [Du_hairAt_L13]
    refine g_iload dX0_hairAt_13 rfl ?_
    refine g_aload_n dX0_hairAt_15 rfl rfl ?_
    refine g_geti fl_RX0_56 hpr1 (by decide) dX0_hairAt_16 ?_
    refine g_icmpge (tgt := 92) dX0_hairAt_19 (by decide) ?_ ?_
    · refine g_iload dX0_hairAt_22 rfl ?_
      refine g_bipush dX0_hairAt_24 (by decide) ?_
      refine g_icmpge (tgt := 92) dX0_hairAt_26 (by decide) ?_ ?_
      · refine g_aload_n dX0_hairAt_29 rfl rfl ?_
        refine g_getr' (q := 110) fl_RX0_15 kh_108 (by decide) rfl dX0_hairAt_30 ?_
        refine g_iload dX0_hairAt_33 rfl ?_
        refine g_iald kh_110 dX0_hairAt_35 ?_
        intro x2
        refine g_iload dX0_hairAt_36 rfl ?_
        refine g_ishr dX0_hairAt_38 ?_
        refine g_iconst dX0_hairAt_39 (by decide) ?_
        refine g_iand dX0_hairAt_40 ?_
        refine g_iconst dX0_hairAt_41 (by decide) ?_
        refine g_icmpne (tgt := 86) dX0_hairAt_42 (by decide) ?_ ?_
        · refine g_iload dX0_hairAt_45 rfl ?_
          refine g_bipush dX0_hairAt_47 (by decide) ?_
          refine g_imul dX0_hairAt_49 ?_
          refine g_iload dX0_hairAt_50 rfl ?_
          refine g_iadd dX0_hairAt_52 ?_
          refine n_istore (fun x3 => [some (.inr (.inr 108)), some (.inr (.inr pr1)), some (.inl a2), none, some (.inl v4), some (.inl v5), some (.inl v6), some (.inl x3)]) dX0_hairAt_53 (Nat.le_of_ble_eq_true rfl) (fun _ => rfl) ?_
          intro x3
          refine g_iload dX0_hairAt_55 rfl ?_
          refine g_aload_n dX0_hairAt_57 rfl rfl ?_
          refine g_aload_n dX0_hairAt_58 rfl rfl ?_
          refine g_geti fl_RX0_70 hpr1 (by decide) dX0_hairAt_59 ?_
          refine g_iload_n dX0_hairAt_62 rfl rfl ?_
          refine g_iadd dX0_hairAt_63 ?_
          refine g_iload dX0_hairAt_64 rfl ?_
          refine g_aload_n dX0_hairAt_66 rfl rfl ?_
          refine g_getr' (q := 111) fl_RX0_18 kh_108 (by decide) rfl dX0_hairAt_67 ?_
          refine g_iload dX0_hairAt_70 rfl ?_
          refine g_iald kh_111 dX0_hairAt_72 ?_
          intro x4
          refine g_aload_n dX0_hairAt_73 rfl rfl ?_
          refine g_getr' (q := 112) fl_RX0_21 kh_108 (by decide) rfl dX0_hairAt_74 ?_
          refine g_iload dX0_hairAt_77 rfl ?_
          refine g_iald kh_112 dX0_hairAt_79 ?_
          intro x5
          refine g_callv0 (st := [.inl v5]) 4 mw_X4_lengthOn lk_RX0_77 rfl hpr1 (ok_Pr_lengthOn pr1 (w32 ((σ pr1 16) + a2)) v6 x4 x5 hpr1 σ) (Nat.le_of_ble_eq_true rfl) rfl rfl (Nat.le_of_ble_eq_true rfl) dX0_hairAt_80 ?_
          intro r6 s7
          refine g_iadd dX0_hairAt_83 ?_
          refine n_istore (fun x8 => [some (.inr (.inr 108)), some (.inr (.inr pr1)), some (.inl a2), none, some (.inl v4), some (.inl x8), some (.inl v6), some (.inl x3)]) dX0_hairAt_84 (Nat.le_of_ble_eq_true rfl) (fun _ => rfl) ?_
          intro x8
          refine n_iinc (fun x9 => [some (.inr (.inr 108)), some (.inr (.inr pr1)), some (.inl a2), none, some (.inl v4), some (.inl x8), some (.inl x9), some (.inl x3)]) dX0_hairAt_86 rfl (Nat.le_of_ble_eq_true rfl) (fun _ => rfl) ?_
          intro x9
          refine g_goto (tgt := 13) dX0_hairAt_89 (by decide) ?_
          exact (g_weak [true, true, true, false, true, true, true, false] (ih x8 x9 s7))
        · refine n_iinc (fun x10 => [some (.inr (.inr 108)), some (.inr (.inr pr1)), some (.inl a2), none, some (.inl v4), some (.inl v5), some (.inl x10), none]) dX0_hairAt_86 rfl (Nat.le_of_ble_eq_true rfl) (fun _ => rfl) ?_
          intro x10
          refine g_goto (tgt := 13) dX0_hairAt_89 (by decide) ?_
          exact (ih v5 x10 σ)
      · refine g_iload dX0_hairAt_92 rfl ?_
        exact g_iret dX0_hairAt_94
    · refine g_iload dX0_hairAt_92 rfl ?_
      exact g_iret dX0_hairAt_94
def Du_hairAt (pr1 : Nat) (a2 : Int) (a3 : Int) (σ : Sg) : Rs := (nm (w32 ((w32 (a2 * 2)) + a3)) (fun x1 => (Du_hairAt_L13 pr1 a2 x1 fu 0 0 σ)))
theorem ok_Du_hairAt (pr1 : Nat) (a2 : Int) (a3 : Int) (hpr1 : Kh[pr1]? = some (.inl 4)) (σ : Sg) : MC l Kh Ph yX0_hairAt cX0_hairAt 8 0 2 [.inr (.inr 108), .inr (.inr pr1), .inl a2, .inl a3] σ (Du_hairAt pr1 a2 a3 σ) := by
  refine mc_of (by decide) (Nat.le_of_ble_eq_true rfl) ?_
  change G l Kh Ph RX0 cX0_hairAt 8 0 2 0 [some (.inr (.inr 108)), some (.inr (.inr pr1)), some (.inl a2), some (.inl a3), none, none, none, none] [] σ (Du_hairAt pr1 a2 a3 σ)
  unfold Du_hairAt
  refine g_iload_n dX0_hairAt_0 rfl rfl ?_
  refine g_iconst dX0_hairAt_1 (by decide) ?_
  refine g_imul dX0_hairAt_2 ?_
  refine g_iload_n dX0_hairAt_3 rfl rfl ?_
  refine g_iadd dX0_hairAt_4 ?_
  refine n_istore (fun x1 => [some (.inr (.inr 108)), some (.inr (.inr pr1)), some (.inl a2), some (.inl a3), some (.inl x1), none, none, none]) dX0_hairAt_5 (Nat.le_of_ble_eq_true rfl) (fun _ => rfl) ?_
  intro x1
  refine g_iconst dX0_hairAt_7 (by decide) ?_
  refine g_istore (lv' := [some (.inr (.inr 108)), some (.inr (.inr pr1)), some (.inl a2), some (.inl a3), some (.inl x1), some (.inl 0), none, none]) dX0_hairAt_8 (Nat.le_of_ble_eq_true rfl) rfl ?_
  refine g_iconst dX0_hairAt_10 (by decide) ?_
  refine g_istore (lv' := [some (.inr (.inr 108)), some (.inr (.inr pr1)), some (.inl a2), some (.inl a3), some (.inl x1), some (.inl 0), some (.inl 0), none]) dX0_hairAt_11 (Nat.le_of_ble_eq_true rfl) rfl ?_
  refine (g_weak [true, true, true, false, true, true, true, false] (ok_Du_hairAt_L13 pr1 a2 x1 hpr1 fu 0 0 σ))
theorem dX0_copyHead_0 : decode cX0_copyHead 0 = .ok (.aload_n 0, 1) := by decide +kernel
theorem dX0_copyHead_1 : decode cX0_copyHead 1 = .ok (.getfield 11, 3) := by decide +kernel
theorem dX0_copyHead_4 : decode cX0_copyHead 4 = .ok (.iload_n 2, 1) := by decide +kernel
theorem dX0_copyHead_5 : decode cX0_copyHead 5 = .ok (.aload_n 0, 1) := by decide +kernel
theorem dX0_copyHead_6 : decode cX0_copyHead 6 = .ok (.getfield 11, 3) := by decide +kernel
theorem dX0_copyHead_9 : decode cX0_copyHead 9 = .ok (.iload_n 1, 1) := by decide +kernel
theorem dX0_copyHead_10 : decode cX0_copyHead 10 = .ok (.iaload, 1) := by decide +kernel
theorem dX0_copyHead_11 : decode cX0_copyHead 11 = .ok (.iastore, 1) := by decide +kernel
theorem dX0_copyHead_12 : decode cX0_copyHead 12 = .ok (.aload_n 0, 1) := by decide +kernel
theorem dX0_copyHead_13 : decode cX0_copyHead 13 = .ok (.getfield 15, 3) := by decide +kernel
theorem dX0_copyHead_16 : decode cX0_copyHead 16 = .ok (.iload_n 2, 1) := by decide +kernel
theorem dX0_copyHead_17 : decode cX0_copyHead 17 = .ok (.aload_n 0, 1) := by decide +kernel
theorem dX0_copyHead_18 : decode cX0_copyHead 18 = .ok (.getfield 15, 3) := by decide +kernel
theorem dX0_copyHead_21 : decode cX0_copyHead 21 = .ok (.iload_n 1, 1) := by decide +kernel
theorem dX0_copyHead_22 : decode cX0_copyHead 22 = .ok (.iaload, 1) := by decide +kernel
theorem dX0_copyHead_23 : decode cX0_copyHead 23 = .ok (.iastore, 1) := by decide +kernel
theorem dX0_copyHead_24 : decode cX0_copyHead 24 = .ok (.aload_n 0, 1) := by decide +kernel
theorem dX0_copyHead_25 : decode cX0_copyHead 25 = .ok (.getfield 18, 3) := by decide +kernel
theorem dX0_copyHead_28 : decode cX0_copyHead 28 = .ok (.iload_n 1, 1) := by decide +kernel
theorem dX0_copyHead_29 : decode cX0_copyHead 29 = .ok (.bipush 8, 2) := by decide +kernel
theorem dX0_copyHead_31 : decode cX0_copyHead 31 = .ok (.imul, 1) := by decide +kernel
theorem dX0_copyHead_32 : decode cX0_copyHead 32 = .ok (.aload_n 0, 1) := by decide +kernel
theorem dX0_copyHead_33 : decode cX0_copyHead 33 = .ok (.getfield 18, 3) := by decide +kernel
theorem dX0_copyHead_36 : decode cX0_copyHead 36 = .ok (.iload_n 2, 1) := by decide +kernel
theorem dX0_copyHead_37 : decode cX0_copyHead 37 = .ok (.bipush 8, 2) := by decide +kernel
theorem dX0_copyHead_39 : decode cX0_copyHead 39 = .ok (.imul, 1) := by decide +kernel
theorem dX0_copyHead_40 : decode cX0_copyHead 40 = .ok (.bipush 8, 2) := by decide +kernel
theorem dX0_copyHead_42 : decode cX0_copyHead 42 = .ok (.invokestatic 45, 3) := by decide +kernel
theorem dX0_copyHead_45 : decode cX0_copyHead 45 = .ok (.aload_n 0, 1) := by decide +kernel
theorem dX0_copyHead_46 : decode cX0_copyHead 46 = .ok (.getfield 21, 3) := by decide +kernel
theorem dX0_copyHead_49 : decode cX0_copyHead 49 = .ok (.iload_n 1, 1) := by decide +kernel
theorem dX0_copyHead_50 : decode cX0_copyHead 50 = .ok (.bipush 8, 2) := by decide +kernel
theorem dX0_copyHead_52 : decode cX0_copyHead 52 = .ok (.imul, 1) := by decide +kernel
theorem dX0_copyHead_53 : decode cX0_copyHead 53 = .ok (.aload_n 0, 1) := by decide +kernel
theorem dX0_copyHead_54 : decode cX0_copyHead 54 = .ok (.getfield 21, 3) := by decide +kernel
theorem dX0_copyHead_57 : decode cX0_copyHead 57 = .ok (.iload_n 2, 1) := by decide +kernel
theorem dX0_copyHead_58 : decode cX0_copyHead 58 = .ok (.bipush 8, 2) := by decide +kernel
theorem dX0_copyHead_60 : decode cX0_copyHead 60 = .ok (.imul, 1) := by decide +kernel
theorem dX0_copyHead_61 : decode cX0_copyHead 61 = .ok (.bipush 8, 2) := by decide +kernel
theorem dX0_copyHead_63 : decode cX0_copyHead 63 = .ok (.invokestatic 45, 3) := by decide +kernel
theorem dX0_copyHead_66 : decode cX0_copyHead 66 = .ok (.return_, 1) := by decide +kernel
theorem mw_X0_copyHead : MW yX0_copyHead cX0_copyHead 3 2 2 false := ⟨tm 1458 (by decide +kernel) rfl, tm 248 (by decide +kernel) rfl, by decide, by decide, (by rw [if_neg (by decide)]; exact ⟨tm 1457 (by decide +kernel) rfl, tm 108 (by decide +kernel) rfl⟩)⟩
theorem cy_RX0_45 : CY RX0 45 := ⟨tm 1438 (by decide +kernel) rfl, tm 782 (by decide +kernel) rfl, tm 781 (by decide +kernel) rfl, tm 250 (by decide +kernel) rfl⟩
def Du_copyHead (a1 : Int) (a2 : Int) (σ : Sg) : Rs := (rd 8 a1 (σ 109 (Int.toNat a1)) (fun x1 => (wr 8 a2 (up_s σ 109 (Int.toNat a2) x1) (fun s2 => (rd 8 a1 (s2 110 (Int.toNat a1)) (fun x3 => (wr 8 a2 (up_s s2 110 (Int.toNat a2) x3) (fun s4 => (cpw 64 64 (w32 (a1 * 8)) (w32 (a2 * 8)) 8 (cp_s s4 111 111 (Int.toNat (w32 (a1 * 8))) (Int.toNat (w32 (a2 * 8))) (Int.toNat 8)) (fun s5 => (cpw 64 64 (w32 (a1 * 8)) (w32 (a2 * 8)) 8 (cp_s s5 112 112 (Int.toNat (w32 (a1 * 8))) (Int.toNat (w32 (a2 * 8))) (Int.toNat 8)) (fun s6 => (some (0, s6))))))))))))))
theorem ok_Du_copyHead (a1 : Int) (a2 : Int) (σ : Sg) : MC l Kh Ph yX0_copyHead cX0_copyHead 3 2 1 [.inr (.inr 108), .inl a1, .inl a2] σ (Du_copyHead a1 a2 σ) := by
  refine mc_of (by decide) (Nat.le_of_ble_eq_true rfl) ?_
  change G l Kh Ph RX0 cX0_copyHead 3 2 1 0 [some (.inr (.inr 108)), some (.inl a1), some (.inl a2)] [] σ (Du_copyHead a1 a2 σ)
  unfold Du_copyHead
  refine g_aload_n dX0_copyHead_0 rfl rfl ?_
  refine g_getr' (q := 109) fl_RX0_11 kh_108 (by decide) rfl dX0_copyHead_1 ?_
  refine g_iload_n dX0_copyHead_4 rfl rfl ?_
  refine g_aload_n dX0_copyHead_5 rfl rfl ?_
  refine g_getr' (q := 109) fl_RX0_11 kh_108 (by decide) rfl dX0_copyHead_6 ?_
  refine g_iload_n dX0_copyHead_9 rfl rfl ?_
  refine g_iald kh_109 dX0_copyHead_10 ?_
  intro x1
  refine g_iast kh_109 dX0_copyHead_11 ?_
  intro s2
  refine g_aload_n dX0_copyHead_12 rfl rfl ?_
  refine g_getr' (q := 110) fl_RX0_15 kh_108 (by decide) rfl dX0_copyHead_13 ?_
  refine g_iload_n dX0_copyHead_16 rfl rfl ?_
  refine g_aload_n dX0_copyHead_17 rfl rfl ?_
  refine g_getr' (q := 110) fl_RX0_15 kh_108 (by decide) rfl dX0_copyHead_18 ?_
  refine g_iload_n dX0_copyHead_21 rfl rfl ?_
  refine g_iald kh_110 dX0_copyHead_22 ?_
  intro x3
  refine g_iast kh_110 dX0_copyHead_23 ?_
  intro s4
  refine g_aload_n dX0_copyHead_24 rfl rfl ?_
  refine g_getr' (q := 111) fl_RX0_18 kh_108 (by decide) rfl dX0_copyHead_25 ?_
  refine g_iload_n dX0_copyHead_28 rfl rfl ?_
  refine g_bipush dX0_copyHead_29 (by decide) ?_
  refine g_imul dX0_copyHead_31 ?_
  refine g_aload_n dX0_copyHead_32 rfl rfl ?_
  refine g_getr' (q := 111) fl_RX0_18 kh_108 (by decide) rfl dX0_copyHead_33 ?_
  refine g_iload_n dX0_copyHead_36 rfl rfl ?_
  refine g_bipush dX0_copyHead_37 (by decide) ?_
  refine g_imul dX0_copyHead_39 ?_
  refine g_bipush dX0_copyHead_40 (by decide) ?_
  refine g_copyi cy_RX0_45 kh_111 kh_111 (Nat.le_of_ble_eq_true rfl) (Nat.le_of_ble_eq_true rfl) dX0_copyHead_42 ?_
  intro s5
  refine g_aload_n dX0_copyHead_45 rfl rfl ?_
  refine g_getr' (q := 112) fl_RX0_21 kh_108 (by decide) rfl dX0_copyHead_46 ?_
  refine g_iload_n dX0_copyHead_49 rfl rfl ?_
  refine g_bipush dX0_copyHead_50 (by decide) ?_
  refine g_imul dX0_copyHead_52 ?_
  refine g_aload_n dX0_copyHead_53 rfl rfl ?_
  refine g_getr' (q := 112) fl_RX0_21 kh_108 (by decide) rfl dX0_copyHead_54 ?_
  refine g_iload_n dX0_copyHead_57 rfl rfl ?_
  refine g_bipush dX0_copyHead_58 (by decide) ?_
  refine g_imul dX0_copyHead_60 ?_
  refine g_bipush dX0_copyHead_61 (by decide) ?_
  refine g_copyi cy_RX0_45 kh_112 kh_112 (Nat.le_of_ble_eq_true rfl) (Nat.le_of_ble_eq_true rfl) dX0_copyHead_63 ?_
  intro s6
  exact g_vret dX0_copyHead_66
theorem dX0_pass_0 : decode cX0_pass 0 = .ok (.aload_n 0, 1) := by decide +kernel
theorem dX0_pass_1 : decode cX0_pass 1 = .ok (.getfield 15, 3) := by decide +kernel
theorem dX0_pass_4 : decode cX0_pass 4 = .ok (.iload_n 1, 1) := by decide +kernel
theorem dX0_pass_5 : decode cX0_pass 5 = .ok (.dup2, 1) := by decide +kernel
theorem dX0_pass_6 : decode cX0_pass 6 = .ok (.iaload, 1) := by decide +kernel
theorem dX0_pass_7 : decode cX0_pass 7 = .ok (.iconst 1, 1) := by decide +kernel
theorem dX0_pass_8 : decode cX0_pass 8 = .ok (.iload_n 3, 1) := by decide +kernel
theorem dX0_pass_9 : decode cX0_pass 9 = .ok (.ishl, 1) := by decide +kernel
theorem dX0_pass_10 : decode cX0_pass 10 = .ok (.iconst (-1), 1) := by decide +kernel
theorem dX0_pass_11 : decode cX0_pass 11 = .ok (.ixor, 1) := by decide +kernel
theorem dX0_pass_12 : decode cX0_pass 12 = .ok (.iand, 1) := by decide +kernel
theorem dX0_pass_13 : decode cX0_pass 13 = .ok (.iastore, 1) := by decide +kernel
theorem dX0_pass_14 : decode cX0_pass 14 = .ok (.aload_n 0, 1) := by decide +kernel
theorem dX0_pass_15 : decode cX0_pass 15 = .ok (.getfield 11, 3) := by decide +kernel
theorem dX0_pass_18 : decode cX0_pass 18 = .ok (.iload_n 2, 1) := by decide +kernel
theorem dX0_pass_19 : decode cX0_pass 19 = .ok (.dup2, 1) := by decide +kernel
theorem dX0_pass_20 : decode cX0_pass 20 = .ok (.iaload, 1) := by decide +kernel
theorem dX0_pass_21 : decode cX0_pass 21 = .ok (.iconst 1, 1) := by decide +kernel
theorem dX0_pass_22 : decode cX0_pass 22 = .ok (.iload_n 3, 1) := by decide +kernel
theorem dX0_pass_23 : decode cX0_pass 23 = .ok (.ishl, 1) := by decide +kernel
theorem dX0_pass_24 : decode cX0_pass 24 = .ok (.ior, 1) := by decide +kernel
theorem dX0_pass_25 : decode cX0_pass 25 = .ok (.iastore, 1) := by decide +kernel
theorem dX0_pass_26 : decode cX0_pass 26 = .ok (.aload_n 0, 1) := by decide +kernel
theorem dX0_pass_27 : decode cX0_pass 27 = .ok (.getfield 15, 3) := by decide +kernel
theorem dX0_pass_30 : decode cX0_pass 30 = .ok (.iload_n 2, 1) := by decide +kernel
theorem dX0_pass_31 : decode cX0_pass 31 = .ok (.dup2, 1) := by decide +kernel
theorem dX0_pass_32 : decode cX0_pass 32 = .ok (.iaload, 1) := by decide +kernel
theorem dX0_pass_33 : decode cX0_pass 33 = .ok (.iconst 1, 1) := by decide +kernel
theorem dX0_pass_34 : decode cX0_pass 34 = .ok (.iload_n 3, 1) := by decide +kernel
theorem dX0_pass_35 : decode cX0_pass 35 = .ok (.ishl, 1) := by decide +kernel
theorem dX0_pass_36 : decode cX0_pass 36 = .ok (.ior, 1) := by decide +kernel
theorem dX0_pass_37 : decode cX0_pass 37 = .ok (.iastore, 1) := by decide +kernel
theorem dX0_pass_38 : decode cX0_pass 38 = .ok (.aload_n 0, 1) := by decide +kernel
theorem dX0_pass_39 : decode cX0_pass 39 = .ok (.getfield 18, 3) := by decide +kernel
theorem dX0_pass_42 : decode cX0_pass 42 = .ok (.iload_n 2, 1) := by decide +kernel
theorem dX0_pass_43 : decode cX0_pass 43 = .ok (.bipush 8, 2) := by decide +kernel
theorem dX0_pass_45 : decode cX0_pass 45 = .ok (.imul, 1) := by decide +kernel
theorem dX0_pass_46 : decode cX0_pass 46 = .ok (.iload_n 3, 1) := by decide +kernel
theorem dX0_pass_47 : decode cX0_pass 47 = .ok (.iadd, 1) := by decide +kernel
theorem dX0_pass_48 : decode cX0_pass 48 = .ok (.iload 4, 2) := by decide +kernel
theorem dX0_pass_50 : decode cX0_pass 50 = .ok (.iastore, 1) := by decide +kernel
theorem dX0_pass_51 : decode cX0_pass 51 = .ok (.aload_n 0, 1) := by decide +kernel
theorem dX0_pass_52 : decode cX0_pass 52 = .ok (.getfield 21, 3) := by decide +kernel
theorem dX0_pass_55 : decode cX0_pass 55 = .ok (.iload_n 2, 1) := by decide +kernel
theorem dX0_pass_56 : decode cX0_pass 56 = .ok (.bipush 8, 2) := by decide +kernel
theorem dX0_pass_58 : decode cX0_pass 58 = .ok (.imul, 1) := by decide +kernel
theorem dX0_pass_59 : decode cX0_pass 59 = .ok (.iload_n 3, 1) := by decide +kernel
theorem dX0_pass_60 : decode cX0_pass 60 = .ok (.iadd, 1) := by decide +kernel
theorem dX0_pass_61 : decode cX0_pass 61 = .ok (.iload 4, 2) := by decide +kernel
theorem dX0_pass_63 : decode cX0_pass 63 = .ok (.iastore, 1) := by decide +kernel
theorem dX0_pass_64 : decode cX0_pass 64 = .ok (.return_, 1) := by decide +kernel
theorem mw_X0_pass : MW yX0_pass cX0_pass 5 2 4 false := ⟨tm 1462 (by decide +kernel) rfl, tm 248 (by decide +kernel) rfl, by decide, by decide, (by rw [if_neg (by decide)]; exact ⟨tm 1461 (by decide +kernel) rfl, tm 109 (by decide +kernel) rfl⟩)⟩
def Du_pass (a1 : Int) (a2 : Int) (a3 : Int) (a4 : Int) (σ : Sg) : Rs := (rd 8 a1 (σ 110 (Int.toNat a1)) (fun x1 => (wr 8 a1 (up_s σ 110 (Int.toNat a1) (an32 x1 (xo32 (sl32 1 a3) (-1)))) (fun s2 => (rd 8 a2 (s2 109 (Int.toNat a2)) (fun x3 => (wr 8 a2 (up_s s2 109 (Int.toNat a2) (or32 x3 (sl32 1 a3))) (fun s4 => (rd 8 a2 (s4 110 (Int.toNat a2)) (fun x5 => (wr 8 a2 (up_s s4 110 (Int.toNat a2) (or32 x5 (sl32 1 a3))) (fun s6 => (wr 64 (w32 ((w32 (a2 * 8)) + a3)) (up_s s6 111 (Int.toNat (w32 ((w32 (a2 * 8)) + a3))) a4) (fun s7 => (wr 64 (w32 ((w32 (a2 * 8)) + a3)) (up_s s7 112 (Int.toNat (w32 ((w32 (a2 * 8)) + a3))) a4) (fun s8 => (some (0, s8))))))))))))))))))
theorem ok_Du_pass (a1 : Int) (a2 : Int) (a3 : Int) (a4 : Int) (σ : Sg) : MC l Kh Ph yX0_pass cX0_pass 5 2 1 [.inr (.inr 108), .inl a1, .inl a2, .inl a3, .inl a4] σ (Du_pass a1 a2 a3 a4 σ) := by
  refine mc_of (by decide) (Nat.le_of_ble_eq_true rfl) ?_
  change G l Kh Ph RX0 cX0_pass 5 2 1 0 [some (.inr (.inr 108)), some (.inl a1), some (.inl a2), some (.inl a3), some (.inl a4)] [] σ (Du_pass a1 a2 a3 a4 σ)
  unfold Du_pass
  refine g_aload_n dX0_pass_0 rfl rfl ?_
  refine g_getr' (q := 110) fl_RX0_15 kh_108 (by decide) rfl dX0_pass_1 ?_
  refine g_iload_n dX0_pass_4 rfl rfl ?_
  refine g_dup2 dX0_pass_5 rfl rfl ?_
  refine g_iald kh_110 dX0_pass_6 ?_
  intro x1
  refine g_iconst dX0_pass_7 (by decide) ?_
  refine g_iload_n dX0_pass_8 rfl rfl ?_
  refine g_ishl dX0_pass_9 ?_
  refine g_iconst dX0_pass_10 (by decide) ?_
  refine g_ixor dX0_pass_11 ?_
  refine g_iand dX0_pass_12 ?_
  refine g_iast kh_110 dX0_pass_13 ?_
  intro s2
  refine g_aload_n dX0_pass_14 rfl rfl ?_
  refine g_getr' (q := 109) fl_RX0_11 kh_108 (by decide) rfl dX0_pass_15 ?_
  refine g_iload_n dX0_pass_18 rfl rfl ?_
  refine g_dup2 dX0_pass_19 rfl rfl ?_
  refine g_iald kh_109 dX0_pass_20 ?_
  intro x3
  refine g_iconst dX0_pass_21 (by decide) ?_
  refine g_iload_n dX0_pass_22 rfl rfl ?_
  refine g_ishl dX0_pass_23 ?_
  refine g_ior dX0_pass_24 ?_
  refine g_iast kh_109 dX0_pass_25 ?_
  intro s4
  refine g_aload_n dX0_pass_26 rfl rfl ?_
  refine g_getr' (q := 110) fl_RX0_15 kh_108 (by decide) rfl dX0_pass_27 ?_
  refine g_iload_n dX0_pass_30 rfl rfl ?_
  refine g_dup2 dX0_pass_31 rfl rfl ?_
  refine g_iald kh_110 dX0_pass_32 ?_
  intro x5
  refine g_iconst dX0_pass_33 (by decide) ?_
  refine g_iload_n dX0_pass_34 rfl rfl ?_
  refine g_ishl dX0_pass_35 ?_
  refine g_ior dX0_pass_36 ?_
  refine g_iast kh_110 dX0_pass_37 ?_
  intro s6
  refine g_aload_n dX0_pass_38 rfl rfl ?_
  refine g_getr' (q := 111) fl_RX0_18 kh_108 (by decide) rfl dX0_pass_39 ?_
  refine g_iload_n dX0_pass_42 rfl rfl ?_
  refine g_bipush dX0_pass_43 (by decide) ?_
  refine g_imul dX0_pass_45 ?_
  refine g_iload_n dX0_pass_46 rfl rfl ?_
  refine g_iadd dX0_pass_47 ?_
  refine g_iload dX0_pass_48 rfl ?_
  refine g_iast kh_111 dX0_pass_50 ?_
  intro s7
  refine g_aload_n dX0_pass_51 rfl rfl ?_
  refine g_getr' (q := 112) fl_RX0_21 kh_108 (by decide) rfl dX0_pass_52 ?_
  refine g_iload_n dX0_pass_55 rfl rfl ?_
  refine g_bipush dX0_pass_56 (by decide) ?_
  refine g_imul dX0_pass_58 ?_
  refine g_iload_n dX0_pass_59 rfl rfl ?_
  refine g_iadd dX0_pass_60 ?_
  refine g_iload dX0_pass_61 rfl ?_
  refine g_iast kh_112 dX0_pass_63 ?_
  intro s8
  exact g_vret dX0_pass_64
theorem dX0_turn_0 : decode cX0_turn 0 = .ok (.iload_n 2, 1) := by decide +kernel
theorem dX0_turn_1 : decode cX0_turn 1 = .ok (.iconst 2, 1) := by decide +kernel
theorem dX0_turn_2 : decode cX0_turn 2 = .ok (.irem, 1) := by decide +kernel
theorem dX0_turn_3 : decode cX0_turn 3 = .ok (.istore 4, 2) := by decide +kernel
theorem dX0_turn_5 : decode cX0_turn 5 = .ok (.iload_n 2, 1) := by decide +kernel
theorem dX0_turn_6 : decode cX0_turn 6 = .ok (.iconst 1, 1) := by decide +kernel
theorem dX0_turn_7 : decode cX0_turn 7 = .ok (.iadd, 1) := by decide +kernel
theorem dX0_turn_8 : decode cX0_turn 8 = .ok (.iconst 2, 1) := by decide +kernel
theorem dX0_turn_9 : decode cX0_turn 9 = .ok (.imul, 1) := by decide +kernel
theorem dX0_turn_10 : decode cX0_turn 10 = .ok (.istore 5, 2) := by decide +kernel
theorem dX0_turn_12 : decode cX0_turn 12 = .ok (.iconst 0, 1) := by decide +kernel
theorem dX0_turn_13 : decode cX0_turn 13 = .ok (.istore 6, 2) := by decide +kernel
theorem dX0_turn_15 : decode cX0_turn 15 = .ok (.iload 6, 2) := by decide +kernel
theorem dX0_turn_17 : decode cX0_turn 17 = .ok (.iconst 2, 1) := by decide +kernel
theorem dX0_turn_18 : decode cX0_turn 18 = .ok (.if_icmp .ge 24, 3) := by decide +kernel
theorem dX0_turn_21 : decode cX0_turn 21 = .ok (.aload_n 0, 1) := by decide +kernel
theorem dX0_turn_22 : decode cX0_turn 22 = .ok (.iload_n 2, 1) := by decide +kernel
theorem dX0_turn_23 : decode cX0_turn 23 = .ok (.iconst 2, 1) := by decide +kernel
theorem dX0_turn_24 : decode cX0_turn 24 = .ok (.imul, 1) := by decide +kernel
theorem dX0_turn_25 : decode cX0_turn 25 = .ok (.iload 6, 2) := by decide +kernel
theorem dX0_turn_27 : decode cX0_turn 27 = .ok (.iadd, 1) := by decide +kernel
theorem dX0_turn_28 : decode cX0_turn 28 = .ok (.iload 5, 2) := by decide +kernel
theorem dX0_turn_30 : decode cX0_turn 30 = .ok (.iload 6, 2) := by decide +kernel
theorem dX0_turn_32 : decode cX0_turn 32 = .ok (.iadd, 1) := by decide +kernel
theorem dX0_turn_33 : decode cX0_turn 33 = .ok (.invokevirtual 66, 3) := by decide +kernel
theorem dX0_turn_36 : decode cX0_turn 36 = .ok (.iinc 6 1, 3) := by decide +kernel
theorem dX0_turn_39 : decode cX0_turn 39 = .ok (.goto (-24), 3) := by decide +kernel
theorem dX0_turn_42 : decode cX0_turn 42 = .ok (.iload_n 3, 1) := by decide +kernel
theorem dX0_turn_43 : decode cX0_turn 43 = .ok (.aload_n 1, 1) := by decide +kernel
theorem dX0_turn_44 : decode cX0_turn 44 = .ok (.getfield 56, 3) := by decide +kernel
theorem dX0_turn_47 : decode cX0_turn 47 = .ok (.if_icmp .ge 26, 3) := by decide +kernel
theorem dX0_turn_50 : decode cX0_turn 50 = .ok (.aload_n 0, 1) := by decide +kernel
theorem dX0_turn_51 : decode cX0_turn 51 = .ok (.iload 5, 2) := by decide +kernel
theorem dX0_turn_53 : decode cX0_turn 53 = .ok (.iload 4, 2) := by decide +kernel
theorem dX0_turn_55 : decode cX0_turn 55 = .ok (.iadd, 1) := by decide +kernel
theorem dX0_turn_56 : decode cX0_turn 56 = .ok (.iload 5, 2) := by decide +kernel
theorem dX0_turn_58 : decode cX0_turn 58 = .ok (.iconst 1, 1) := by decide +kernel
theorem dX0_turn_59 : decode cX0_turn 59 = .ok (.iadd, 1) := by decide +kernel
theorem dX0_turn_60 : decode cX0_turn 60 = .ok (.iload 4, 2) := by decide +kernel
theorem dX0_turn_62 : decode cX0_turn 62 = .ok (.isub, 1) := by decide +kernel
theorem dX0_turn_63 : decode cX0_turn 63 = .ok (.iload_n 3, 1) := by decide +kernel
theorem dX0_turn_64 : decode cX0_turn 64 = .ok (.aload_n 1, 1) := by decide +kernel
theorem dX0_turn_65 : decode cX0_turn 65 = .ok (.getfield 70, 3) := by decide +kernel
theorem dX0_turn_68 : decode cX0_turn 68 = .ok (.iload_n 2, 1) := by decide +kernel
theorem dX0_turn_69 : decode cX0_turn 69 = .ok (.iadd, 1) := by decide +kernel
theorem dX0_turn_70 : decode cX0_turn 70 = .ok (.invokevirtual 73, 3) := by decide +kernel
theorem dX0_turn_73 : decode cX0_turn 73 = .ok (.return_, 1) := by decide +kernel
theorem mw_X0_turn : MW yX0_turn cX0_turn 7 2 3 false := ⟨tm 1454 (by decide +kernel) rfl, tm 248 (by decide +kernel) rfl, by decide, by decide, (by rw [if_neg (by decide)]; exact ⟨tm 1453 (by decide +kernel) rfl, tm 107 (by decide +kernel) rfl⟩)⟩
theorem lk_RX0_66 : LK RX0 66 yX0_copyHead := Or.inl (tm 1455 (by decide +kernel) rfl)
theorem lk_RX0_73 : LK RX0 73 yX0_pass := Or.inl (tm 1459 (by decide +kernel) rfl)
def Du_turn_L15 (pr1 : Nat) (a2 : Int) (a3 : Int) (v4 : Int) (v5 : Int) (k42 : Int → Int → Sg → Rs) : Nat → Int → Sg → Rs
  | 0, _, _ => none
  | n + 1, v6, σ => (if v6 < 2 then (bd (Du_copyHead (w32 ((w32 (a2 * 2)) + v6)) (w32 (v5 + v6)) σ) (fun r3 s4 => (nm (w32 (v6 + 1)) (fun x5 => (Du_turn_L15 pr1 a2 a3 v4 v5 k42 n x5 s4))))) else (k42 v4 v5 σ))
theorem ok_Du_turn_L15 (pr1 : Nat) (a2 : Int) (a3 : Int) (v4 : Int) (v5 : Int) (hpr1 : Kh[pr1]? = some (.inl 4)) (k42 : Int → Int → Sg → Rs) (hk42 : ∀ (y4 y5 : Int) (σ : Sg), G l Kh Ph RX0 cX0_turn 7 2 2 42 [some (.inr (.inr 108)), some (.inr (.inr pr1)), some (.inl a2), some (.inl a3), some (.inl y4), some (.inl y5), none] [] σ (k42 y4 y5 σ)) : ∀ (n : Nat) (v6 : Int) (σ : Sg), G l Kh Ph RX0 cX0_turn 7 2 2 15 [some (.inr (.inr 108)), some (.inr (.inr pr1)), some (.inl a2), some (.inl a3), some (.inl v4), some (.inl v5), some (.inl v6)] [] σ (Du_turn_L15 pr1 a2 a3 v4 v5 k42 n v6 σ) := by
  intro n
  induction n with
  | zero => intros; exact G.none_
  | succ n ih =>
    intro v6 σ
    rw [Du_turn_L15]
    refine g_iload dX0_turn_15 rfl ?_
    refine g_iconst dX0_turn_17 (by decide) ?_
    refine g_icmpge (tgt := 42) dX0_turn_18 (by decide) ?_ ?_
    · refine g_aload_n dX0_turn_21 rfl rfl ?_
      refine g_iload_n dX0_turn_22 rfl rfl ?_
      refine g_iconst dX0_turn_23 (by decide) ?_
      refine g_imul dX0_turn_24 ?_
      refine g_iload dX0_turn_25 rfl ?_
      refine g_iadd dX0_turn_27 ?_
      refine g_iload dX0_turn_28 rfl ?_
      refine g_iload dX0_turn_30 rfl ?_
      refine g_iadd dX0_turn_32 ?_
      refine g_callv2 (st := []) 0 mw_X0_copyHead lk_RX0_66 rfl kh_108 (ok_Du_copyHead (w32 ((w32 (a2 * 2)) + v6)) (w32 (v5 + v6)) σ) (Nat.le_of_ble_eq_true rfl) rfl rfl (Nat.le_of_ble_eq_true rfl) dX0_turn_33 ?_
      intro r3 s4
      refine n_iinc (fun x5 => [some (.inr (.inr 108)), some (.inr (.inr pr1)), some (.inl a2), some (.inl a3), some (.inl v4), some (.inl v5), some (.inl x5)]) dX0_turn_36 rfl (Nat.le_of_ble_eq_true rfl) (fun _ => rfl) ?_
      intro x5
      refine g_goto (tgt := 15) dX0_turn_39 (by decide) ?_
      exact (ih x5 s4)
    · exact (g_weak [true, true, true, true, true, true, false] (hk42 v4 v5 σ))
def Du_turn_J42 (pr1 : Nat) (a2 : Int) (a3 : Int) (v4 : Int) (v5 : Int) (σ : Sg) : Rs := (if a3 < (σ pr1 10) then (bd (Du_pass (w32 (v5 + v4)) (w32 ((w32 (v5 + 1)) - v4)) a3 (w32 ((σ pr1 16) + a2)) σ) (fun r9 s10 => (some (0, s10)))) else (some (0, σ)))
theorem ok_Du_turn_J42 (pr1 : Nat) (a2 : Int) (a3 : Int) (v4 : Int) (v5 : Int) (hpr1 : Kh[pr1]? = some (.inl 4)) : ∀ (σ : Sg), G l Kh Ph RX0 cX0_turn 7 2 2 42 [some (.inr (.inr 108)), some (.inr (.inr pr1)), some (.inl a2), some (.inl a3), some (.inl v4), some (.inl v5), none] [] σ (Du_turn_J42 pr1 a2 a3 v4 v5  σ) := by
  intro σ
  unfold Du_turn_J42
  refine g_iload_n dX0_turn_42 rfl rfl ?_
  refine g_aload_n dX0_turn_43 rfl rfl ?_
  refine g_geti fl_RX0_56 hpr1 (by decide) dX0_turn_44 ?_
  refine g_icmpge (tgt := 73) dX0_turn_47 (by decide) ?_ ?_
  · refine g_aload_n dX0_turn_50 rfl rfl ?_
    refine g_iload dX0_turn_51 rfl ?_
    refine g_iload dX0_turn_53 rfl ?_
    refine g_iadd dX0_turn_55 ?_
    refine g_iload dX0_turn_56 rfl ?_
    refine g_iconst dX0_turn_58 (by decide) ?_
    refine g_iadd dX0_turn_59 ?_
    refine g_iload dX0_turn_60 rfl ?_
    refine g_isub dX0_turn_62 ?_
    refine g_iload_n dX0_turn_63 rfl rfl ?_
    refine g_aload_n dX0_turn_64 rfl rfl ?_
    refine g_geti fl_RX0_70 hpr1 (by decide) dX0_turn_65 ?_
    refine g_iload_n dX0_turn_68 rfl rfl ?_
    refine g_iadd dX0_turn_69 ?_
    refine g_callv2 (st := []) 0 mw_X0_pass lk_RX0_73 rfl kh_108 (ok_Du_pass (w32 (v5 + v4)) (w32 ((w32 (v5 + 1)) - v4)) a3 (w32 ((σ pr1 16) + a2)) σ) (Nat.le_of_ble_eq_true rfl) rfl rfl (Nat.le_of_ble_eq_true rfl) dX0_turn_70 ?_
    intro r9 s10
    exact g_vret dX0_turn_73
  · exact g_vret dX0_turn_73
def Du_turn (pr1 : Nat) (a2 : Int) (a3 : Int) (σ : Sg) : Rs := (dv 2 (rm32 a2 2) (fun x1 => (nm (w32 ((w32 (a2 + 1)) * 2)) (fun x2 => (Du_turn_L15 pr1 a2 a3 x1 x2 (fun x6 x7 s8 => (Du_turn_J42 pr1 a2 a3 x6 x7 s8)) fu 0 σ)))))
theorem ok_Du_turn (pr1 : Nat) (a2 : Int) (a3 : Int) (hpr1 : Kh[pr1]? = some (.inl 4)) (σ : Sg) : MC l Kh Ph yX0_turn cX0_turn 7 2 2 [.inr (.inr 108), .inr (.inr pr1), .inl a2, .inl a3] σ (Du_turn pr1 a2 a3 σ) := by
  refine mc_of (by decide) (Nat.le_of_ble_eq_true rfl) ?_
  change G l Kh Ph RX0 cX0_turn 7 2 2 0 [some (.inr (.inr 108)), some (.inr (.inr pr1)), some (.inl a2), some (.inl a3), none, none, none] [] σ (Du_turn pr1 a2 a3 σ)
  unfold Du_turn
  refine g_iload_n dX0_turn_0 rfl rfl ?_
  refine g_iconst dX0_turn_1 (by decide) ?_
  refine g_irem dX0_turn_2 ?_
  intro x1
  refine g_istore (lv' := [some (.inr (.inr 108)), some (.inr (.inr pr1)), some (.inl a2), some (.inl a3), some (.inl x1), none, none]) dX0_turn_3 (Nat.le_of_ble_eq_true rfl) rfl ?_
  refine g_iload_n dX0_turn_5 rfl rfl ?_
  refine g_iconst dX0_turn_6 (by decide) ?_
  refine g_iadd dX0_turn_7 ?_
  refine g_iconst dX0_turn_8 (by decide) ?_
  refine g_imul dX0_turn_9 ?_
  refine n_istore (fun x2 => [some (.inr (.inr 108)), some (.inr (.inr pr1)), some (.inl a2), some (.inl a3), some (.inl x1), some (.inl x2), none]) dX0_turn_10 (Nat.le_of_ble_eq_true rfl) (fun _ => rfl) ?_
  intro x2
  refine g_iconst dX0_turn_12 (by decide) ?_
  refine g_istore (lv' := [some (.inr (.inr 108)), some (.inr (.inr pr1)), some (.inl a2), some (.inl a3), some (.inl x1), some (.inl x2), some (.inl 0)]) dX0_turn_13 (Nat.le_of_ble_eq_true rfl) rfl ?_
  refine (ok_Du_turn_L15 pr1 a2 a3 x1 x2 hpr1 _ ?_ fu 0 σ)
  · intro x6 x7 s8
    refine (ok_Du_turn_J42 pr1 a2 a3 x6 x7 hpr1 s8)
end WK
