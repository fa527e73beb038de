section WK
variable {l : Launch}
theorem dX12_isDigit_0 : decode cX12_isDigit 0 = .ok (.iload_n 0, 1) := by decide +kernel
theorem dX12_isDigit_1 : decode cX12_isDigit 1 = .ok (.bipush 48, 2) := by decide +kernel
theorem dX12_isDigit_3 : decode cX12_isDigit 3 = .ok (.if_icmp .lt 13, 3) := by decide +kernel
theorem dX12_isDigit_6 : decode cX12_isDigit 6 = .ok (.iload_n 0, 1) := by decide +kernel
theorem dX12_isDigit_7 : decode cX12_isDigit 7 = .ok (.bipush 57, 2) := by decide +kernel
theorem dX12_isDigit_9 : decode cX12_isDigit 9 = .ok (.if_icmp .gt 7, 3) := by decide +kernel
theorem dX12_isDigit_12 : decode cX12_isDigit 12 = .ok (.iconst 1, 1) := by decide +kernel
theorem dX12_isDigit_13 : decode cX12_isDigit 13 = .ok (.goto 4, 3) := by decide +kernel
theorem dX12_isDigit_16 : decode cX12_isDigit 16 = .ok (.iconst 0, 1) := by decide +kernel
theorem dX12_isDigit_17 : decode cX12_isDigit 17 = .ok (.ireturn, 1) := by decide +kernel
theorem mw_X12_isDigit : MW yX12_isDigit cX12_isDigit 1 3 1 true := ⟨tm 1781 (by decide +kernel) rfl, tm 249 (by decide +kernel) rfl, by decide, by decide, (by rw [if_pos rfl]; exact tm 1780 (by decide +kernel) rfl)⟩
def M_isDigit (a0 : Int) (σ : Sg) : Rs := (if a0 < 48 then (some (0, σ)) else (if 57 < a0 then (some (0, σ)) else (some (1, σ))))
theorem ok_M_isDigit (a0 : Int) (σ : Sg) : MC l Km Pm yX12_isDigit cX12_isDigit 1 3 1 [.inl a0] σ (M_isDigit a0 σ) := by
  refine mc_of (by decide) (Nat.le_of_ble_eq_true rfl) ?_
  change G l Km Pm RX12 cX12_isDigit 1 3 1 0 [some (.inl a0)] [] σ (M_isDigit a0 σ)
  unfold M_isDigit
  refine g_iload_n dX12_isDigit_0 rfl rfl ?_
  refine g_bipush dX12_isDigit_1 (by decide) ?_
  refine g_icmplt (tgt := 16) dX12_isDigit_3 (by decide) ?_ ?_
  · refine g_iconst dX12_isDigit_16 (by decide) ?_
    exact g_zret0 dX12_isDigit_17
  · refine g_iload_n dX12_isDigit_6 rfl rfl ?_
    refine g_bipush dX12_isDigit_7 (by decide) ?_
    refine g_icmpgt (tgt := 16) dX12_isDigit_9 (by decide) ?_ ?_
    · refine g_iconst dX12_isDigit_16 (by decide) ?_
      exact g_zret0 dX12_isDigit_17
    · refine g_iconst dX12_isDigit_12 (by decide) ?_
      refine g_goto (tgt := 17) dX12_isDigit_13 (by decide) ?_
      exact g_zret1 dX12_isDigit_17
theorem dX12_isLetter_0 : decode cX12_isLetter 0 = .ok (.iload_n 0, 1) := by decide +kernel
theorem dX12_isLetter_1 : decode cX12_isLetter 1 = .ok (.bipush 97, 2) := by decide +kernel
theorem dX12_isLetter_3 : decode cX12_isLetter 3 = .ok (.if_icmp .lt 13, 3) := by decide +kernel
theorem dX12_isLetter_6 : decode cX12_isLetter 6 = .ok (.iload_n 0, 1) := by decide +kernel
theorem dX12_isLetter_7 : decode cX12_isLetter 7 = .ok (.bipush 122, 2) := by decide +kernel
theorem dX12_isLetter_9 : decode cX12_isLetter 9 = .ok (.if_icmp .gt 7, 3) := by decide +kernel
theorem dX12_isLetter_12 : decode cX12_isLetter 12 = .ok (.iconst 1, 1) := by decide +kernel
theorem dX12_isLetter_13 : decode cX12_isLetter 13 = .ok (.goto 4, 3) := by decide +kernel
theorem dX12_isLetter_16 : decode cX12_isLetter 16 = .ok (.iconst 0, 1) := by decide +kernel
theorem dX12_isLetter_17 : decode cX12_isLetter 17 = .ok (.ireturn, 1) := by decide +kernel
theorem mw_X12_isLetter : MW yX12_isLetter cX12_isLetter 1 3 1 true := ⟨tm 1776 (by decide +kernel) rfl, tm 249 (by decide +kernel) rfl, by decide, by decide, (by rw [if_pos rfl]; exact tm 1775 (by decide +kernel) rfl)⟩
def M_isLetter (a0 : Int) (σ : Sg) : Rs := (if a0 < 97 then (some (0, σ)) else (if 122 < a0 then (some (0, σ)) else (some (1, σ))))
theorem ok_M_isLetter (a0 : Int) (σ : Sg) : MC l Km Pm yX12_isLetter cX12_isLetter 1 3 1 [.inl a0] σ (M_isLetter a0 σ) := by
  refine mc_of (by decide) (Nat.le_of_ble_eq_true rfl) ?_
  change G l Km Pm RX12 cX12_isLetter 1 3 1 0 [some (.inl a0)] [] σ (M_isLetter a0 σ)
  unfold M_isLetter
  refine g_iload_n dX12_isLetter_0 rfl rfl ?_
  refine g_bipush dX12_isLetter_1 (by decide) ?_
  refine g_icmplt (tgt := 16) dX12_isLetter_3 (by decide) ?_ ?_
  · refine g_iconst dX12_isLetter_16 (by decide) ?_
    exact g_zret0 dX12_isLetter_17
  · refine g_iload_n dX12_isLetter_6 rfl rfl ?_
    refine g_bipush dX12_isLetter_7 (by decide) ?_
    refine g_icmpgt (tgt := 16) dX12_isLetter_9 (by decide) ?_ ?_
    · refine g_iconst dX12_isLetter_16 (by decide) ?_
      exact g_zret0 dX12_isLetter_17
    · refine g_iconst dX12_isLetter_12 (by decide) ?_
      refine g_goto (tgt := 17) dX12_isLetter_13 (by decide) ?_
      exact g_zret1 dX12_isLetter_17
theorem dX12_isSignByte_0 : decode cX12_isSignByte 0 = .ok (.iload_n 1, 1) := by decide +kernel
theorem dX12_isSignByte_1 : decode cX12_isSignByte 1 = .ok (.bipush 59, 2) := by decide +kernel
theorem dX12_isSignByte_3 : decode cX12_isSignByte 3 = .ok (.if_icmp .eq 21, 3) := by decide +kernel
theorem dX12_isSignByte_6 : decode cX12_isSignByte 6 = .ok (.iload_n 1, 1) := by decide +kernel
theorem dX12_isSignByte_7 : decode cX12_isSignByte 7 = .ok (.bipush 60, 2) := by decide +kernel
theorem dX12_isSignByte_9 : decode cX12_isSignByte 9 = .ok (.if_icmp .eq 15, 3) := by decide +kernel
theorem dX12_isSignByte_12 : decode cX12_isSignByte 12 = .ok (.iload_n 1, 1) := by decide +kernel
theorem dX12_isSignByte_13 : decode cX12_isSignByte 13 = .ok (.bipush 62, 2) := by decide +kernel
theorem dX12_isSignByte_15 : decode cX12_isSignByte 15 = .ok (.if_icmp .eq 9, 3) := by decide +kernel
theorem dX12_isSignByte_18 : decode cX12_isSignByte 18 = .ok (.iload_n 1, 1) := by decide +kernel
theorem dX12_isSignByte_19 : decode cX12_isSignByte 19 = .ok (.bipush 61, 2) := by decide +kernel
theorem dX12_isSignByte_21 : decode cX12_isSignByte 21 = .ok (.if_icmp .ne 7, 3) := by decide +kernel
theorem dX12_isSignByte_24 : decode cX12_isSignByte 24 = .ok (.iconst 1, 1) := by decide +kernel
theorem dX12_isSignByte_25 : decode cX12_isSignByte 25 = .ok (.goto 4, 3) := by decide +kernel
theorem dX12_isSignByte_28 : decode cX12_isSignByte 28 = .ok (.iconst 0, 1) := by decide +kernel
theorem dX12_isSignByte_29 : decode cX12_isSignByte 29 = .ok (.ireturn, 1) := by decide +kernel
theorem mw_X12_isSignByte : MW yX12_isSignByte cX12_isSignByte 2 3 1 false := ⟨tm 1785 (by decide +kernel) rfl, tm 249 (by decide +kernel) rfl, by decide, by decide, (by rw [if_neg (by decide)]; exact ⟨tm 1784 (by decide +kernel) rfl, tm 129 (by decide +kernel) rfl⟩)⟩
def M_isSignByte (a1 : Int) (σ : Sg) : Rs := (if a1 = 59 then (some (1, σ)) else (if a1 = 60 then (some (1, σ)) else (if a1 = 62 then (some (1, σ)) else (if a1 = 61 then (some (1, σ)) else (some (0, σ))))))
theorem ok_M_isSignByte (a1 : Int) (σ : Sg) : MC l Km Pm yX12_isSignByte cX12_isSignByte 2 3 1 [.inr (.inr 0), .inl a1] σ (M_isSignByte a1 σ) := by
  refine mc_of (by decide) (Nat.le_of_ble_eq_true rfl) ?_
  change G l Km Pm RX12 cX12_isSignByte 2 3 1 0 [some (.inr (.inr 0)), some (.inl a1)] [] σ (M_isSignByte a1 σ)
  unfold M_isSignByte
  refine g_iload_n dX12_isSignByte_0 rfl rfl ?_
  refine g_bipush dX12_isSignByte_1 (by decide) ?_
  refine g_icmpeq (tgt := 24) dX12_isSignByte_3 (by decide) ?_ ?_
  · refine g_iconst dX12_isSignByte_24 (by decide) ?_
    refine g_goto (tgt := 29) dX12_isSignByte_25 (by decide) ?_
    exact g_zret1 dX12_isSignByte_29
  · refine g_iload_n dX12_isSignByte_6 rfl rfl ?_
    refine g_bipush dX12_isSignByte_7 (by decide) ?_
    refine g_icmpeq (tgt := 24) dX12_isSignByte_9 (by decide) ?_ ?_
    · refine g_iconst dX12_isSignByte_24 (by decide) ?_
      refine g_goto (tgt := 29) dX12_isSignByte_25 (by decide) ?_
      exact g_zret1 dX12_isSignByte_29
    · refine g_iload_n dX12_isSignByte_12 rfl rfl ?_
      refine g_bipush dX12_isSignByte_13 (by decide) ?_
      refine g_icmpeq (tgt := 24) dX12_isSignByte_15 (by decide) ?_ ?_
      · refine g_iconst dX12_isSignByte_24 (by decide) ?_
        refine g_goto (tgt := 29) dX12_isSignByte_25 (by decide) ?_
        exact g_zret1 dX12_isSignByte_29
      · refine g_iload_n dX12_isSignByte_18 rfl rfl ?_
        refine g_bipush dX12_isSignByte_19 (by decide) ?_
        refine g_icmpne (tgt := 28) dX12_isSignByte_21 (by decide) ?_ ?_
        · refine g_iconst dX12_isSignByte_24 (by decide) ?_
          refine g_goto (tgt := 29) dX12_isSignByte_25 (by decide) ?_
          exact g_zret1 dX12_isSignByte_29
        · refine g_iconst dX12_isSignByte_28 (by decide) ?_
          exact g_zret0 dX12_isSignByte_29
theorem dX12_look2_0 : decode cX12_look2 0 = .ok (.iload_n 1, 1) := by decide +kernel
theorem dX12_look2_1 : decode cX12_look2 1 = .ok (.aload_n 0, 1) := by decide +kernel
theorem dX12_look2_2 : decode cX12_look2 2 = .ok (.getfield 110, 3) := by decide +kernel
theorem dX12_look2_5 : decode cX12_look2 5 = .ok (.if_icmp .ge 16, 3) := by decide +kernel
theorem dX12_look2_8 : decode cX12_look2 8 = .ok (.aload_n 0, 1) := by decide +kernel
theorem dX12_look2_9 : decode cX12_look2 9 = .ok (.getfield 24, 3) := by decide +kernel
theorem dX12_look2_12 : decode cX12_look2 12 = .ok (.iload_n 1, 1) := by decide +kernel
theorem dX12_look2_13 : decode cX12_look2 13 = .ok (.baload, 1) := by decide +kernel
theorem dX12_look2_14 : decode cX12_look2 14 = .ok (.sipush 255, 3) := by decide +kernel
theorem dX12_look2_17 : decode cX12_look2 17 = .ok (.iand, 1) := by decide +kernel
theorem dX12_look2_18 : decode cX12_look2 18 = .ok (.goto 4, 3) := by decide +kernel
theorem dX12_look2_21 : decode cX12_look2 21 = .ok (.iconst 0, 1) := by decide +kernel
theorem dX12_look2_22 : decode cX12_look2 22 = .ok (.ireturn, 1) := by decide +kernel
theorem mw_X12_look2 : MW yX12_look2 cX12_look2 2 0 1 false := ⟨tm 1773 (by decide +kernel) rfl, tm 249 (by decide +kernel) rfl, by decide, by decide, (by rw [if_neg (by decide)]; exact ⟨tm 1772 (by decide +kernel) rfl, tm 128 (by decide +kernel) rfl⟩)⟩
theorem fl_RX12_24 : FL RX12 24 10 7 := ⟨_, _, _, _, cw_10, by decide, Or.inr (Or.inr (Or.inr (by decide))), Or.inl (by decide), Or.inl (tm 1575 (by decide +kernel) rfl)⟩
theorem fl_RX12_110 : FL RX12 110 10 9 := ⟨_, _, _, _, cw_10, by decide, Or.inl (by decide), Or.inr (by decide), Or.inl (tm 1577 (by decide +kernel) rfl)⟩
def M_look2 (a1 : Int) (σ : Sg) : Rs := (if a1 < (σ 0 9) then (rd 900 a1 (σ 4 (Int.toNat a1)) (fun x1 => (some ((an32 x1 255), σ)))) else (some (0, σ)))
theorem ok_M_look2 (a1 : Int) (σ : Sg) : MC l Km Pm yX12_look2 cX12_look2 2 0 1 [.inr (.inr 0), .inl a1] σ (M_look2 a1 σ) := by
  refine mc_of (by decide) (Nat.le_of_ble_eq_true rfl) ?_
  change G l Km Pm RX12 cX12_look2 2 0 1 0 [some (.inr (.inr 0)), some (.inl a1)] [] σ (M_look2 a1 σ)
  unfold M_look2
  refine g_iload_n dX12_look2_0 rfl rfl ?_
  refine g_aload_n dX12_look2_1 rfl rfl ?_
  refine g_geti fl_RX12_110 km_0 (by decide) dX12_look2_2 ?_
  refine g_icmpge (tgt := 21) dX12_look2_5 (by decide) ?_ ?_
  · refine g_aload_n dX12_look2_8 rfl rfl ?_
    refine g_getr' (q := 4) fl_RX12_24 km_0 (by decide) rfl dX12_look2_9 ?_
    refine g_iload_n dX12_look2_12 rfl rfl ?_
    refine g_bald km_4 dX12_look2_13 ?_
    intro x1
    refine g_sipush dX12_look2_14 (by decide) ?_
    refine g_iand dX12_look2_17 ?_
    refine g_goto (tgt := 22) dX12_look2_18 (by decide) ?_
    exact g_iret dX12_look2_22
  · refine g_iconst dX12_look2_21 (by decide) ?_
    exact g_iret dX12_look2_22
theorem dX12_advance_0 : decode cX12_advance 0 = .ok (.aload_n 0, 1) := by decide +kernel
theorem dX12_advance_1 : decode cX12_advance 1 = .ok (.aload_n 0, 1) := by decide +kernel
theorem dX12_advance_2 : decode cX12_advance 2 = .ok (.getfield 113, 3) := by decide +kernel
theorem dX12_advance_5 : decode cX12_advance 5 = .ok (.putfield 116, 3) := by decide +kernel
theorem dX12_advance_8 : decode cX12_advance 8 = .ok (.aload_n 0, 1) := by decide +kernel
theorem dX12_advance_9 : decode cX12_advance 9 = .ok (.getfield 116, 3) := by decide +kernel
theorem dX12_advance_12 : decode cX12_advance 12 = .ok (.aload_n 0, 1) := by decide +kernel
theorem dX12_advance_13 : decode cX12_advance 13 = .ok (.getfield 110, 3) := by decide +kernel
theorem dX12_advance_16 : decode cX12_advance 16 = .ok (.if_icmp .ge 42, 3) := by decide +kernel
theorem dX12_advance_19 : decode cX12_advance 19 = .ok (.aload_n 0, 1) := by decide +kernel
theorem dX12_advance_20 : decode cX12_advance 20 = .ok (.aload_n 0, 1) := by decide +kernel
theorem dX12_advance_21 : decode cX12_advance 21 = .ok (.getfield 116, 3) := by decide +kernel
theorem dX12_advance_24 : decode cX12_advance 24 = .ok (.invokevirtual 119, 3) := by decide +kernel
theorem dX12_advance_27 : decode cX12_advance 27 = .ok (.bipush 10, 2) := by decide +kernel
theorem dX12_advance_29 : decode cX12_advance 29 = .ok (.if_icmp .eq 16, 3) := by decide +kernel
theorem dX12_advance_32 : decode cX12_advance 32 = .ok (.aload_n 0, 1) := by decide +kernel
theorem dX12_advance_33 : decode cX12_advance 33 = .ok (.aload_n 0, 1) := by decide +kernel
theorem dX12_advance_34 : decode cX12_advance 34 = .ok (.getfield 116, 3) := by decide +kernel
theorem dX12_advance_37 : decode cX12_advance 37 = .ok (.invokevirtual 119, 3) := by decide +kernel
theorem dX12_advance_40 : decode cX12_advance 40 = .ok (.bipush 32, 2) := by decide +kernel
theorem dX12_advance_42 : decode cX12_advance 42 = .ok (.if_icmp .ne 16, 3) := by decide +kernel
theorem dX12_advance_45 : decode cX12_advance 45 = .ok (.aload_n 0, 1) := by decide +kernel
theorem dX12_advance_46 : decode cX12_advance 46 = .ok (.dup, 1) := by decide +kernel
theorem dX12_advance_47 : decode cX12_advance 47 = .ok (.getfield 116, 3) := by decide +kernel
theorem dX12_advance_50 : decode cX12_advance 50 = .ok (.iconst 1, 1) := by decide +kernel
theorem dX12_advance_51 : decode cX12_advance 51 = .ok (.iadd, 1) := by decide +kernel
theorem dX12_advance_52 : decode cX12_advance 52 = .ok (.putfield 116, 3) := by decide +kernel
theorem dX12_advance_55 : decode cX12_advance 55 = .ok (.goto (-47), 3) := by decide +kernel
theorem dX12_advance_58 : decode cX12_advance 58 = .ok (.aload_n 0, 1) := by decide +kernel
theorem dX12_advance_59 : decode cX12_advance 59 = .ok (.aload_n 0, 1) := by decide +kernel
theorem dX12_advance_60 : decode cX12_advance 60 = .ok (.getfield 116, 3) := by decide +kernel
theorem dX12_advance_63 : decode cX12_advance 63 = .ok (.putfield 113, 3) := by decide +kernel
theorem dX12_advance_66 : decode cX12_advance 66 = .ok (.aload_n 0, 1) := by decide +kernel
theorem dX12_advance_67 : decode cX12_advance 67 = .ok (.getfield 116, 3) := by decide +kernel
theorem dX12_advance_70 : decode cX12_advance 70 = .ok (.aload_n 0, 1) := by decide +kernel
theorem dX12_advance_71 : decode cX12_advance 71 = .ok (.getfield 110, 3) := by decide +kernel
theorem dX12_advance_74 : decode cX12_advance 74 = .ok (.if_icmp .lt 9, 3) := by decide +kernel
theorem dX12_advance_77 : decode cX12_advance 77 = .ok (.aload_n 0, 1) := by decide +kernel
theorem dX12_advance_78 : decode cX12_advance 78 = .ok (.iconst 0, 1) := by decide +kernel
theorem dX12_advance_79 : decode cX12_advance 79 = .ok (.putfield 122, 3) := by decide +kernel
theorem dX12_advance_82 : decode cX12_advance 82 = .ok (.return_, 1) := by decide +kernel
theorem dX12_advance_83 : decode cX12_advance 83 = .ok (.aload_n 0, 1) := by decide +kernel
theorem dX12_advance_84 : decode cX12_advance 84 = .ok (.aload_n 0, 1) := by decide +kernel
theorem dX12_advance_85 : decode cX12_advance 85 = .ok (.getfield 116, 3) := by decide +kernel
theorem dX12_advance_88 : decode cX12_advance 88 = .ok (.invokevirtual 119, 3) := by decide +kernel
theorem dX12_advance_91 : decode cX12_advance 91 = .ok (.istore_n 1, 1) := by decide +kernel
theorem dX12_advance_92 : decode cX12_advance 92 = .ok (.iload_n 1, 1) := by decide +kernel
theorem dX12_advance_93 : decode cX12_advance 93 = .ok (.invokestatic 125, 3) := by decide +kernel
theorem dX12_advance_96 : decode cX12_advance 96 = .ok (.ifCond .eq 102, 3) := by decide +kernel
theorem dX12_advance_99 : decode cX12_advance 99 = .ok (.aload_n 0, 1) := by decide +kernel
theorem dX12_advance_100 : decode cX12_advance 100 = .ok (.iconst 1, 1) := by decide +kernel
theorem dX12_advance_101 : decode cX12_advance 101 = .ok (.putfield 122, 3) := by decide +kernel
theorem dX12_advance_104 : decode cX12_advance 104 = .ok (.aload_n 0, 1) := by decide +kernel
theorem dX12_advance_105 : decode cX12_advance 105 = .ok (.lconst 0, 1) := by decide +kernel
theorem dX12_advance_106 : decode cX12_advance 106 = .ok (.putfield 128, 3) := by decide +kernel
theorem dX12_advance_109 : decode cX12_advance 109 = .ok (.aload_n 0, 1) := by decide +kernel
theorem dX12_advance_110 : decode cX12_advance 110 = .ok (.aload_n 0, 1) := by decide +kernel
theorem dX12_advance_111 : decode cX12_advance 111 = .ok (.getfield 113, 3) := by decide +kernel
theorem dX12_advance_114 : decode cX12_advance 114 = .ok (.invokevirtual 119, 3) := by decide +kernel
theorem dX12_advance_117 : decode cX12_advance 117 = .ok (.invokestatic 125, 3) := by decide +kernel
theorem dX12_advance_120 : decode cX12_advance 120 = .ok (.ifCond .eq 62, 3) := by decide +kernel
theorem dX12_advance_123 : decode cX12_advance 123 = .ok (.aload_n 0, 1) := by decide +kernel
theorem dX12_advance_124 : decode cX12_advance 124 = .ok (.aload_n 0, 1) := by decide +kernel
theorem dX12_advance_125 : decode cX12_advance 125 = .ok (.getfield 113, 3) := by decide +kernel
theorem dX12_advance_128 : decode cX12_advance 128 = .ok (.aload_n 0, 1) := by decide +kernel
theorem dX12_advance_129 : decode cX12_advance 129 = .ok (.getfield 116, 3) := by decide +kernel
theorem dX12_advance_132 : decode cX12_advance 132 = .ok (.isub, 1) := by decide +kernel
theorem dX12_advance_133 : decode cX12_advance 133 = .ok (.bipush 8, 2) := by decide +kernel
theorem dX12_advance_135 : decode cX12_advance 135 = .ok (.if_icmp .ge 28, 3) := by decide +kernel
theorem dX12_advance_138 : decode cX12_advance 138 = .ok (.aload_n 0, 1) := by decide +kernel
theorem dX12_advance_139 : decode cX12_advance 139 = .ok (.getfield 128, 3) := by decide +kernel
theorem dX12_advance_142 : decode cX12_advance 142 = .ok (.ldc2_w 131, 3) := by decide +kernel
theorem dX12_advance_145 : decode cX12_advance 145 = .ok (.lmul, 1) := by decide +kernel
theorem dX12_advance_146 : decode cX12_advance 146 = .ok (.aload_n 0, 1) := by decide +kernel
theorem dX12_advance_147 : decode cX12_advance 147 = .ok (.aload_n 0, 1) := by decide +kernel
theorem dX12_advance_148 : decode cX12_advance 148 = .ok (.getfield 113, 3) := by decide +kernel
theorem dX12_advance_151 : decode cX12_advance 151 = .ok (.invokevirtual 119, 3) := by decide +kernel
theorem dX12_advance_154 : decode cX12_advance 154 = .ok (.i2l, 1) := by decide +kernel
theorem dX12_advance_155 : decode cX12_advance 155 = .ok (.ladd, 1) := by decide +kernel
theorem dX12_advance_156 : decode cX12_advance 156 = .ok (.ldc2_w 133, 3) := by decide +kernel
theorem dX12_advance_159 : decode cX12_advance 159 = .ok (.lsub, 1) := by decide +kernel
theorem dX12_advance_160 : decode cX12_advance 160 = .ok (.goto 6, 3) := by decide +kernel
theorem dX12_advance_163 : decode cX12_advance 163 = .ok (.ldc2_w 98, 3) := by decide +kernel
theorem dX12_advance_166 : decode cX12_advance 166 = .ok (.putfield 128, 3) := by decide +kernel
theorem dX12_advance_169 : decode cX12_advance 169 = .ok (.aload_n 0, 1) := by decide +kernel
theorem dX12_advance_170 : decode cX12_advance 170 = .ok (.dup, 1) := by decide +kernel
theorem dX12_advance_171 : decode cX12_advance 171 = .ok (.getfield 113, 3) := by decide +kernel
theorem dX12_advance_174 : decode cX12_advance 174 = .ok (.iconst 1, 1) := by decide +kernel
theorem dX12_advance_175 : decode cX12_advance 175 = .ok (.iadd, 1) := by decide +kernel
theorem dX12_advance_176 : decode cX12_advance 176 = .ok (.putfield 113, 3) := by decide +kernel
theorem dX12_advance_179 : decode cX12_advance 179 = .ok (.goto (-70), 3) := by decide +kernel
theorem dX12_advance_182 : decode cX12_advance 182 = .ok (.aload_n 0, 1) := by decide +kernel
theorem dX12_advance_183 : decode cX12_advance 183 = .ok (.aload_n 0, 1) := by decide +kernel
theorem dX12_advance_184 : decode cX12_advance 184 = .ok (.getfield 113, 3) := by decide +kernel
theorem dX12_advance_187 : decode cX12_advance 187 = .ok (.aload_n 0, 1) := by decide +kernel
theorem dX12_advance_188 : decode cX12_advance 188 = .ok (.getfield 116, 3) := by decide +kernel
theorem dX12_advance_191 : decode cX12_advance 191 = .ok (.isub, 1) := by decide +kernel
theorem dX12_advance_192 : decode cX12_advance 192 = .ok (.putfield 135, 3) := by decide +kernel
theorem dX12_advance_195 : decode cX12_advance 195 = .ok (.goto 135, 3) := by decide +kernel
theorem dX12_advance_198 : decode cX12_advance 198 = .ok (.iload_n 1, 1) := by decide +kernel
theorem dX12_advance_199 : decode cX12_advance 199 = .ok (.invokestatic 138, 3) := by decide +kernel
theorem dX12_advance_202 : decode cX12_advance 202 = .ok (.ifCond .eq 96, 3) := by decide +kernel
theorem dX12_advance_205 : decode cX12_advance 205 = .ok (.aload_n 0, 1) := by decide +kernel
theorem dX12_advance_206 : decode cX12_advance 206 = .ok (.iconst 0, 1) := by decide +kernel
theorem dX12_advance_207 : decode cX12_advance 207 = .ok (.putfield 141, 3) := by decide +kernel
theorem dX12_advance_210 : decode cX12_advance 210 = .ok (.aload_n 0, 1) := by decide +kernel
theorem dX12_advance_211 : decode cX12_advance 211 = .ok (.aload_n 0, 1) := by decide +kernel
theorem dX12_advance_212 : decode cX12_advance 212 = .ok (.getfield 113, 3) := by decide +kernel
theorem dX12_advance_215 : decode cX12_advance 215 = .ok (.invokevirtual 119, 3) := by decide +kernel
theorem dX12_advance_218 : decode cX12_advance 218 = .ok (.invokestatic 138, 3) := by decide +kernel
theorem dX12_advance_221 : decode cX12_advance 221 = .ok (.ifCond .eq 52, 3) := by decide +kernel
theorem dX12_advance_224 : decode cX12_advance 224 = .ok (.aload_n 0, 1) := by decide +kernel
theorem dX12_advance_225 : decode cX12_advance 225 = .ok (.getfield 113, 3) := by decide +kernel
theorem dX12_advance_228 : decode cX12_advance 228 = .ok (.aload_n 0, 1) := by decide +kernel
theorem dX12_advance_229 : decode cX12_advance 229 = .ok (.getfield 116, 3) := by decide +kernel
theorem dX12_advance_232 : decode cX12_advance 232 = .ok (.isub, 1) := by decide +kernel
theorem dX12_advance_233 : decode cX12_advance 233 = .ok (.iconst 4, 1) := by decide +kernel
theorem dX12_advance_234 : decode cX12_advance 234 = .ok (.if_icmp .ge 26, 3) := by decide +kernel
theorem dX12_advance_237 : decode cX12_advance 237 = .ok (.aload_n 0, 1) := by decide +kernel
theorem dX12_advance_238 : decode cX12_advance 238 = .ok (.bipush 10, 2) := by decide +kernel
theorem dX12_advance_240 : decode cX12_advance 240 = .ok (.aload_n 0, 1) := by decide +kernel
theorem dX12_advance_241 : decode cX12_advance 241 = .ok (.getfield 141, 3) := by decide +kernel
theorem dX12_advance_244 : decode cX12_advance 244 = .ok (.imul, 1) := by decide +kernel
theorem dX12_advance_245 : decode cX12_advance 245 = .ok (.aload_n 0, 1) := by decide +kernel
theorem dX12_advance_246 : decode cX12_advance 246 = .ok (.aload_n 0, 1) := by decide +kernel
theorem dX12_advance_247 : decode cX12_advance 247 = .ok (.getfield 113, 3) := by decide +kernel
theorem dX12_advance_250 : decode cX12_advance 250 = .ok (.invokevirtual 119, 3) := by decide +kernel
theorem dX12_advance_253 : decode cX12_advance 253 = .ok (.iadd, 1) := by decide +kernel
theorem dX12_advance_254 : decode cX12_advance 254 = .ok (.bipush 48, 2) := by decide +kernel
theorem dX12_advance_256 : decode cX12_advance 256 = .ok (.isub, 1) := by decide +kernel
theorem dX12_advance_257 : decode cX12_advance 257 = .ok (.putfield 141, 3) := by decide +kernel
theorem dX12_advance_260 : decode cX12_advance 260 = .ok (.aload_n 0, 1) := by decide +kernel
theorem dX12_advance_261 : decode cX12_advance 261 = .ok (.dup, 1) := by decide +kernel
theorem dX12_advance_262 : decode cX12_advance 262 = .ok (.getfield 113, 3) := by decide +kernel
theorem dX12_advance_265 : decode cX12_advance 265 = .ok (.iconst 1, 1) := by decide +kernel
theorem dX12_advance_266 : decode cX12_advance 266 = .ok (.iadd, 1) := by decide +kernel
theorem dX12_advance_267 : decode cX12_advance 267 = .ok (.putfield 113, 3) := by decide +kernel
theorem dX12_advance_270 : decode cX12_advance 270 = .ok (.goto (-60), 3) := by decide +kernel
theorem dX12_advance_273 : decode cX12_advance 273 = .ok (.aload_n 0, 1) := by decide +kernel
theorem dX12_advance_274 : decode cX12_advance 274 = .ok (.aload_n 0, 1) := by decide +kernel
theorem dX12_advance_275 : decode cX12_advance 275 = .ok (.getfield 113, 3) := by decide +kernel
theorem dX12_advance_278 : decode cX12_advance 278 = .ok (.aload_n 0, 1) := by decide +kernel
theorem dX12_advance_279 : decode cX12_advance 279 = .ok (.getfield 116, 3) := by decide +kernel
theorem dX12_advance_282 : decode cX12_advance 282 = .ok (.isub, 1) := by decide +kernel
theorem dX12_advance_283 : decode cX12_advance 283 = .ok (.iconst 4, 1) := by decide +kernel
theorem dX12_advance_284 : decode cX12_advance 284 = .ok (.if_icmp .le 7, 3) := by decide +kernel
theorem dX12_advance_287 : decode cX12_advance 287 = .ok (.iconst 4, 1) := by decide +kernel
theorem dX12_advance_288 : decode cX12_advance 288 = .ok (.goto 4, 3) := by decide +kernel
theorem dX12_advance_291 : decode cX12_advance 291 = .ok (.iconst 2, 1) := by decide +kernel
theorem dX12_advance_292 : decode cX12_advance 292 = .ok (.putfield 122, 3) := by decide +kernel
theorem dX12_advance_295 : decode cX12_advance 295 = .ok (.goto 35, 3) := by decide +kernel
theorem dX12_advance_298 : decode cX12_advance 298 = .ok (.aload_n 0, 1) := by decide +kernel
theorem dX12_advance_299 : decode cX12_advance 299 = .ok (.aload_n 0, 1) := by decide +kernel
theorem dX12_advance_300 : decode cX12_advance 300 = .ok (.getfield 116, 3) := by decide +kernel
theorem dX12_advance_303 : decode cX12_advance 303 = .ok (.iconst 1, 1) := by decide +kernel
theorem dX12_advance_304 : decode cX12_advance 304 = .ok (.iadd, 1) := by decide +kernel
theorem dX12_advance_305 : decode cX12_advance 305 = .ok (.putfield 113, 3) := by decide +kernel
theorem dX12_advance_308 : decode cX12_advance 308 = .ok (.aload_n 0, 1) := by decide +kernel
theorem dX12_advance_309 : decode cX12_advance 309 = .ok (.iload_n 1, 1) := by decide +kernel
theorem dX12_advance_310 : decode cX12_advance 310 = .ok (.putfield 141, 3) := by decide +kernel
theorem dX12_advance_313 : decode cX12_advance 313 = .ok (.aload_n 0, 1) := by decide +kernel
theorem dX12_advance_314 : decode cX12_advance 314 = .ok (.aload_n 0, 1) := by decide +kernel
theorem dX12_advance_315 : decode cX12_advance 315 = .ok (.iload_n 1, 1) := by decide +kernel
theorem dX12_advance_316 : decode cX12_advance 316 = .ok (.invokevirtual 144, 3) := by decide +kernel
theorem dX12_advance_319 : decode cX12_advance 319 = .ok (.ifCond .eq 7, 3) := by decide +kernel
theorem dX12_advance_322 : decode cX12_advance 322 = .ok (.iconst 3, 1) := by decide +kernel
theorem dX12_advance_323 : decode cX12_advance 323 = .ok (.goto 4, 3) := by decide +kernel
theorem dX12_advance_326 : decode cX12_advance 326 = .ok (.iconst 4, 1) := by decide +kernel
theorem dX12_advance_327 : decode cX12_advance 327 = .ok (.putfield 122, 3) := by decide +kernel
theorem dX12_advance_330 : decode cX12_advance 330 = .ok (.return_, 1) := by decide +kernel
theorem mw_X12_advance : MW yX12_advance cX12_advance 2 2 0 false := ⟨tm 1769 (by decide +kernel) rfl, tm 249 (by decide +kernel) rfl, by decide, by decide, (by rw [if_neg (by decide)]; exact ⟨tm 1768 (by decide +kernel) rfl, tm 127 (by decide +kernel) rfl⟩)⟩
theorem lk_RX12_119 : LK RX12 119 yX12_look2 := Or.inl (tm 1770 (by decide +kernel) rfl)
theorem lk_RX12_125 : LK RX12 125 yX12_isLetter := Or.inl (tm 1774 (by decide +kernel) rfl)
theorem lk_RX12_138 : LK RX12 138 yX12_isDigit := Or.inl (tm 1779 (by decide +kernel) rfl)
theorem lk_RX12_144 : LK RX12 144 yX12_isSignByte := Or.inl (tm 1782 (by decide +kernel) rfl)
theorem fl_RX12_113 : FL RX12 113 10 16 := ⟨_, _, _, _, cw_10, by decide, Or.inl (by decide), Or.inr (by decide), Or.inl (tm 1584 (by decide +kernel) rfl)⟩
theorem fl_RX12_116 : FL RX12 116 10 15 := ⟨_, _, _, _, cw_10, by decide, Or.inl (by decide), Or.inr (by decide), Or.inl (tm 1583 (by decide +kernel) rfl)⟩
theorem fl_RX12_122 : FL RX12 122 10 14 := ⟨_, _, _, _, cw_10, by decide, Or.inl (by decide), Or.inr (by decide), Or.inl (tm 1582 (by decide +kernel) rfl)⟩
theorem fl_RX12_128 : FL RX12 128 10 19 := ⟨_, _, _, _, cw_10, by decide, Or.inr (Or.inl (by decide)), Or.inr (by decide), Or.inl (tm 1587 (by decide +kernel) rfl)⟩
theorem fl_RX12_135 : FL RX12 135 10 18 := ⟨_, _, _, _, cw_10, by decide, Or.inl (by decide), Or.inr (by decide), Or.inl (tm 1586 (by decide +kernel) rfl)⟩
theorem fl_RX12_141 : FL RX12 141 10 17 := ⟨_, _, _, _, cw_10, by decide, Or.inl (by decide), Or.inr (by decide), Or.inl (tm 1585 (by decide +kernel) rfl)⟩
def M_advance_L8 (k58 : Sg → Rs) : Nat → Sg → Rs
  | 0, _ => none
  | n + 1, σ => (if (σ 0 15) < (σ 0 9) then (bd (M_look2 (σ 0 15) σ) (fun r2 s3 => (if r2 = 10 then (nm (up_s s3 0 15 (w32 ((s3 0 15) + 1))) (fun s4 => (M_advance_L8 k58 n s4))) else (bd (M_look2 (s3 0 15) s3) (fun r5 s6 => (if r5 = 32 then (nm (up_s s6 0 15 (w32 ((s6 0 15) + 1))) (fun s7 => (M_advance_L8 k58 n s7))) else (k58 s6))))))) else (k58 σ))
theorem ok_M_advance_L8 (k58 : Sg → Rs) (hk58 : ∀ (σ : Sg), G l Km Pm RX12 cX12_advance 2 2 2 58 [some (.inr (.inr 0)), none] [] σ (k58 σ)) : ∀ (n : Nat) (σ : Sg), G l Km Pm RX12 cX12_advance 2 2 2 8 [some (.inr (.inr 0)), none] [] σ (M_advance_L8 k58 n  σ) := by
  intro n
  induction n with
  | zero => intros; exact G.none_
  | succ n ih =>
    intro σ
    rw [M_advance_L8]
    refine g_aload_n dX12_advance_8 rfl rfl ?_
    refine g_geti fl_RX12_116 km_0 (by decide) dX12_advance_9 ?_
    refine g_aload_n dX12_advance_12 rfl rfl ?_
    refine g_geti fl_RX12_110 km_0 (by decide) dX12_advance_13 ?_
    refine g_icmpge (tgt := 58) dX12_advance_16 (by decide) ?_ ?_
    · refine g_aload_n dX12_advance_19 rfl rfl ?_
      refine g_aload_n dX12_advance_20 rfl rfl ?_
      refine g_geti fl_RX12_116 km_0 (by decide) dX12_advance_21 ?_
      refine g_callv0 (st := []) 10 mw_X12_look2 lk_RX12_119 rfl km_0 (ok_M_look2 (σ 0 15) σ) (Nat.le_of_ble_eq_true rfl) rfl rfl (Nat.le_of_ble_eq_true rfl) dX12_advance_24 ?_
      intro r2 s3
      refine g_bipush dX12_advance_27 (by decide) ?_
      refine g_icmpeq (tgt := 45) dX12_advance_29 (by decide) ?_ ?_
      · refine g_aload_n dX12_advance_45 rfl rfl ?_
        refine g_dup dX12_advance_46 rfl ?_
        refine g_geti fl_RX12_116 km_0 (by decide) dX12_advance_47 ?_
        refine g_iconst dX12_advance_50 (by decide) ?_
        refine g_iadd dX12_advance_51 ?_
        refine g_puti fl_RX12_116 km_0 (by decide) dX12_advance_52 ?_
        intro s4
        refine g_goto (tgt := 8) dX12_advance_55 (by decide) ?_
        exact (ih s4)
      · refine g_aload_n dX12_advance_32 rfl rfl ?_
        refine g_aload_n dX12_advance_33 rfl rfl ?_
        refine g_geti fl_RX12_116 km_0 (by decide) dX12_advance_34 ?_
        refine g_callv0 (st := []) 10 mw_X12_look2 lk_RX12_119 rfl km_0 (ok_M_look2 (s3 0 15) s3) (Nat.le_of_ble_eq_true rfl) rfl rfl (Nat.le_of_ble_eq_true rfl) dX12_advance_37 ?_
        intro r5 s6
        refine g_bipush dX12_advance_40 (by decide) ?_
        refine g_icmpne (tgt := 58) dX12_advance_42 (by decide) ?_ ?_
        · refine g_aload_n dX12_advance_45 rfl rfl ?_
          refine g_dup dX12_advance_46 rfl ?_
          refine g_geti fl_RX12_116 km_0 (by decide) dX12_advance_47 ?_
          refine g_iconst dX12_advance_50 (by decide) ?_
          refine g_iadd dX12_advance_51 ?_
          refine g_puti fl_RX12_116 km_0 (by decide) dX12_advance_52 ?_
          intro s7
          refine g_goto (tgt := 8) dX12_advance_55 (by decide) ?_
          exact (ih s7)
        · exact (hk58 s6)
    · exact (hk58 σ)
def M_advance_L210 (k273 : Sg → Rs) : Nat → Sg → Rs
  | 0, _ => none
  | n + 1, σ => (bd (M_look2 (σ 0 16) σ) (fun r23 s24 => (bd (M_isDigit r23 s24) (fun r25 s26 => (if r25 = 0 then (k273 s26) else (if (w32 ((s26 0 16) - (s26 0 15))) < 4 then (bd (M_look2 (s26 0 16) s26) (fun r27 s28 => (nm (up_s s28 0 17 (w32 ((w32 ((w32 (10 * (s26 0 17))) + r27)) - 48))) (fun s29 => (nm (up_s s29 0 16 (w32 ((s29 0 16) + 1))) (fun s30 => (M_advance_L210 k273 n s30))))))) else (nm (up_s s26 0 16 (w32 ((s26 0 16) + 1))) (fun s31 => (M_advance_L210 k273 n s31)))))))))
theorem ok_M_advance_L210 (k273 : Sg → Rs) (hk273 : ∀ (σ : Sg), G l Km Pm RX12 cX12_advance 2 2 2 273 [some (.inr (.inr 0)), none] [] σ (k273 σ)) : ∀ (n : Nat) (σ : Sg), G l Km Pm RX12 cX12_advance 2 2 2 210 [some (.inr (.inr 0)), none] [] σ (M_advance_L210 k273 n  σ) := by
  intro n
  induction n with
  | zero => intros; exact G.none_
  | succ n ih =>
    intro σ
    rw [M_advance_L210]
    refine g_aload_n dX12_advance_210 rfl rfl ?_
    refine g_aload_n dX12_advance_211 rfl rfl ?_
    refine g_geti fl_RX12_113 km_0 (by decide) dX12_advance_212 ?_
    refine g_callv0 (st := []) 10 mw_X12_look2 lk_RX12_119 rfl km_0 (ok_M_look2 (σ 0 16) σ) (Nat.le_of_ble_eq_true rfl) rfl rfl (Nat.le_of_ble_eq_true rfl) dX12_advance_215 ?_
    intro r23 s24
    refine g_calls3 (st := []) mw_X12_isDigit lk_RX12_138 (ok_M_isDigit r23 s24) (Nat.le_of_ble_eq_true rfl) rfl rfl (Nat.le_of_ble_eq_true rfl) dX12_advance_218 ?_
    intro r25 s26
    refine g_ifeq (tgt := 273) dX12_advance_221 (by decide) ?_ ?_
    · exact (hk273 s26)
    · refine g_aload_n dX12_advance_224 rfl rfl ?_
      refine g_geti fl_RX12_113 km_0 (by decide) dX12_advance_225 ?_
      refine g_aload_n dX12_advance_228 rfl rfl ?_
      refine g_geti fl_RX12_116 km_0 (by decide) dX12_advance_229 ?_
      refine g_isub dX12_advance_232 ?_
      refine g_iconst dX12_advance_233 (by decide) ?_
      refine g_icmpge (tgt := 260) dX12_advance_234 (by decide) ?_ ?_
      · refine g_aload_n dX12_advance_237 rfl rfl ?_
        refine g_bipush dX12_advance_238 (by decide) ?_
        refine g_aload_n dX12_advance_240 rfl rfl ?_
        refine g_geti fl_RX12_141 km_0 (by decide) dX12_advance_241 ?_
        refine g_imul dX12_advance_244 ?_
        refine g_aload_n dX12_advance_245 rfl rfl ?_
        refine g_aload_n dX12_advance_246 rfl rfl ?_
        refine g_geti fl_RX12_113 km_0 (by decide) dX12_advance_247 ?_
        refine g_callv0 (st := [.inl (w32 (10 * (s26 0 17))), .inr (.inr 0)]) 10 mw_X12_look2 lk_RX12_119 rfl km_0 (ok_M_look2 (s26 0 16) s26) (Nat.le_of_ble_eq_true rfl) rfl rfl (Nat.le_of_ble_eq_true rfl) dX12_advance_250 ?_
        intro r27 s28
        refine g_iadd dX12_advance_253 ?_
        refine g_bipush dX12_advance_254 (by decide) ?_
        refine g_isub dX12_advance_256 ?_
        refine g_puti fl_RX12_141 km_0 (by decide) dX12_advance_257 ?_
        intro s29
        refine g_aload_n dX12_advance_260 rfl rfl ?_
        refine g_dup dX12_advance_261 rfl ?_
        refine g_geti fl_RX12_113 km_0 (by decide) dX12_advance_262 ?_
        refine g_iconst dX12_advance_265 (by decide) ?_
        refine g_iadd dX12_advance_266 ?_
        refine g_puti fl_RX12_113 km_0 (by decide) dX12_advance_267 ?_
        intro s30
        refine g_goto (tgt := 210) dX12_advance_270 (by decide) ?_
        exact (ih s30)
      · refine g_aload_n dX12_advance_260 rfl rfl ?_
        refine g_dup dX12_advance_261 rfl ?_
        refine g_geti fl_RX12_113 km_0 (by decide) dX12_advance_262 ?_
        refine g_iconst dX12_advance_265 (by decide) ?_
        refine g_iadd dX12_advance_266 ?_
        refine g_puti fl_RX12_113 km_0 (by decide) dX12_advance_267 ?_
        intro s31
        refine g_goto (tgt := 210) dX12_advance_270 (by decide) ?_
        exact (ih s31)
def M_advance_J273  (σ : Sg) : Rs := (if 4 < (w32 ((σ 0 16) - (σ 0 15))) then (nm (up_s σ 0 14 4) (fun s33 => (some (0, s33)))) else (nm (up_s σ 0 14 2) (fun s34 => (some (0, s34)))))
theorem ok_M_advance_J273 : ∀ (σ : Sg), G l Km Pm RX12 cX12_advance 2 2 2 273 [some (.inr (.inr 0)), none] [] σ (M_advance_J273   σ) := by
  intro σ
  unfold M_advance_J273
  refine g_aload_n dX12_advance_273 rfl rfl ?_
  refine g_aload_n dX12_advance_274 rfl rfl ?_
  refine g_geti fl_RX12_113 km_0 (by decide) dX12_advance_275 ?_
  refine g_aload_n dX12_advance_278 rfl rfl ?_
  refine g_geti fl_RX12_116 km_0 (by decide) dX12_advance_279 ?_
  refine g_isub dX12_advance_282 ?_
  refine g_iconst dX12_advance_283 (by decide) ?_
  refine g_icmple (tgt := 291) dX12_advance_284 (by decide) ?_ ?_
  · refine g_iconst dX12_advance_287 (by decide) ?_
    refine g_goto (tgt := 292) dX12_advance_288 (by decide) ?_
    refine g_puti fl_RX12_122 km_0 (by decide) dX12_advance_292 ?_
    intro s33
    refine g_goto (tgt := 330) dX12_advance_295 (by decide) ?_
    exact g_vret dX12_advance_330
  · refine g_iconst dX12_advance_291 (by decide) ?_
    refine g_puti fl_RX12_122 km_0 (by decide) dX12_advance_292 ?_
    intro s34
    refine g_goto (tgt := 330) dX12_advance_295 (by decide) ?_
    exact g_vret dX12_advance_330
def M_advance_L109  : Nat → Sg → Rs
  | 0, _ => none
  | n + 1, σ => (bd (M_look2 (σ 0 16) σ) (fun r37 s38 => (bd (M_isLetter r37 s38) (fun r39 s40 => (if r39 = 0 then (nm (up_s s40 0 18 (w32 ((s40 0 16) - (s40 0 15)))) (fun s41 => (some (0, s41)))) else (if (w32 ((s40 0 16) - (s40 0 15))) < 8 then (bd (M_look2 (s40 0 16) s40) (fun r42 s43 => (nm (up_s s43 0 19 (w64 ((w64 ((w64 ((s40 0 19) * 32)) + r42)) - 96))) (fun s44 => (nm (up_s s44 0 16 (w32 ((s44 0 16) + 1))) (fun s45 => (M_advance_L109 n s45))))))) else (nm (up_s s40 0 19 (-1)) (fun s46 => (nm (up_s s46 0 16 (w32 ((s46 0 16) + 1))) (fun s47 => (M_advance_L109 n s47)))))))))))
theorem ok_M_advance_L109 : ∀ (n : Nat) (σ : Sg), G l Km Pm RX12 cX12_advance 2 2 2 109 [some (.inr (.inr 0)), none] [] σ (M_advance_L109  n  σ) := by
  intro n
  induction n with
  | zero => intros; exact G.none_
  | succ n ih =>
    intro σ
    rw [M_advance_L109]
    refine g_aload_n dX12_advance_109 rfl rfl ?_
    refine g_aload_n dX12_advance_110 rfl rfl ?_
    refine g_geti fl_RX12_113 km_0 (by decide) dX12_advance_111 ?_
    refine g_callv0 (st := []) 10 mw_X12_look2 lk_RX12_119 rfl km_0 (ok_M_look2 (σ 0 16) σ) (Nat.le_of_ble_eq_true rfl) rfl rfl (Nat.le_of_ble_eq_true rfl) dX12_advance_114 ?_
    intro r37 s38
    refine g_calls3 (st := []) mw_X12_isLetter lk_RX12_125 (ok_M_isLetter r37 s38) (Nat.le_of_ble_eq_true rfl) rfl rfl (Nat.le_of_ble_eq_true rfl) dX12_advance_117 ?_
    intro r39 s40
    refine g_ifeq (tgt := 182) dX12_advance_120 (by decide) ?_ ?_
    · refine g_aload_n dX12_advance_182 rfl rfl ?_
      refine g_aload_n dX12_advance_183 rfl rfl ?_
      refine g_geti fl_RX12_113 km_0 (by decide) dX12_advance_184 ?_
      refine g_aload_n dX12_advance_187 rfl rfl ?_
      refine g_geti fl_RX12_116 km_0 (by decide) dX12_advance_188 ?_
      refine g_isub dX12_advance_191 ?_
      refine g_puti fl_RX12_135 km_0 (by decide) dX12_advance_192 ?_
      intro s41
      refine g_goto (tgt := 330) dX12_advance_195 (by decide) ?_
      exact g_vret dX12_advance_330
    · refine g_aload_n dX12_advance_123 rfl rfl ?_
      refine g_aload_n dX12_advance_124 rfl rfl ?_
      refine g_geti fl_RX12_113 km_0 (by decide) dX12_advance_125 ?_
      refine g_aload_n dX12_advance_128 rfl rfl ?_
      refine g_geti fl_RX12_116 km_0 (by decide) dX12_advance_129 ?_
      refine g_isub dX12_advance_132 ?_
      refine g_bipush dX12_advance_133 (by decide) ?_
      refine g_icmpge (tgt := 163) dX12_advance_135 (by decide) ?_ ?_
      · refine g_aload_n dX12_advance_138 rfl rfl ?_
        refine g_getl fl_RX12_128 km_0 (by decide) dX12_advance_139 ?_
        refine g_ldc2 (n := 32) (tm 1777 (by decide +kernel) rfl) (by decide) dX12_advance_142 ?_
        refine g_lmul dX12_advance_145 ?_
        refine g_aload_n dX12_advance_146 rfl rfl ?_
        refine g_aload_n dX12_advance_147 rfl rfl ?_
        refine g_geti fl_RX12_113 km_0 (by decide) dX12_advance_148 ?_
        refine g_callv0 (st := [.inr (.inl (w64 ((s40 0 19) * 32))), .inr (.inr 0)]) 10 mw_X12_look2 lk_RX12_119 rfl km_0 (ok_M_look2 (s40 0 16) s40) (Nat.le_of_ble_eq_true rfl) rfl rfl (Nat.le_of_ble_eq_true rfl) dX12_advance_151 ?_
        intro r42 s43
        refine g_i2l dX12_advance_154 ?_
        refine g_ladd dX12_advance_155 ?_
        refine g_ldc2 (n := 96) (tm 1778 (by decide +kernel) rfl) (by decide) dX12_advance_156 ?_
        refine g_lsub dX12_advance_159 ?_
        refine g_goto (tgt := 166) dX12_advance_160 (by decide) ?_
        refine g_putl fl_RX12_128 km_0 (by decide) dX12_advance_166 ?_
        intro s44
        refine g_aload_n dX12_advance_169 rfl rfl ?_
        refine g_dup dX12_advance_170 rfl ?_
        refine g_geti fl_RX12_113 km_0 (by decide) dX12_advance_171 ?_
        refine g_iconst dX12_advance_174 (by decide) ?_
        refine g_iadd dX12_advance_175 ?_
        refine g_puti fl_RX12_113 km_0 (by decide) dX12_advance_176 ?_
        intro s45
        refine g_goto (tgt := 109) dX12_advance_179 (by decide) ?_
        exact (ih s45)
      · refine g_ldc2 (n := (-1)) (tm 1741 (by decide +kernel) rfl) (by decide) dX12_advance_163 ?_
        refine g_putl fl_RX12_128 km_0 (by decide) dX12_advance_166 ?_
        intro s46
        refine g_aload_n dX12_advance_169 rfl rfl ?_
        refine g_dup dX12_advance_170 rfl ?_
        refine g_geti fl_RX12_113 km_0 (by decide) dX12_advance_171 ?_
        refine g_iconst dX12_advance_174 (by decide) ?_
        refine g_iadd dX12_advance_175 ?_
        refine g_puti fl_RX12_113 km_0 (by decide) dX12_advance_176 ?_
        intro s47
        refine g_goto (tgt := 109) dX12_advance_179 (by decide) ?_
        exact (ih s47)
def M_advance_J58  (σ : Sg) : Rs := (nm (up_s σ 0 16 (σ 0 15)) (fun s9 => (if (s9 0 15) < (s9 0 9) then (bd (M_look2 (s9 0 15) s9) (fun r10 s11 => (bd (M_isLetter r10 s11) (fun r12 s13 => (if r12 = 0 then (bd (M_isDigit r10 s13) (fun r14 s15 => (if r14 = 0 then (nm (up_s s15 0 16 (w32 ((s15 0 15) + 1))) (fun s16 => (nm (up_s s16 0 17 r10) (fun s17 => (bd (M_isSignByte r10 s17) (fun r18 s19 => (if r18 = 0 then (nm (up_s s19 0 14 4) (fun s20 => (some (0, s20)))) else (nm (up_s s19 0 14 3) (fun s21 => (some (0, s21))))))))))) else (nm (up_s s15 0 17 0) (fun s22 => (M_advance_L210 (fun s32 => (M_advance_J273 s32)) fu s22)))))) else (nm (up_s s13 0 14 1) (fun s35 => (nm (up_s s35 0 19 0) (fun s36 => (M_advance_L109 fu s36)))))))))) else (nm (up_s s9 0 14 0) (fun s48 => (some (0, s48)))))))
theorem ok_M_advance_J58 : ∀ (σ : Sg), G l Km Pm RX12 cX12_advance 2 2 2 58 [some (.inr (.inr 0)), none] [] σ (M_advance_J58   σ) := by
  intro σ
  unfold M_advance_J58
  refine g_aload_n dX12_advance_58 rfl rfl ?_
  refine g_aload_n dX12_advance_59 rfl rfl ?_
  refine g_geti fl_RX12_116 km_0 (by decide) dX12_advance_60 ?_
  refine g_puti fl_RX12_113 km_0 (by decide) dX12_advance_63 ?_
  intro s9
  refine g_aload_n dX12_advance_66 rfl rfl ?_
  refine g_geti fl_RX12_116 km_0 (by decide) dX12_advance_67 ?_
  refine g_aload_n dX12_advance_70 rfl rfl ?_
  refine g_geti fl_RX12_110 km_0 (by decide) dX12_advance_71 ?_
  refine g_icmplt (tgt := 83) dX12_advance_74 (by decide) ?_ ?_
  · refine g_aload_n dX12_advance_83 rfl rfl ?_
    refine g_aload_n dX12_advance_84 rfl rfl ?_
    refine g_geti fl_RX12_116 km_0 (by decide) dX12_advance_85 ?_
    refine g_callv0 (st := []) 10 mw_X12_look2 lk_RX12_119 rfl km_0 (ok_M_look2 (s9 0 15) s9) (Nat.le_of_ble_eq_true rfl) rfl rfl (Nat.le_of_ble_eq_true rfl) dX12_advance_88 ?_
    intro r10 s11
    refine g_istore_n (lv' := [some (.inr (.inr 0)), some (.inl r10)]) dX12_advance_91 rfl (Nat.le_of_ble_eq_true rfl) rfl ?_
    refine g_iload_n dX12_advance_92 rfl rfl ?_
    refine g_calls3 (st := []) mw_X12_isLetter lk_RX12_125 (ok_M_isLetter r10 s11) (Nat.le_of_ble_eq_true rfl) rfl rfl (Nat.le_of_ble_eq_true rfl) dX12_advance_93 ?_
    intro r12 s13
    refine g_ifeq (tgt := 198) dX12_advance_96 (by decide) ?_ ?_
    · refine g_iload_n dX12_advance_198 rfl rfl ?_
      refine g_calls3 (st := []) mw_X12_isDigit lk_RX12_138 (ok_M_isDigit r10 s13) (Nat.le_of_ble_eq_true rfl) rfl rfl (Nat.le_of_ble_eq_true rfl) dX12_advance_199 ?_
      intro r14 s15
      refine g_ifeq (tgt := 298) dX12_advance_202 (by decide) ?_ ?_
      · refine g_aload_n dX12_advance_298 rfl rfl ?_
        refine g_aload_n dX12_advance_299 rfl rfl ?_
        refine g_geti fl_RX12_116 km_0 (by decide) dX12_advance_300 ?_
        refine g_iconst dX12_advance_303 (by decide) ?_
        refine g_iadd dX12_advance_304 ?_
        refine g_puti fl_RX12_113 km_0 (by decide) dX12_advance_305 ?_
        intro s16
        refine g_aload_n dX12_advance_308 rfl rfl ?_
        refine g_iload_n dX12_advance_309 rfl rfl ?_
        refine g_puti fl_RX12_141 km_0 (by decide) dX12_advance_310 ?_
        intro s17
        refine g_aload_n dX12_advance_313 rfl rfl ?_
        refine g_aload_n dX12_advance_314 rfl rfl ?_
        refine g_iload_n dX12_advance_315 rfl rfl ?_
        refine g_callv3 (st := [.inr (.inr 0)]) 10 mw_X12_isSignByte lk_RX12_144 rfl km_0 (ok_M_isSignByte r10 s17) (Nat.le_of_ble_eq_true rfl) rfl rfl (Nat.le_of_ble_eq_true rfl) dX12_advance_316 ?_
        intro r18 s19
        refine g_ifeq (tgt := 326) dX12_advance_319 (by decide) ?_ ?_
        · refine g_iconst dX12_advance_326 (by decide) ?_
          refine g_puti fl_RX12_122 km_0 (by decide) dX12_advance_327 ?_
          intro s20
          exact g_vret dX12_advance_330
        · refine g_iconst dX12_advance_322 (by decide) ?_
          refine g_goto (tgt := 327) dX12_advance_323 (by decide) ?_
          refine g_puti fl_RX12_122 km_0 (by decide) dX12_advance_327 ?_
          intro s21
          exact g_vret dX12_advance_330
      · refine g_aload_n dX12_advance_205 rfl rfl ?_
        refine g_iconst dX12_advance_206 (by decide) ?_
        refine g_puti fl_RX12_141 km_0 (by decide) dX12_advance_207 ?_
        intro s22
        refine (g_weak [true, false] (ok_M_advance_L210 _ ?_ fu s22))
        · intro s32
          refine (ok_M_advance_J273 s32)
    · refine g_aload_n dX12_advance_99 rfl rfl ?_
      refine g_iconst dX12_advance_100 (by decide) ?_
      refine g_puti fl_RX12_122 km_0 (by decide) dX12_advance_101 ?_
      intro s35
      refine g_aload_n dX12_advance_104 rfl rfl ?_
      refine g_lconst (v := 0) dX12_advance_105 (by decide) ?_
      refine g_putl fl_RX12_128 km_0 (by decide) dX12_advance_106 ?_
      intro s36
      refine (g_weak [true, false] (ok_M_advance_L109 fu s36))
  · refine g_aload_n dX12_advance_77 rfl rfl ?_
    refine g_iconst dX12_advance_78 (by decide) ?_
    refine g_puti fl_RX12_122 km_0 (by decide) dX12_advance_79 ?_
    intro s48
    exact g_vret dX12_advance_82
def M_advance  (σ : Sg) : Rs := (nm (up_s σ 0 15 (σ 0 16)) (fun s1 => (M_advance_L8 (fun s8 => (M_advance_J58 s8)) fu s1)))
theorem ok_M_advance (σ : Sg) : MC l Km Pm yX12_advance cX12_advance 2 2 2 [.inr (.inr 0)] σ (M_advance σ) := by
  refine mc_of (by decide) (Nat.le_of_ble_eq_true rfl) ?_
  change G l Km Pm RX12 cX12_advance 2 2 2 0 [some (.inr (.inr 0)), none] [] σ (M_advance  σ)
  unfold M_advance
  refine g_aload_n dX12_advance_0 rfl rfl ?_
  refine g_aload_n dX12_advance_1 rfl rfl ?_
  refine g_geti fl_RX12_113 km_0 (by decide) dX12_advance_2 ?_
  refine g_puti fl_RX12_116 km_0 (by decide) dX12_advance_5 ?_
  intro s1
  refine (ok_M_advance_L8 _ ?_ fu s1)
  · intro s8
    refine (ok_M_advance_J58 s8)
theorem dX12_has_0 : decode cX12_has 0 = .ok (.iload_n 0, 1) := by decide +kernel
theorem dX12_has_1 : decode cX12_has 1 = .ok (.iload_n 1, 1) := by decide +kernel
theorem dX12_has_2 : decode cX12_has 2 = .ok (.ishr, 1) := by decide +kernel
theorem dX12_has_3 : decode cX12_has 3 = .ok (.iconst 1, 1) := by decide +kernel
theorem dX12_has_4 : decode cX12_has 4 = .ok (.iand, 1) := by decide +kernel
theorem dX12_has_5 : decode cX12_has 5 = .ok (.iconst 1, 1) := by decide +kernel
theorem dX12_has_6 : decode cX12_has 6 = .ok (.if_icmp .ne 7, 3) := by decide +kernel
theorem dX12_has_9 : decode cX12_has 9 = .ok (.iconst 1, 1) := by decide +kernel
theorem dX12_has_10 : decode cX12_has 10 = .ok (.goto 4, 3) := by decide +kernel
theorem dX12_has_13 : decode cX12_has 13 = .ok (.iconst 0, 1) := by decide +kernel
theorem dX12_has_14 : decode cX12_has 14 = .ok (.ireturn, 1) := by decide +kernel
theorem mw_X12_has : MW yX12_has cX12_has 2 3 2 true := ⟨tm 1807 (by decide +kernel) rfl, tm 249 (by decide +kernel) rfl, by decide, by decide, (by rw [if_pos rfl]; exact tm 1806 (by decide +kernel) rfl)⟩
def M_has (a0 : Int) (a1 : Int) (σ : Sg) : Rs := (if (an32 (sr32 a0 a1) 1) = 1 then (some (1, σ)) else (some (0, σ)))
theorem ok_M_has (a0 : Int) (a1 : Int) (σ : Sg) : MC l Km Pm yX12_has cX12_has 2 3 1 [.inl a0, .inl a1] σ (M_has a0 a1 σ) := by
  refine mc_of (by decide) (Nat.le_of_ble_eq_true rfl) ?_
  change G l Km Pm RX12 cX12_has 2 3 1 0 [some (.inl a0), some (.inl a1)] [] σ (M_has a0 a1 σ)
  unfold M_has
  refine g_iload_n dX12_has_0 rfl rfl ?_
  refine g_iload_n dX12_has_1 rfl rfl ?_
  refine g_ishr dX12_has_2 ?_
  refine g_iconst dX12_has_3 (by decide) ?_
  refine g_iand dX12_has_4 ?_
  refine g_iconst dX12_has_5 (by decide) ?_
  refine g_icmpne (tgt := 13) dX12_has_6 (by decide) ?_ ?_
  · refine g_iconst dX12_has_9 (by decide) ?_
    refine g_goto (tgt := 14) dX12_has_10 (by decide) ?_
    exact g_zret1 dX12_has_14
  · refine g_iconst dX12_has_13 (by decide) ?_
    exact g_zret0 dX12_has_14
theorem dX12_keeps_0 : decode cX12_keeps 0 = .ok (.aload_n 0, 1) := by decide +kernel
theorem dX12_keeps_1 : decode cX12_keeps 1 = .ok (.getfield 35, 3) := by decide +kernel
theorem dX12_keeps_4 : decode cX12_keeps 4 = .ok (.bipush 43, 2) := by decide +kernel
theorem dX12_keeps_6 : decode cX12_keeps 6 = .ok (.iload_n 1, 1) := by decide +kernel
theorem dX12_keeps_7 : decode cX12_keeps 7 = .ok (.iadd, 1) := by decide +kernel
theorem dX12_keeps_8 : decode cX12_keeps 8 = .ok (.iaload, 1) := by decide +kernel
theorem dX12_keeps_9 : decode cX12_keeps 9 = .ok (.iload_n 2, 1) := by decide +kernel
theorem dX12_keeps_10 : decode cX12_keeps 10 = .ok (.invokestatic 106, 3) := by decide +kernel
theorem dX12_keeps_13 : decode cX12_keeps 13 = .ok (.ireturn, 1) := by decide +kernel
theorem mw_X12_keeps : MW yX12_keeps cX12_keeps 3 3 2 false := ⟨tm 2000 (by decide +kernel) rfl, tm 249 (by decide +kernel) rfl, by decide, by decide, (by rw [if_neg (by decide)]; exact ⟨tm 1999 (by decide +kernel) rfl, tm 178 (by decide +kernel) rfl⟩)⟩
theorem lk_RX12_106 : LK RX12 106 yX12_has := Or.inl (tm 1805 (by decide +kernel) rfl)
theorem fl_RX12_35 : FL RX12 35 10 20 := ⟨_, _, _, _, cw_10, by decide, Or.inr (Or.inr (Or.inr (by decide))), Or.inl (by decide), Or.inl (tm 1588 (by decide +kernel) rfl)⟩
def M_keeps (a1 : Int) (a2 : Int) (σ : Sg) : Rs := (rd 2235 (w32 (43 + a1)) (σ 5 (Int.toNat (w32 (43 + a1)))) (fun x1 => (bd (M_has x1 a2 σ) (fun r2 s3 => (zb r2 (some (r2, s3)))))))
theorem ok_M_keeps (a1 : Int) (a2 : Int) (σ : Sg) : MC l Km Pm yX12_keeps cX12_keeps 3 3 2 [.inr (.inr 0), .inl a1, .inl a2] σ (M_keeps a1 a2 σ) := by
  refine mc_of (by decide) (Nat.le_of_ble_eq_true rfl) ?_
  change G l Km Pm RX12 cX12_keeps 3 3 2 0 [some (.inr (.inr 0)), some (.inl a1), some (.inl a2)] [] σ (M_keeps a1 a2 σ)
  unfold M_keeps
  refine g_aload_n dX12_keeps_0 rfl rfl ?_
  refine g_getr' (q := 5) fl_RX12_35 km_0 (by decide) rfl dX12_keeps_1 ?_
  refine g_bipush dX12_keeps_4 (by decide) ?_
  refine g_iload_n dX12_keeps_6 rfl rfl ?_
  refine g_iadd dX12_keeps_7 ?_
  refine g_iald km_5 dX12_keeps_8 ?_
  intro x1
  refine g_iload_n dX12_keeps_9 rfl rfl ?_
  refine g_calls3 (st := []) mw_X12_has lk_RX12_106 (ok_M_has x1 a2 σ) (Nat.le_of_ble_eq_true rfl) rfl rfl (Nat.le_of_ble_eq_true rfl) dX12_keeps_10 ?_
  intro r2 s3
  exact g_zret dX12_keeps_13
theorem dX12_hairOf_0 : decode cX12_hairOf 0 = .ok (.iconst 0, 1) := by decide +kernel
theorem dX12_hairOf_1 : decode cX12_hairOf 1 = .ok (.istore_n 2, 1) := by decide +kernel
theorem dX12_hairOf_2 : decode cX12_hairOf 2 = .ok (.iconst 0, 1) := by decide +kernel
theorem dX12_hairOf_3 : decode cX12_hairOf 3 = .ok (.istore_n 3, 1) := by decide +kernel
theorem dX12_hairOf_4 : decode cX12_hairOf 4 = .ok (.iload_n 3, 1) := by decide +kernel
theorem dX12_hairOf_5 : decode cX12_hairOf 5 = .ok (.aload_n 0, 1) := by decide +kernel
theorem dX12_hairOf_6 : decode cX12_hairOf 6 = .ok (.getfield 35, 3) := by decide +kernel
theorem dX12_hairOf_9 : decode cX12_hairOf 9 = .ok (.iconst 0, 1) := by decide +kernel
theorem dX12_hairOf_10 : decode cX12_hairOf 10 = .ok (.iaload, 1) := by decide +kernel
theorem dX12_hairOf_11 : decode cX12_hairOf 11 = .ok (.if_icmp .ge 39, 3) := by decide +kernel
theorem dX12_hairOf_14 : decode cX12_hairOf 14 = .ok (.iload_n 2, 1) := by decide +kernel
theorem dX12_hairOf_15 : decode cX12_hairOf 15 = .ok (.aload_n 0, 1) := by decide +kernel
theorem dX12_hairOf_16 : decode cX12_hairOf 16 = .ok (.iload_n 1, 1) := by decide +kernel
theorem dX12_hairOf_17 : decode cX12_hairOf 17 = .ok (.iload_n 3, 1) := by decide +kernel
theorem dX12_hairOf_18 : decode cX12_hairOf 18 = .ok (.invokevirtual 317, 3) := by decide +kernel
theorem dX12_hairOf_21 : decode cX12_hairOf 21 = .ok (.ifCond .eq 20, 3) := by decide +kernel
theorem dX12_hairOf_24 : decode cX12_hairOf 24 = .ok (.aload_n 0, 1) := by decide +kernel
theorem dX12_hairOf_25 : decode cX12_hairOf 25 = .ok (.getfield 35, 3) := by decide +kernel
theorem dX12_hairOf_28 : decode cX12_hairOf 28 = .ok (.bipush 49, 2) := by decide +kernel
theorem dX12_hairOf_30 : decode cX12_hairOf 30 = .ok (.bipush 8, 2) := by decide +kernel
theorem dX12_hairOf_32 : decode cX12_hairOf 32 = .ok (.iload_n 1, 1) := by decide +kernel
theorem dX12_hairOf_33 : decode cX12_hairOf 33 = .ok (.imul, 1) := by decide +kernel
theorem dX12_hairOf_34 : decode cX12_hairOf 34 = .ok (.iadd, 1) := by decide +kernel
theorem dX12_hairOf_35 : decode cX12_hairOf 35 = .ok (.iload_n 3, 1) := by decide +kernel
theorem dX12_hairOf_36 : decode cX12_hairOf 36 = .ok (.iadd, 1) := by decide +kernel
theorem dX12_hairOf_37 : decode cX12_hairOf 37 = .ok (.iaload, 1) := by decide +kernel
theorem dX12_hairOf_38 : decode cX12_hairOf 38 = .ok (.goto 4, 3) := by decide +kernel
theorem dX12_hairOf_41 : decode cX12_hairOf 41 = .ok (.iconst 0, 1) := by decide +kernel
theorem dX12_hairOf_42 : decode cX12_hairOf 42 = .ok (.iadd, 1) := by decide +kernel
theorem dX12_hairOf_43 : decode cX12_hairOf 43 = .ok (.istore_n 2, 1) := by decide +kernel
theorem dX12_hairOf_44 : decode cX12_hairOf 44 = .ok (.iinc 3 1, 3) := by decide +kernel
theorem dX12_hairOf_47 : decode cX12_hairOf 47 = .ok (.goto (-43), 3) := by decide +kernel
theorem dX12_hairOf_50 : decode cX12_hairOf 50 = .ok (.iload_n 2, 1) := by decide +kernel
theorem dX12_hairOf_51 : decode cX12_hairOf 51 = .ok (.ireturn, 1) := by decide +kernel
theorem mw_X12_hairOf : MW yX12_hairOf cX12_hairOf 4 0 1 false := ⟨tm 1996 (by decide +kernel) rfl, tm 249 (by decide +kernel) rfl, by decide, by decide, (by rw [if_neg (by decide)]; exact ⟨tm 1995 (by decide +kernel) rfl, tm 177 (by decide +kernel) rfl⟩)⟩
theorem lk_RX12_317 : LK RX12 317 yX12_keeps := Or.inl (tm 1997 (by decide +kernel) rfl)
def M_hairOf_L4 (a1 : Int) : Nat → Int → Int → Sg → Rs
  | 0, _, _, _ => none
  | n + 1, v2, v3, σ => (rd 2235 0 (σ 5 (Int.toNat 0)) (fun x1 => (if v3 < x1 then (bd (M_keeps a1 v3 σ) (fun r2 s3 => (if r2 = 0 then (nm (w32 (v2 + 0)) (fun x4 => (nm (w32 (v3 + 1)) (fun x5 => (M_hairOf_L4 a1 n x4 x5 s3))))) else (rd 2235 (w32 ((w32 (49 + (w32 (8 * a1)))) + v3)) (s3 5 (Int.toNat (w32 ((w32 (49 + (w32 (8 * a1)))) + v3)))) (fun x6 => (nm (w32 (v2 + x6)) (fun x7 => (nm (w32 (v3 + 1)) (fun x8 => (M_hairOf_L4 a1 n x7 x8 s3)))))))))) else (some (v2, σ)))))
theorem ok_M_hairOf_L4 (a1 : Int) : ∀ (n : Nat) (v2 v3 : Int) (σ : Sg), G l Km Pm RX12 cX12_hairOf 4 0 3 4 [some (.inr (.inr 0)), some (.inl a1), some (.inl v2), some (.inl v3)] [] σ (M_hairOf_L4 a1 n v2 v3 σ) := by
  intro n
  induction n with
  | zero => intros; exact G.none_
  | succ n ih =>
    intro v2 v3 σ
    rw [M_hairOf_L4]
    refine g_iload_n dX12_hairOf_4 rfl rfl ?_
    refine g_aload_n dX12_hairOf_5 rfl rfl ?_
    refine g_getr' (q := 5) fl_RX12_35 km_0 (by decide) rfl dX12_hairOf_6 ?_
    refine g_iconst dX12_hairOf_9 (by decide) ?_
    refine g_iald km_5 dX12_hairOf_10 ?_
    intro x1
    refine g_icmpge (tgt := 50) dX12_hairOf_11 (by decide) ?_ ?_
    · refine g_iload_n dX12_hairOf_14 rfl rfl ?_
      refine g_aload_n dX12_hairOf_15 rfl rfl ?_
      refine g_iload_n dX12_hairOf_16 rfl rfl ?_
      refine g_iload_n dX12_hairOf_17 rfl rfl ?_
      refine g_callv3 (st := [.inl v2]) 10 mw_X12_keeps lk_RX12_317 rfl km_0 (ok_M_keeps a1 v3 σ) (Nat.le_of_ble_eq_true rfl) rfl rfl (Nat.le_of_ble_eq_true rfl) dX12_hairOf_18 ?_
      intro r2 s3
      refine g_ifeq (tgt := 41) dX12_hairOf_21 (by decide) ?_ ?_
      · refine g_iconst dX12_hairOf_41 (by decide) ?_
        refine g_iadd dX12_hairOf_42 ?_
        refine n_istore_n (fun x4 => [some (.inr (.inr 0)), some (.inl a1), some (.inl x4), some (.inl v3)]) dX12_hairOf_43 rfl (Nat.le_of_ble_eq_true rfl) (fun _ => rfl) ?_
        intro x4
        refine n_iinc (fun x5 => [some (.inr (.inr 0)), some (.inl a1), some (.inl x4), some (.inl x5)]) dX12_hairOf_44 rfl (Nat.le_of_ble_eq_true rfl) (fun _ => rfl) ?_
        intro x5
        refine g_goto (tgt := 4) dX12_hairOf_47 (by decide) ?_
        exact (ih x4 x5 s3)
      · refine g_aload_n dX12_hairOf_24 rfl rfl ?_
        refine g_getr' (q := 5) fl_RX12_35 km_0 (by decide) rfl dX12_hairOf_25 ?_
        refine g_bipush dX12_hairOf_28 (by decide) ?_
        refine g_bipush dX12_hairOf_30 (by decide) ?_
        refine g_iload_n dX12_hairOf_32 rfl rfl ?_
        refine g_imul dX12_hairOf_33 ?_
        refine g_iadd dX12_hairOf_34 ?_
        refine g_iload_n dX12_hairOf_35 rfl rfl ?_
        refine g_iadd dX12_hairOf_36 ?_
        refine g_iald km_5 dX12_hairOf_37 ?_
        intro x6
        refine g_goto (tgt := 42) dX12_hairOf_38 (by decide) ?_
        refine g_iadd dX12_hairOf_42 ?_
        refine n_istore_n (fun x7 => [some (.inr (.inr 0)), some (.inl a1), some (.inl x7), some (.inl v3)]) dX12_hairOf_43 rfl (Nat.le_of_ble_eq_true rfl) (fun _ => rfl) ?_
        intro x7
        refine n_iinc (fun x8 => [some (.inr (.inr 0)), some (.inl a1), some (.inl x7), some (.inl x8)]) dX12_hairOf_44 rfl (Nat.le_of_ble_eq_true rfl) (fun _ => rfl) ?_
        intro x8
        refine g_goto (tgt := 4) dX12_hairOf_47 (by decide) ?_
        exact (ih x7 x8 s3)
    · refine g_iload_n dX12_hairOf_50 rfl rfl ?_
      exact g_iret dX12_hairOf_51
def M_hairOf (a1 : Int) (σ : Sg) : Rs := (M_hairOf_L4 a1 fu 0 0 σ)
theorem ok_M_hairOf (a1 : Int) (σ : Sg) : MC l Km Pm yX12_hairOf cX12_hairOf 4 0 3 [.inr (.inr 0), .inl a1] σ (M_hairOf a1 σ) := by
  refine mc_of (by decide) (Nat.le_of_ble_eq_true rfl) ?_
  change G l Km Pm RX12 cX12_hairOf 4 0 3 0 [some (.inr (.inr 0)), some (.inl a1), none, none] [] σ (M_hairOf a1 σ)
  unfold M_hairOf
  refine g_iconst dX12_hairOf_0 (by decide) ?_
  refine g_istore_n (lv' := [some (.inr (.inr 0)), some (.inl a1), some (.inl 0), none]) dX12_hairOf_1 rfl (Nat.le_of_ble_eq_true rfl) rfl ?_
  refine g_iconst dX12_hairOf_2 (by decide) ?_
  refine g_istore_n (lv' := [some (.inr (.inr 0)), some (.inl a1), some (.inl 0), some (.inl 0)]) dX12_hairOf_3 rfl (Nat.le_of_ble_eq_true rfl) rfl ?_
  refine (ok_M_hairOf_L4 a1 fu 0 0 σ)
theorem dX12_allHair_0 : decode cX12_allHair 0 = .ok (.iconst 0, 1) := by decide +kernel
theorem dX12_allHair_1 : decode cX12_allHair 1 = .ok (.istore_n 1, 1) := by decide +kernel
theorem dX12_allHair_2 : decode cX12_allHair 2 = .ok (.iconst 0, 1) := by decide +kernel
theorem dX12_allHair_3 : decode cX12_allHair 3 = .ok (.istore_n 2, 1) := by decide +kernel
theorem dX12_allHair_4 : decode cX12_allHair 4 = .ok (.iload_n 2, 1) := by decide +kernel
theorem dX12_allHair_5 : decode cX12_allHair 5 = .ok (.aload_n 0, 1) := by decide +kernel
theorem dX12_allHair_6 : decode cX12_allHair 6 = .ok (.getfield 35, 3) := by decide +kernel
theorem dX12_allHair_9 : decode cX12_allHair 9 = .ok (.iconst 1, 1) := by decide +kernel
theorem dX12_allHair_10 : decode cX12_allHair 10 = .ok (.iaload, 1) := by decide +kernel
theorem dX12_allHair_11 : decode cX12_allHair 11 = .ok (.if_icmp .ge 17, 3) := by decide +kernel
theorem dX12_allHair_14 : decode cX12_allHair 14 = .ok (.iload_n 1, 1) := by decide +kernel
theorem dX12_allHair_15 : decode cX12_allHair 15 = .ok (.aload_n 0, 1) := by decide +kernel
theorem dX12_allHair_16 : decode cX12_allHair 16 = .ok (.iload_n 2, 1) := by decide +kernel
theorem dX12_allHair_17 : decode cX12_allHair 17 = .ok (.invokevirtual 320, 3) := by decide +kernel
theorem dX12_allHair_20 : decode cX12_allHair 20 = .ok (.iadd, 1) := by decide +kernel
theorem dX12_allHair_21 : decode cX12_allHair 21 = .ok (.istore_n 1, 1) := by decide +kernel
theorem dX12_allHair_22 : decode cX12_allHair 22 = .ok (.iinc 2 1, 3) := by decide +kernel
theorem dX12_allHair_25 : decode cX12_allHair 25 = .ok (.goto (-21), 3) := by decide +kernel
theorem dX12_allHair_28 : decode cX12_allHair 28 = .ok (.iload_n 1, 1) := by decide +kernel
theorem dX12_allHair_29 : decode cX12_allHair 29 = .ok (.ireturn, 1) := by decide +kernel
theorem mw_X12_allHair : MW yX12_allHair cX12_allHair 3 0 0 false := ⟨tm 1992 (by decide +kernel) rfl, tm 249 (by decide +kernel) rfl, by decide, by decide, (by rw [if_neg (by decide)]; exact ⟨tm 1991 (by decide +kernel) rfl, tm 176 (by decide +kernel) rfl⟩)⟩
theorem lk_RX12_320 : LK RX12 320 yX12_hairOf := Or.inl (tm 1993 (by decide +kernel) rfl)
def M_allHair_L4  : Nat → Int → Int → Sg → Rs
  | 0, _, _, _ => none
  | n + 1, v1, v2, σ => (rd 2235 1 (σ 5 (Int.toNat 1)) (fun x1 => (if v2 < x1 then (bd (M_hairOf v2 σ) (fun r2 s3 => (nm (w32 (v1 + r2)) (fun x4 => (nm (w32 (v2 + 1)) (fun x5 => (M_allHair_L4 n x4 x5 s3))))))) else (some (v1, σ)))))
theorem ok_M_allHair_L4 : ∀ (n : Nat) (v1 v2 : Int) (σ : Sg), G l Km Pm RX12 cX12_allHair 3 0 4 4 [some (.inr (.inr 0)), some (.inl v1), some (.inl v2)] [] σ (M_allHair_L4  n v1 v2 σ) := by
  intro n
  induction n with
  | zero => intros; exact G.none_
  | succ n ih =>
    intro v1 v2 σ
    rw [M_allHair_L4]
    refine g_iload_n dX12_allHair_4 rfl rfl ?_
    refine g_aload_n dX12_allHair_5 rfl rfl ?_
    refine g_getr' (q := 5) fl_RX12_35 km_0 (by decide) rfl dX12_allHair_6 ?_
    refine g_iconst dX12_allHair_9 (by decide) ?_
    refine g_iald km_5 dX12_allHair_10 ?_
    intro x1
    refine g_icmpge (tgt := 28) dX12_allHair_11 (by decide) ?_ ?_
    · refine g_iload_n dX12_allHair_14 rfl rfl ?_
      refine g_aload_n dX12_allHair_15 rfl rfl ?_
      refine g_iload_n dX12_allHair_16 rfl rfl ?_
      refine g_callv0 (st := [.inl v1]) 10 mw_X12_hairOf lk_RX12_320 rfl km_0 (ok_M_hairOf v2 σ) (Nat.le_of_ble_eq_true rfl) rfl rfl (Nat.le_of_ble_eq_true rfl) dX12_allHair_17 ?_
      intro r2 s3
      refine g_iadd dX12_allHair_20 ?_
      refine n_istore_n (fun x4 => [some (.inr (.inr 0)), some (.inl x4), some (.inl v2)]) dX12_allHair_21 rfl (Nat.le_of_ble_eq_true rfl) (fun _ => rfl) ?_
      intro x4
      refine n_iinc (fun x5 => [some (.inr (.inr 0)), some (.inl x4), some (.inl x5)]) dX12_allHair_22 rfl (Nat.le_of_ble_eq_true rfl) (fun _ => rfl) ?_
      intro x5
      refine g_goto (tgt := 4) dX12_allHair_25 (by decide) ?_
      exact (ih x4 x5 s3)
    · refine g_iload_n dX12_allHair_28 rfl rfl ?_
      exact g_iret dX12_allHair_29
def M_allHair  (σ : Sg) : Rs := (M_allHair_L4 fu 0 0 σ)
theorem ok_M_allHair (σ : Sg) : MC l Km Pm yX12_allHair cX12_allHair 3 0 4 [.inr (.inr 0)] σ (M_allHair σ) := by
  refine mc_of (by decide) (Nat.le_of_ble_eq_true rfl) ?_
  change G l Km Pm RX12 cX12_allHair 3 0 4 0 [some (.inr (.inr 0)), none, none] [] σ (M_allHair  σ)
  unfold M_allHair
  refine g_iconst dX12_allHair_0 (by decide) ?_
  refine g_istore_n (lv' := [some (.inr (.inr 0)), some (.inl 0), none]) dX12_allHair_1 rfl (Nat.le_of_ble_eq_true rfl) rfl ?_
  refine g_iconst dX12_allHair_2 (by decide) ?_
  refine g_istore_n (lv' := [some (.inr (.inr 0)), some (.inl 0), some (.inl 0)]) dX12_allHair_3 rfl (Nat.le_of_ble_eq_true rfl) rfl ?_
  refine (ok_M_allHair_L4 fu 0 0 σ)
theorem dX12_allWords_0 : decode cX12_allWords 0 = .ok (.iconst 1, 1) := by decide +kernel
theorem dX12_allWords_1 : decode cX12_allWords 1 = .ok (.aload_n 0, 1) := by decide +kernel
theorem dX12_allWords_2 : decode cX12_allWords 2 = .ok (.getfield 35, 3) := by decide +kernel
theorem dX12_allWords_5 : decode cX12_allWords 5 = .ok (.iconst 0, 1) := by decide +kernel
theorem dX12_allWords_6 : decode cX12_allWords 6 = .ok (.iaload, 1) := by decide +kernel
theorem dX12_allWords_7 : decode cX12_allWords 7 = .ok (.ishl, 1) := by decide +kernel
theorem dX12_allWords_8 : decode cX12_allWords 8 = .ok (.iconst 1, 1) := by decide +kernel
theorem dX12_allWords_9 : decode cX12_allWords 9 = .ok (.isub, 1) := by decide +kernel
theorem dX12_allWords_10 : decode cX12_allWords 10 = .ok (.ireturn, 1) := by decide +kernel
theorem mw_X12_allWords : MW yX12_allWords cX12_allWords 1 0 0 false := ⟨tm 2226 (by decide +kernel) rfl, tm 249 (by decide +kernel) rfl, by decide, by decide, (by rw [if_neg (by decide)]; exact ⟨tm 2225 (by decide +kernel) rfl, tm 205 (by decide +kernel) rfl⟩)⟩
def M_allWords  (σ : Sg) : Rs := (rd 2235 0 (σ 5 (Int.toNat 0)) (fun x1 => (some ((w32 ((sl32 1 x1) - 1)), σ))))
theorem ok_M_allWords (σ : Sg) : MC l Km Pm yX12_allWords cX12_allWords 1 0 1 [.inr (.inr 0)] σ (M_allWords σ) := by
  refine mc_of (by decide) (Nat.le_of_ble_eq_true rfl) ?_
  change G l Km Pm RX12 cX12_allWords 1 0 1 0 [some (.inr (.inr 0))] [] σ (M_allWords  σ)
  unfold M_allWords
  refine g_iconst dX12_allWords_0 (by decide) ?_
  refine g_aload_n dX12_allWords_1 rfl rfl ?_
  refine g_getr' (q := 5) fl_RX12_35 km_0 (by decide) rfl dX12_allWords_2 ?_
  refine g_iconst dX12_allWords_5 (by decide) ?_
  refine g_iald km_5 dX12_allWords_6 ?_
  intro x1
  refine g_ishl dX12_allWords_7 ?_
  refine g_iconst dX12_allWords_8 (by decide) ?_
  refine g_isub dX12_allWords_9 ?_
  exact g_iret dX12_allWords_10
theorem dX12_fail_0 : decode cX12_fail 0 = .ok (.aload_n 0, 1) := by decide +kernel
theorem dX12_fail_1 : decode cX12_fail 1 = .ok (.getfield 211, 3) := by decide +kernel
theorem dX12_fail_4 : decode cX12_fail 4 = .ok (.ifCond .le 4, 3) := by decide +kernel
theorem dX12_fail_7 : decode cX12_fail 7 = .ok (.return_, 1) := by decide +kernel
theorem dX12_fail_8 : decode cX12_fail 8 = .ok (.aload_n 0, 1) := by decide +kernel
theorem dX12_fail_9 : decode cX12_fail 9 = .ok (.iload_n 1, 1) := by decide +kernel
theorem dX12_fail_10 : decode cX12_fail 10 = .ok (.putfield 211, 3) := by decide +kernel
theorem dX12_fail_13 : decode cX12_fail 13 = .ok (.aload_n 0, 1) := by decide +kernel
theorem dX12_fail_14 : decode cX12_fail 14 = .ok (.iload_n 2, 1) := by decide +kernel
theorem dX12_fail_15 : decode cX12_fail 15 = .ok (.putfield 214, 3) := by decide +kernel
theorem dX12_fail_18 : decode cX12_fail 18 = .ok (.return_, 1) := by decide +kernel
theorem mw_X12_fail : MW yX12_fail cX12_fail 3 2 2 false := ⟨tm 1811 (by decide +kernel) rfl, tm 249 (by decide +kernel) rfl, by decide, by decide, (by rw [if_neg (by decide)]; exact ⟨tm 1810 (by decide +kernel) rfl, tm 134 (by decide +kernel) rfl⟩)⟩
theorem fl_RX12_211 : FL RX12 211 10 12 := ⟨_, _, _, _, cw_10, by decide, Or.inl (by decide), Or.inr (by decide), Or.inl (tm 1580 (by decide +kernel) rfl)⟩
theorem fl_RX12_214 : FL RX12 214 10 13 := ⟨_, _, _, _, cw_10, by decide, Or.inl (by decide), Or.inr (by decide), Or.inl (tm 1581 (by decide +kernel) rfl)⟩
def M_fail (a1 : Int) (a2 : Int) (σ : Sg) : Rs := (if 0 < (σ 0 12) then (some (0, σ)) else (nm (up_s σ 0 12 a1) (fun s1 => (nm (up_s s1 0 13 a2) (fun s2 => (some (0, s2)))))))
theorem ok_M_fail (a1 : Int) (a2 : Int) (σ : Sg) : MC l Km Pm yX12_fail cX12_fail 3 2 1 [.inr (.inr 0), .inl a1, .inl a2] σ (M_fail a1 a2 σ) := by
  refine mc_of (by decide) (Nat.le_of_ble_eq_true rfl) ?_
  change G l Km Pm RX12 cX12_fail 3 2 1 0 [some (.inr (.inr 0)), some (.inl a1), some (.inl a2)] [] σ (M_fail a1 a2 σ)
  unfold M_fail
  refine g_aload_n dX12_fail_0 rfl rfl ?_
  refine g_geti fl_RX12_211 km_0 (by decide) dX12_fail_1 ?_
  refine g_ifle (tgt := 8) dX12_fail_4 (by decide) ?_ ?_
  · exact g_vret dX12_fail_7
  · refine g_aload_n dX12_fail_8 rfl rfl ?_
    refine g_iload_n dX12_fail_9 rfl rfl ?_
    refine g_puti fl_RX12_211 km_0 (by decide) dX12_fail_10 ?_
    intro s1
    refine g_aload_n dX12_fail_13 rfl rfl ?_
    refine g_iload_n dX12_fail_14 rfl rfl ?_
    refine g_puti fl_RX12_214 km_0 (by decide) dX12_fail_15 ?_
    intro s2
    exact g_vret dX12_fail_18
theorem dX12_amiss_0 : decode cX12_amiss 0 = .ok (.aload_n 0, 1) := by decide +kernel
theorem dX12_amiss_1 : decode cX12_amiss 1 = .ok (.aload_n 0, 1) := by decide +kernel
theorem dX12_amiss_2 : decode cX12_amiss 2 = .ok (.getfield 122, 3) := by decide +kernel
theorem dX12_amiss_5 : decode cX12_amiss 5 = .ok (.iconst 4, 1) := by decide +kernel
theorem dX12_amiss_6 : decode cX12_amiss 6 = .ok (.if_icmp .ne 7, 3) := by decide +kernel
theorem dX12_amiss_9 : decode cX12_amiss 9 = .ok (.iconst 1, 1) := by decide +kernel
theorem dX12_amiss_10 : decode cX12_amiss 10 = .ok (.goto 4, 3) := by decide +kernel
theorem dX12_amiss_13 : decode cX12_amiss 13 = .ok (.iconst 2, 1) := by decide +kernel
theorem dX12_amiss_14 : decode cX12_amiss 14 = .ok (.aload_n 0, 1) := by decide +kernel
theorem dX12_amiss_15 : decode cX12_amiss 15 = .ok (.getfield 116, 3) := by decide +kernel
theorem dX12_amiss_18 : decode cX12_amiss 18 = .ok (.invokevirtual 217, 3) := by decide +kernel
theorem dX12_amiss_21 : decode cX12_amiss 21 = .ok (.return_, 1) := by decide +kernel
theorem mw_X12_amiss : MW yX12_amiss cX12_amiss 1 2 0 false := ⟨tm 1819 (by decide +kernel) rfl, tm 249 (by decide +kernel) rfl, by decide, by decide, (by rw [if_neg (by decide)]; exact ⟨tm 1818 (by decide +kernel) rfl, tm 136 (by decide +kernel) rfl⟩)⟩
theorem lk_RX12_217 : LK RX12 217 yX12_fail := Or.inl (tm 1808 (by decide +kernel) rfl)
def M_amiss  (σ : Sg) : Rs := (if (σ 0 14) = 4 then (bd (M_fail 1 (σ 0 15) σ) (fun r1 s2 => (some (0, s2)))) else (bd (M_fail 2 (σ 0 15) σ) (fun r3 s4 => (some (0, s4)))))
theorem ok_M_amiss (σ : Sg) : MC l Km Pm yX12_amiss cX12_amiss 1 2 2 [.inr (.inr 0)] σ (M_amiss σ) := by
  refine mc_of (by decide) (Nat.le_of_ble_eq_true rfl) ?_
  change G l Km Pm RX12 cX12_amiss 1 2 2 0 [some (.inr (.inr 0))] [] σ (M_amiss  σ)
  unfold M_amiss
  refine g_aload_n dX12_amiss_0 rfl rfl ?_
  refine g_aload_n dX12_amiss_1 rfl rfl ?_
  refine g_geti fl_RX12_122 km_0 (by decide) dX12_amiss_2 ?_
  refine g_iconst dX12_amiss_5 (by decide) ?_
  refine g_icmpne (tgt := 13) dX12_amiss_6 (by decide) ?_ ?_
  · refine g_iconst dX12_amiss_9 (by decide) ?_
    refine g_goto (tgt := 14) dX12_amiss_10 (by decide) ?_
    refine g_aload_n dX12_amiss_14 rfl rfl ?_
    refine g_geti fl_RX12_116 km_0 (by decide) dX12_amiss_15 ?_
    refine g_callv2 (st := []) 10 mw_X12_fail lk_RX12_217 rfl km_0 (ok_M_fail 1 (σ 0 15) σ) (Nat.le_of_ble_eq_true rfl) rfl rfl (Nat.le_of_ble_eq_true rfl) dX12_amiss_18 ?_
    intro r1 s2
    exact g_vret dX12_amiss_21
  · refine g_iconst dX12_amiss_13 (by decide) ?_
    refine g_aload_n dX12_amiss_14 rfl rfl ?_
    refine g_geti fl_RX12_116 km_0 (by decide) dX12_amiss_15 ?_
    refine g_callv2 (st := []) 10 mw_X12_fail lk_RX12_217 rfl km_0 (ok_M_fail 2 (σ 0 15) σ) (Nat.le_of_ble_eq_true rfl) rfl rfl (Nat.le_of_ble_eq_true rfl) dX12_amiss_18 ?_
    intro r3 s4
    exact g_vret dX12_amiss_21
theorem dX12_longestOf_0 : decode cX12_longestOf 0 = .ok (.iconst (-1), 1) := by decide +kernel
theorem dX12_longestOf_1 : decode cX12_longestOf 1 = .ok (.istore_n 3, 1) := by decide +kernel
theorem dX12_longestOf_2 : decode cX12_longestOf 2 = .ok (.iconst 0, 1) := by decide +kernel
theorem dX12_longestOf_3 : decode cX12_longestOf 3 = .ok (.istore 4, 2) := by decide +kernel
theorem dX12_longestOf_5 : decode cX12_longestOf 5 = .ok (.iload 4, 2) := by decide +kernel
theorem dX12_longestOf_7 : decode cX12_longestOf 7 = .ok (.aload_n 0, 1) := by decide +kernel
theorem dX12_longestOf_8 : decode cX12_longestOf 8 = .ok (.getfield 35, 3) := by decide +kernel
theorem dX12_longestOf_11 : decode cX12_longestOf 11 = .ok (.iconst 0, 1) := by decide +kernel
theorem dX12_longestOf_12 : decode cX12_longestOf 12 = .ok (.iaload, 1) := by decide +kernel
theorem dX12_longestOf_13 : decode cX12_longestOf 13 = .ok (.if_icmp .ge 67, 3) := by decide +kernel
theorem dX12_longestOf_16 : decode cX12_longestOf 16 = .ok (.aload_n 0, 1) := by decide +kernel
theorem dX12_longestOf_17 : decode cX12_longestOf 17 = .ok (.iload_n 1, 1) := by decide +kernel
theorem dX12_longestOf_18 : decode cX12_longestOf 18 = .ok (.iload 4, 2) := by decide +kernel
theorem dX12_longestOf_20 : decode cX12_longestOf 20 = .ok (.invokevirtual 317, 3) := by decide +kernel
theorem dX12_longestOf_23 : decode cX12_longestOf 23 = .ok (.ifCond .eq 51, 3) := by decide +kernel
theorem dX12_longestOf_26 : decode cX12_longestOf 26 = .ok (.iload_n 2, 1) := by decide +kernel
theorem dX12_longestOf_27 : decode cX12_longestOf 27 = .ok (.iload 4, 2) := by decide +kernel
theorem dX12_longestOf_29 : decode cX12_longestOf 29 = .ok (.invokestatic 106, 3) := by decide +kernel
theorem dX12_longestOf_32 : decode cX12_longestOf 32 = .ok (.ifCond .eq 42, 3) := by decide +kernel
theorem dX12_longestOf_35 : decode cX12_longestOf 35 = .ok (.iload_n 3, 1) := by decide +kernel
theorem dX12_longestOf_36 : decode cX12_longestOf 36 = .ok (.ifCond .lt 35, 3) := by decide +kernel
theorem dX12_longestOf_39 : decode cX12_longestOf 39 = .ok (.aload_n 0, 1) := by decide +kernel
theorem dX12_longestOf_40 : decode cX12_longestOf 40 = .ok (.getfield 35, 3) := by decide +kernel
theorem dX12_longestOf_43 : decode cX12_longestOf 43 = .ok (.bipush 49, 2) := by decide +kernel
theorem dX12_longestOf_45 : decode cX12_longestOf 45 = .ok (.bipush 8, 2) := by decide +kernel
theorem dX12_longestOf_47 : decode cX12_longestOf 47 = .ok (.iload_n 1, 1) := by decide +kernel
theorem dX12_longestOf_48 : decode cX12_longestOf 48 = .ok (.imul, 1) := by decide +kernel
theorem dX12_longestOf_49 : decode cX12_longestOf 49 = .ok (.iadd, 1) := by decide +kernel
theorem dX12_longestOf_50 : decode cX12_longestOf 50 = .ok (.iload 4, 2) := by decide +kernel
theorem dX12_longestOf_52 : decode cX12_longestOf 52 = .ok (.iadd, 1) := by decide +kernel
theorem dX12_longestOf_53 : decode cX12_longestOf 53 = .ok (.iaload, 1) := by decide +kernel
theorem dX12_longestOf_54 : decode cX12_longestOf 54 = .ok (.aload_n 0, 1) := by decide +kernel
theorem dX12_longestOf_55 : decode cX12_longestOf 55 = .ok (.getfield 35, 3) := by decide +kernel
theorem dX12_longestOf_58 : decode cX12_longestOf 58 = .ok (.bipush 49, 2) := by decide +kernel
theorem dX12_longestOf_60 : decode cX12_longestOf 60 = .ok (.bipush 8, 2) := by decide +kernel
theorem dX12_longestOf_62 : decode cX12_longestOf 62 = .ok (.iload_n 1, 1) := by decide +kernel
theorem dX12_longestOf_63 : decode cX12_longestOf 63 = .ok (.imul, 1) := by decide +kernel
theorem dX12_longestOf_64 : decode cX12_longestOf 64 = .ok (.iadd, 1) := by decide +kernel
theorem dX12_longestOf_65 : decode cX12_longestOf 65 = .ok (.iload_n 3, 1) := by decide +kernel
theorem dX12_longestOf_66 : decode cX12_longestOf 66 = .ok (.iadd, 1) := by decide +kernel
theorem dX12_longestOf_67 : decode cX12_longestOf 67 = .ok (.iaload, 1) := by decide +kernel
theorem dX12_longestOf_68 : decode cX12_longestOf 68 = .ok (.if_icmp .le 6, 3) := by decide +kernel
theorem dX12_longestOf_71 : decode cX12_longestOf 71 = .ok (.iload 4, 2) := by decide +kernel
theorem dX12_longestOf_73 : decode cX12_longestOf 73 = .ok (.istore_n 3, 1) := by decide +kernel
theorem dX12_longestOf_74 : decode cX12_longestOf 74 = .ok (.iinc 4 1, 3) := by decide +kernel
theorem dX12_longestOf_77 : decode cX12_longestOf 77 = .ok (.goto (-72), 3) := by decide +kernel
theorem dX12_longestOf_80 : decode cX12_longestOf 80 = .ok (.iload_n 3, 1) := by decide +kernel
theorem dX12_longestOf_81 : decode cX12_longestOf 81 = .ok (.ireturn, 1) := by decide +kernel
theorem mw_X12_longestOf : MW yX12_longestOf cX12_longestOf 5 0 2 false := ⟨tm 2046 (by decide +kernel) rfl, tm 249 (by decide +kernel) rfl, by decide, by decide, (by rw [if_neg (by decide)]; exact ⟨tm 2045 (by decide +kernel) rfl, tm 184 (by decide +kernel) rfl⟩)⟩
def M_longestOf_L5 (a1 : Int) (a2 : Int) : Nat → Int → Int → Sg → Rs
  | 0, _, _, _ => none
  | n + 1, v3, v4, σ => (rd 2235 0 (σ 5 (Int.toNat 0)) (fun x1 => (if v4 < x1 then (bd (M_keeps a1 v4 σ) (fun r2 s3 => (if r2 = 0 then (nm (w32 (v4 + 1)) (fun x4 => (M_longestOf_L5 a1 a2 n v3 x4 s3))) else (bd (M_has a2 v4 s3) (fun r5 s6 => (if r5 = 0 then (nm (w32 (v4 + 1)) (fun x7 => (M_longestOf_L5 a1 a2 n v3 x7 s6))) else (if v3 < 0 then (nm (w32 (v4 + 1)) (fun x8 => (M_longestOf_L5 a1 a2 n v4 x8 s6))) else (rd 2235 (w32 ((w32 (49 + (w32 (8 * a1)))) + v4)) (s6 5 (Int.toNat (w32 ((w32 (49 + (w32 (8 * a1)))) + v4)))) (fun x9 => (rd 2235 (w32 ((w32 (49 + (w32 (8 * a1)))) + v3)) (s6 5 (Int.toNat (w32 ((w32 (49 + (w32 (8 * a1)))) + v3)))) (fun x10 => (if x10 < x9 then (nm (w32 (v4 + 1)) (fun x11 => (M_longestOf_L5 a1 a2 n v4 x11 s6))) else (nm (w32 (v4 + 1)) (fun x12 => (M_longestOf_L5 a1 a2 n v3 x12 s6))))))))))))))) else (some (v3, σ)))))
theorem ok_M_longestOf_L5 (a1 : Int) (a2 : Int) : ∀ (n : Nat) (v3 v4 : Int) (σ : Sg), G l Km Pm RX12 cX12_longestOf 5 0 3 5 [some (.inr (.inr 0)), some (.inl a1), some (.inl a2), some (.inl v3), some (.inl v4)] [] σ (M_longestOf_L5 a1 a2 n v3 v4 σ) := by
  intro n
  induction n with
  | zero => intros; exact G.none_
  | succ n ih =>
    intro v3 v4 σ
    rw [M_longestOf_L5]
    refine g_iload dX12_longestOf_5 rfl ?_
    refine g_aload_n dX12_longestOf_7 rfl rfl ?_
    refine g_getr' (q := 5) fl_RX12_35 km_0 (by decide) rfl dX12_longestOf_8 ?_
    refine g_iconst dX12_longestOf_11 (by decide) ?_
    refine g_iald km_5 dX12_longestOf_12 ?_
    intro x1
    refine g_icmpge (tgt := 80) dX12_longestOf_13 (by decide) ?_ ?_
    · refine g_aload_n dX12_longestOf_16 rfl rfl ?_
      refine g_iload_n dX12_longestOf_17 rfl rfl ?_
      refine g_iload dX12_longestOf_18 rfl ?_
      refine g_callv3 (st := []) 10 mw_X12_keeps lk_RX12_317 rfl km_0 (ok_M_keeps a1 v4 σ) (Nat.le_of_ble_eq_true rfl) rfl rfl (Nat.le_of_ble_eq_true rfl) dX12_longestOf_20 ?_
      intro r2 s3
      refine g_ifeq (tgt := 74) dX12_longestOf_23 (by decide) ?_ ?_
      · refine n_iinc (fun x4 => [some (.inr (.inr 0)), some (.inl a1), some (.inl a2), some (.inl v3), some (.inl x4)]) dX12_longestOf_74 rfl (Nat.le_of_ble_eq_true rfl) (fun _ => rfl) ?_
        intro x4
        refine g_goto (tgt := 5) dX12_longestOf_77 (by decide) ?_
        exact (ih v3 x4 s3)
      · refine g_iload_n dX12_longestOf_26 rfl rfl ?_
        refine g_iload dX12_longestOf_27 rfl ?_
        refine g_calls3 (st := []) mw_X12_has lk_RX12_106 (ok_M_has a2 v4 s3) (Nat.le_of_ble_eq_true rfl) rfl rfl (Nat.le_of_ble_eq_true rfl) dX12_longestOf_29 ?_
        intro r5 s6
        refine g_ifeq (tgt := 74) dX12_longestOf_32 (by decide) ?_ ?_
        · refine n_iinc (fun x7 => [some (.inr (.inr 0)), some (.inl a1), some (.inl a2), some (.inl v3), some (.inl x7)]) dX12_longestOf_74 rfl (Nat.le_of_ble_eq_true rfl) (fun _ => rfl) ?_
          intro x7
          refine g_goto (tgt := 5) dX12_longestOf_77 (by decide) ?_
          exact (ih v3 x7 s6)
        · refine g_iload_n dX12_longestOf_35 rfl rfl ?_
          refine g_iflt (tgt := 71) dX12_longestOf_36 (by decide) ?_ ?_
          · refine g_iload dX12_longestOf_71 rfl ?_
            refine g_istore_n (lv' := [some (.inr (.inr 0)), some (.inl a1), some (.inl a2), some (.inl v4), some (.inl v4)]) dX12_longestOf_73 rfl (Nat.le_of_ble_eq_true rfl) rfl ?_
            refine n_iinc (fun x8 => [some (.inr (.inr 0)), some (.inl a1), some (.inl a2), some (.inl v4), some (.inl x8)]) dX12_longestOf_74 rfl (Nat.le_of_ble_eq_true rfl) (fun _ => rfl) ?_
            intro x8
            refine g_goto (tgt := 5) dX12_longestOf_77 (by decide) ?_
            exact (ih v4 x8 s6)
          · refine g_aload_n dX12_longestOf_39 rfl rfl ?_
            refine g_getr' (q := 5) fl_RX12_35 km_0 (by decide) rfl dX12_longestOf_40 ?_
            refine g_bipush dX12_longestOf_43 (by decide) ?_
            refine g_bipush dX12_longestOf_45 (by decide) ?_
            refine g_iload_n dX12_longestOf_47 rfl rfl ?_
            refine g_imul dX12_longestOf_48 ?_
            refine g_iadd dX12_longestOf_49 ?_
            refine g_iload dX12_longestOf_50 rfl ?_
            refine g_iadd dX12_longestOf_52 ?_
            refine g_iald km_5 dX12_longestOf_53 ?_
            intro x9
            refine g_aload_n dX12_longestOf_54 rfl rfl ?_
            refine g_getr' (q := 5) fl_RX12_35 km_0 (by decide) rfl dX12_longestOf_55 ?_
            refine g_bipush dX12_longestOf_58 (by decide) ?_
            refine g_bipush dX12_longestOf_60 (by decide) ?_
            refine g_iload_n dX12_longestOf_62 rfl rfl ?_
            refine g_imul dX12_longestOf_63 ?_
            refine g_iadd dX12_longestOf_64 ?_
            refine g_iload_n dX12_longestOf_65 rfl rfl ?_
            refine g_iadd dX12_longestOf_66 ?_
            refine g_iald km_5 dX12_longestOf_67 ?_
            intro x10
            refine g_icmple (tgt := 74) dX12_longestOf_68 (by decide) ?_ ?_
            · refine g_iload dX12_longestOf_71 rfl ?_
              refine g_istore_n (lv' := [some (.inr (.inr 0)), some (.inl a1), some (.inl a2), some (.inl v4), some (.inl v4)]) dX12_longestOf_73 rfl (Nat.le_of_ble_eq_true rfl) rfl ?_
              refine n_iinc (fun x11 => [some (.inr (.inr 0)), some (.inl a1), some (.inl a2), some (.inl v4), some (.inl x11)]) dX12_longestOf_74 rfl (Nat.le_of_ble_eq_true rfl) (fun _ => rfl) ?_
              intro x11
              refine g_goto (tgt := 5) dX12_longestOf_77 (by decide) ?_
              exact (ih v4 x11 s6)
            · refine n_iinc (fun x12 => [some (.inr (.inr 0)), some (.inl a1), some (.inl a2), some (.inl v3), some (.inl x12)]) dX12_longestOf_74 rfl (Nat.le_of_ble_eq_true rfl) (fun _ => rfl) ?_
              intro x12
              refine g_goto (tgt := 5) dX12_longestOf_77 (by decide) ?_
              exact (ih v3 x12 s6)
    · refine g_iload_n dX12_longestOf_80 rfl rfl ?_
      exact g_iret dX12_longestOf_81
def M_longestOf (a1 : Int) (a2 : Int) (σ : Sg) : Rs := (M_longestOf_L5 a1 a2 fu (-1) 0 σ)
theorem ok_M_longestOf (a1 : Int) (a2 : Int) (σ : Sg) : MC l Km Pm yX12_longestOf cX12_longestOf 5 0 3 [.inr (.inr 0), .inl a1, .inl a2] σ (M_longestOf a1 a2 σ) := by
  refine mc_of (by decide) (Nat.le_of_ble_eq_true rfl) ?_
  change G l Km Pm RX12 cX12_longestOf 5 0 3 0 [some (.inr (.inr 0)), some (.inl a1), some (.inl a2), none, none] [] σ (M_longestOf a1 a2 σ)
  unfold M_longestOf
  refine g_iconst dX12_longestOf_0 (by decide) ?_
  refine g_istore_n (lv' := [some (.inr (.inr 0)), some (.inl a1), some (.inl a2), some (.inl (-1)), none]) dX12_longestOf_1 rfl (Nat.le_of_ble_eq_true rfl) rfl ?_
  refine g_iconst dX12_longestOf_2 (by decide) ?_
  refine g_istore (lv' := [some (.inr (.inr 0)), some (.inl a1), some (.inl a2), some (.inl (-1)), some (.inl 0)]) dX12_longestOf_3 (Nat.le_of_ble_eq_true rfl) rfl ?_
  refine (ok_M_longestOf_L5 a1 a2 fu (-1) 0 σ)
theorem dX12_knows_0 : decode cX12_knows 0 = .ok (.aload_n 0, 1) := by decide +kernel
theorem dX12_knows_1 : decode cX12_knows 1 = .ok (.getfield 35, 3) := by decide +kernel
theorem dX12_knows_4 : decode cX12_knows 4 = .ok (.bipush 37, 2) := by decide +kernel
theorem dX12_knows_6 : decode cX12_knows 6 = .ok (.iload_n 1, 1) := by decide +kernel
theorem dX12_knows_7 : decode cX12_knows 7 = .ok (.iadd, 1) := by decide +kernel
theorem dX12_knows_8 : decode cX12_knows 8 = .ok (.iaload, 1) := by decide +kernel
theorem dX12_knows_9 : decode cX12_knows 9 = .ok (.iload_n 2, 1) := by decide +kernel
theorem dX12_knows_10 : decode cX12_knows 10 = .ok (.invokestatic 106, 3) := by decide +kernel
theorem dX12_knows_13 : decode cX12_knows 13 = .ok (.ireturn, 1) := by decide +kernel
theorem mw_X12_knows : MW yX12_knows cX12_knows 3 3 2 false := ⟨tm 2082 (by decide +kernel) rfl, tm 249 (by decide +kernel) rfl, by decide, by decide, (by rw [if_neg (by decide)]; exact ⟨tm 2081 (by decide +kernel) rfl, tm 190 (by decide +kernel) rfl⟩)⟩
def M_knows (a1 : Int) (a2 : Int) (σ : Sg) : Rs := (rd 2235 (w32 (37 + a1)) (σ 5 (Int.toNat (w32 (37 + a1)))) (fun x1 => (bd (M_has x1 a2 σ) (fun r2 s3 => (zb r2 (some (r2, s3)))))))
theorem ok_M_knows (a1 : Int) (a2 : Int) (σ : Sg) : MC l Km Pm yX12_knows cX12_knows 3 3 2 [.inr (.inr 0), .inl a1, .inl a2] σ (M_knows a1 a2 σ) := by
  refine mc_of (by decide) (Nat.le_of_ble_eq_true rfl) ?_
  change G l Km Pm RX12 cX12_knows 3 3 2 0 [some (.inr (.inr 0)), some (.inl a1), some (.inl a2)] [] σ (M_knows a1 a2 σ)
  unfold M_knows
  refine g_aload_n dX12_knows_0 rfl rfl ?_
  refine g_getr' (q := 5) fl_RX12_35 km_0 (by decide) rfl dX12_knows_1 ?_
  refine g_bipush dX12_knows_4 (by decide) ?_
  refine g_iload_n dX12_knows_6 rfl rfl ?_
  refine g_iadd dX12_knows_7 ?_
  refine g_iald km_5 dX12_knows_8 ?_
  intro x1
  refine g_iload_n dX12_knows_9 rfl rfl ?_
  refine g_calls3 (st := []) mw_X12_has lk_RX12_106 (ok_M_has x1 a2 σ) (Nat.le_of_ble_eq_true rfl) rfl rfl (Nat.le_of_ble_eq_true rfl) dX12_knows_10 ?_
  intro r2 s3
  exact g_zret dX12_knows_13
theorem dX12_says_0 : decode cX12_says 0 = .ok (.iload_n 1, 1) := by decide +kernel
theorem dX12_says_1 : decode cX12_says 1 = .ok (.iload_n 3, 1) := by decide +kernel
theorem dX12_says_2 : decode cX12_says 2 = .ok (.if_icmp .eq 21, 3) := by decide +kernel
theorem dX12_says_5 : decode cX12_says 5 = .ok (.aload_n 0, 1) := by decide +kernel
theorem dX12_says_6 : decode cX12_says 6 = .ok (.iload_n 1, 1) := by decide +kernel
theorem dX12_says_7 : decode cX12_says 7 = .ok (.iload_n 2, 1) := by decide +kernel
theorem dX12_says_8 : decode cX12_says 8 = .ok (.invokevirtual 317, 3) := by decide +kernel
theorem dX12_says_11 : decode cX12_says 11 = .ok (.ifCond .eq 12, 3) := by decide +kernel
theorem dX12_says_14 : decode cX12_says 14 = .ok (.aload_n 0, 1) := by decide +kernel
theorem dX12_says_15 : decode cX12_says 15 = .ok (.iload_n 3, 1) := by decide +kernel
theorem dX12_says_16 : decode cX12_says 16 = .ok (.iload_n 2, 1) := by decide +kernel
theorem dX12_says_17 : decode cX12_says 17 = .ok (.invokevirtual 366, 3) := by decide +kernel
theorem dX12_says_20 : decode cX12_says 20 = .ok (.ifCond .eq 5, 3) := by decide +kernel
theorem dX12_says_23 : decode cX12_says 23 = .ok (.iconst 0, 1) := by decide +kernel
theorem dX12_says_24 : decode cX12_says 24 = .ok (.ireturn, 1) := by decide +kernel
theorem dX12_says_25 : decode cX12_says 25 = .ok (.aload_n 0, 1) := by decide +kernel
theorem dX12_says_26 : decode cX12_says 26 = .ok (.getfield 35, 3) := by decide +kernel
theorem dX12_says_29 : decode cX12_says 29 = .ok (.bipush 37, 2) := by decide +kernel
theorem dX12_says_31 : decode cX12_says 31 = .ok (.iload_n 3, 1) := by decide +kernel
theorem dX12_says_32 : decode cX12_says 32 = .ok (.iadd, 1) := by decide +kernel
theorem dX12_says_33 : decode cX12_says 33 = .ok (.dup2, 1) := by decide +kernel
theorem dX12_says_34 : decode cX12_says 34 = .ok (.iaload, 1) := by decide +kernel
theorem dX12_says_35 : decode cX12_says 35 = .ok (.iconst 1, 1) := by decide +kernel
theorem dX12_says_36 : decode cX12_says 36 = .ok (.iload_n 2, 1) := by decide +kernel
theorem dX12_says_37 : decode cX12_says 37 = .ok (.ishl, 1) := by decide +kernel
theorem dX12_says_38 : decode cX12_says 38 = .ok (.ior, 1) := by decide +kernel
theorem dX12_says_39 : decode cX12_says 39 = .ok (.iastore, 1) := by decide +kernel
theorem dX12_says_40 : decode cX12_says 40 = .ok (.aload_n 0, 1) := by decide +kernel
theorem dX12_says_41 : decode cX12_says 41 = .ok (.getfield 35, 3) := by decide +kernel
theorem dX12_says_44 : decode cX12_says 44 = .ok (.bipush 43, 2) := by decide +kernel
theorem dX12_says_46 : decode cX12_says 46 = .ok (.iload_n 1, 1) := by decide +kernel
theorem dX12_says_47 : decode cX12_says 47 = .ok (.iadd, 1) := by decide +kernel
theorem dX12_says_48 : decode cX12_says 48 = .ok (.dup2, 1) := by decide +kernel
theorem dX12_says_49 : decode cX12_says 49 = .ok (.iaload, 1) := by decide +kernel
theorem dX12_says_50 : decode cX12_says 50 = .ok (.iconst 1, 1) := by decide +kernel
theorem dX12_says_51 : decode cX12_says 51 = .ok (.iload_n 2, 1) := by decide +kernel
theorem dX12_says_52 : decode cX12_says 52 = .ok (.ishl, 1) := by decide +kernel
theorem dX12_says_53 : decode cX12_says 53 = .ok (.iconst (-1), 1) := by decide +kernel
theorem dX12_says_54 : decode cX12_says 54 = .ok (.ixor, 1) := by decide +kernel
theorem dX12_says_55 : decode cX12_says 55 = .ok (.iand, 1) := by decide +kernel
theorem dX12_says_56 : decode cX12_says 56 = .ok (.iastore, 1) := by decide +kernel
theorem dX12_says_57 : decode cX12_says 57 = .ok (.iconst 1, 1) := by decide +kernel
theorem dX12_says_58 : decode cX12_says 58 = .ok (.ireturn, 1) := by decide +kernel
theorem mw_X12_says : MW yX12_says cX12_says 4 3 3 false := ⟨tm 2078 (by decide +kernel) rfl, tm 249 (by decide +kernel) rfl, by decide, by decide, (by rw [if_neg (by decide)]; exact ⟨tm 2077 (by decide +kernel) rfl, tm 189 (by decide +kernel) rfl⟩)⟩
theorem lk_RX12_366 : LK RX12 366 yX12_knows := Or.inl (tm 2079 (by decide +kernel) rfl)
def M_says (a1 : Int) (a2 : Int) (a3 : Int) (σ : Sg) : Rs := (if a1 = a3 then (some (0, σ)) else (bd (M_keeps a1 a2 σ) (fun r1 s2 => (if r1 = 0 then (some (0, s2)) else (bd (M_knows a3 a2 s2) (fun r3 s4 => (if r3 = 0 then (rd 2235 (w32 (37 + a3)) (s4 5 (Int.toNat (w32 (37 + a3)))) (fun x5 => (wr 2235 (w32 (37 + a3)) (up_s s4 5 (Int.toNat (w32 (37 + a3))) (or32 x5 (sl32 1 a2))) (fun s6 => (rd 2235 (w32 (43 + a1)) (s6 5 (Int.toNat (w32 (43 + a1)))) (fun x7 => (wr 2235 (w32 (43 + a1)) (up_s s6 5 (Int.toNat (w32 (43 + a1))) (an32 x7 (xo32 (sl32 1 a2) (-1)))) (fun s8 => (some (1, s8)))))))))) else (some (0, s4)))))))))
theorem ok_M_says (a1 : Int) (a2 : Int) (a3 : Int) (σ : Sg) : MC l Km Pm yX12_says cX12_says 4 3 3 [.inr (.inr 0), .inl a1, .inl a2, .inl a3] σ (M_says a1 a2 a3 σ) := by
  refine mc_of (by decide) (Nat.le_of_ble_eq_true rfl) ?_
  change G l Km Pm RX12 cX12_says 4 3 3 0 [some (.inr (.inr 0)), some (.inl a1), some (.inl a2), some (.inl a3)] [] σ (M_says a1 a2 a3 σ)
  unfold M_says
  refine g_iload_n dX12_says_0 rfl rfl ?_
  refine g_iload_n dX12_says_1 rfl rfl ?_
  refine g_icmpeq (tgt := 23) dX12_says_2 (by decide) ?_ ?_
  · refine g_iconst dX12_says_23 (by decide) ?_
    exact g_zret0 dX12_says_24
  · refine g_aload_n dX12_says_5 rfl rfl ?_
    refine g_iload_n dX12_says_6 rfl rfl ?_
    refine g_iload_n dX12_says_7 rfl rfl ?_
    refine g_callv3 (st := []) 10 mw_X12_keeps lk_RX12_317 rfl km_0 (ok_M_keeps a1 a2 σ) (Nat.le_of_ble_eq_true rfl) rfl rfl (Nat.le_of_ble_eq_true rfl) dX12_says_8 ?_
    intro r1 s2
    refine g_ifeq (tgt := 23) dX12_says_11 (by decide) ?_ ?_
    · refine g_iconst dX12_says_23 (by decide) ?_
      exact g_zret0 dX12_says_24
    · refine g_aload_n dX12_says_14 rfl rfl ?_
      refine g_iload_n dX12_says_15 rfl rfl ?_
      refine g_iload_n dX12_says_16 rfl rfl ?_
      refine g_callv3 (st := []) 10 mw_X12_knows lk_RX12_366 rfl km_0 (ok_M_knows a3 a2 s2) (Nat.le_of_ble_eq_true rfl) rfl rfl (Nat.le_of_ble_eq_true rfl) dX12_says_17 ?_
      intro r3 s4
      refine g_ifeq (tgt := 25) dX12_says_20 (by decide) ?_ ?_
      · refine g_aload_n dX12_says_25 rfl rfl ?_
        refine g_getr' (q := 5) fl_RX12_35 km_0 (by decide) rfl dX12_says_26 ?_
        refine g_bipush dX12_says_29 (by decide) ?_
        refine g_iload_n dX12_says_31 rfl rfl ?_
        refine g_iadd dX12_says_32 ?_
        refine g_dup2 dX12_says_33 rfl rfl ?_
        refine g_iald km_5 dX12_says_34 ?_
        intro x5
        refine g_iconst dX12_says_35 (by decide) ?_
        refine g_iload_n dX12_says_36 rfl rfl ?_
        refine g_ishl dX12_says_37 ?_
        refine g_ior dX12_says_38 ?_
        refine g_iast km_5 dX12_says_39 ?_
        intro s6
        refine g_aload_n dX12_says_40 rfl rfl ?_
        refine g_getr' (q := 5) fl_RX12_35 km_0 (by decide) rfl dX12_says_41 ?_
        refine g_bipush dX12_says_44 (by decide) ?_
        refine g_iload_n dX12_says_46 rfl rfl ?_
        refine g_iadd dX12_says_47 ?_
        refine g_dup2 dX12_says_48 rfl rfl ?_
        refine g_iald km_5 dX12_says_49 ?_
        intro x7
        refine g_iconst dX12_says_50 (by decide) ?_
        refine g_iload_n dX12_says_51 rfl rfl ?_
        refine g_ishl dX12_says_52 ?_
        refine g_iconst dX12_says_53 (by decide) ?_
        refine g_ixor dX12_says_54 ?_
        refine g_iand dX12_says_55 ?_
        refine g_iast km_5 dX12_says_56 ?_
        intro s8
        refine g_iconst dX12_says_57 (by decide) ?_
        exact g_zret1 dX12_says_58
      · refine g_iconst dX12_says_23 (by decide) ?_
        exact g_zret0 dX12_says_24
theorem dX12_dines_0 : decode cX12_dines 0 = .ok (.aload_n 0, 1) := by decide +kernel
theorem dX12_dines_1 : decode cX12_dines 1 = .ok (.iload_n 1, 1) := by decide +kernel
theorem dX12_dines_2 : decode cX12_dines 2 = .ok (.invokevirtual 320, 3) := by decide +kernel
theorem dX12_dines_5 : decode cX12_dines 5 = .ok (.aload_n 0, 1) := by decide +kernel
theorem dX12_dines_6 : decode cX12_dines 6 = .ok (.getfield 35, 3) := by decide +kernel
theorem dX12_dines_9 : decode cX12_dines 9 = .ok (.bipush 25, 2) := by decide +kernel
theorem dX12_dines_11 : decode cX12_dines 11 = .ok (.iload_n 1, 1) := by decide +kernel
theorem dX12_dines_12 : decode cX12_dines 12 = .ok (.iadd, 1) := by decide +kernel
theorem dX12_dines_13 : decode cX12_dines 13 = .ok (.iaload, 1) := by decide +kernel
theorem dX12_dines_14 : decode cX12_dines 14 = .ok (.if_icmp .gt 5, 3) := by decide +kernel
theorem dX12_dines_17 : decode cX12_dines 17 = .ok (.iconst 0, 1) := by decide +kernel
theorem dX12_dines_18 : decode cX12_dines 18 = .ok (.ireturn, 1) := by decide +kernel
theorem dX12_dines_19 : decode cX12_dines 19 = .ok (.aload_n 0, 1) := by decide +kernel
theorem dX12_dines_20 : decode cX12_dines 20 = .ok (.iload_n 1, 1) := by decide +kernel
theorem dX12_dines_21 : decode cX12_dines 21 = .ok (.aload_n 0, 1) := by decide +kernel
theorem dX12_dines_22 : decode cX12_dines 22 = .ok (.getfield 35, 3) := by decide +kernel
theorem dX12_dines_25 : decode cX12_dines 25 = .ok (.bipush 37, 2) := by decide +kernel
theorem dX12_dines_27 : decode cX12_dines 27 = .ok (.iload_n 2, 1) := by decide +kernel
theorem dX12_dines_28 : decode cX12_dines 28 = .ok (.iadd, 1) := by decide +kernel
theorem dX12_dines_29 : decode cX12_dines 29 = .ok (.iaload, 1) := by decide +kernel
theorem dX12_dines_30 : decode cX12_dines 30 = .ok (.iconst (-1), 1) := by decide +kernel
theorem dX12_dines_31 : decode cX12_dines 31 = .ok (.ixor, 1) := by decide +kernel
theorem dX12_dines_32 : decode cX12_dines 32 = .ok (.invokevirtual 353, 3) := by decide +kernel
theorem dX12_dines_35 : decode cX12_dines 35 = .ok (.istore_n 3, 1) := by decide +kernel
theorem dX12_dines_36 : decode cX12_dines 36 = .ok (.iload_n 3, 1) := by decide +kernel
theorem dX12_dines_37 : decode cX12_dines 37 = .ok (.ifCond .lt 17, 3) := by decide +kernel
theorem dX12_dines_40 : decode cX12_dines 40 = .ok (.aload_n 0, 1) := by decide +kernel
theorem dX12_dines_41 : decode cX12_dines 41 = .ok (.iload_n 1, 1) := by decide +kernel
theorem dX12_dines_42 : decode cX12_dines 42 = .ok (.iload_n 3, 1) := by decide +kernel
theorem dX12_dines_43 : decode cX12_dines 43 = .ok (.iload_n 2, 1) := by decide +kernel
theorem dX12_dines_44 : decode cX12_dines 44 = .ok (.invokevirtual 369, 3) := by decide +kernel
theorem dX12_dines_47 : decode cX12_dines 47 = .ok (.ifCond .eq 7, 3) := by decide +kernel
theorem dX12_dines_50 : decode cX12_dines 50 = .ok (.iconst 1, 1) := by decide +kernel
theorem dX12_dines_51 : decode cX12_dines 51 = .ok (.goto 4, 3) := by decide +kernel
theorem dX12_dines_54 : decode cX12_dines 54 = .ok (.iconst 0, 1) := by decide +kernel
theorem dX12_dines_55 : decode cX12_dines 55 = .ok (.ireturn, 1) := by decide +kernel
theorem mw_X12_dines : MW yX12_dines cX12_dines 4 0 2 false := ⟨tm 2074 (by decide +kernel) rfl, tm 249 (by decide +kernel) rfl, by decide, by decide, (by rw [if_neg (by decide)]; exact ⟨tm 2073 (by decide +kernel) rfl, tm 188 (by decide +kernel) rfl⟩)⟩
theorem lk_RX12_353 : LK RX12 353 yX12_longestOf := Or.inl (tm 2043 (by decide +kernel) rfl)
theorem lk_RX12_369 : LK RX12 369 yX12_says := Or.inl (tm 2075 (by decide +kernel) rfl)
def M_dines (a1 : Int) (a2 : Int) (σ : Sg) : Rs := (bd (M_hairOf a1 σ) (fun r1 s2 => (rd 2235 (w32 (25 + a1)) (s2 5 (Int.toNat (w32 (25 + a1)))) (fun x3 => (if x3 < r1 then (rd 2235 (w32 (37 + a2)) (s2 5 (Int.toNat (w32 (37 + a2)))) (fun x4 => (bd (M_longestOf a1 (xo32 x4 (-1)) s2) (fun r5 s6 => (if r5 < 0 then (some (0, s6)) else (bd (M_says a1 r5 a2 s6) (fun r7 s8 => (if r7 = 0 then (some (0, s8)) else (some (1, s8)))))))))) else (some (0, s2)))))))
theorem ok_M_dines (a1 : Int) (a2 : Int) (σ : Sg) : MC l Km Pm yX12_dines cX12_dines 4 0 4 [.inr (.inr 0), .inl a1, .inl a2] σ (M_dines a1 a2 σ) := by
  refine mc_of (by decide) (Nat.le_of_ble_eq_true rfl) ?_
  change G l Km Pm RX12 cX12_dines 4 0 4 0 [some (.inr (.inr 0)), some (.inl a1), some (.inl a2), none] [] σ (M_dines a1 a2 σ)
  unfold M_dines
  refine g_aload_n dX12_dines_0 rfl rfl ?_
  refine g_iload_n dX12_dines_1 rfl rfl ?_
  refine g_callv0 (st := []) 10 mw_X12_hairOf lk_RX12_320 rfl km_0 (ok_M_hairOf a1 σ) (Nat.le_of_ble_eq_true rfl) rfl rfl (Nat.le_of_ble_eq_true rfl) dX12_dines_2 ?_
  intro r1 s2
  refine g_aload_n dX12_dines_5 rfl rfl ?_
  refine g_getr' (q := 5) fl_RX12_35 km_0 (by decide) rfl dX12_dines_6 ?_
  refine g_bipush dX12_dines_9 (by decide) ?_
  refine g_iload_n dX12_dines_11 rfl rfl ?_
  refine g_iadd dX12_dines_12 ?_
  refine g_iald km_5 dX12_dines_13 ?_
  intro x3
  refine g_icmpgt (tgt := 19) dX12_dines_14 (by decide) ?_ ?_
  · refine g_aload_n dX12_dines_19 rfl rfl ?_
    refine g_iload_n dX12_dines_20 rfl rfl ?_
    refine g_aload_n dX12_dines_21 rfl rfl ?_
    refine g_getr' (q := 5) fl_RX12_35 km_0 (by decide) rfl dX12_dines_22 ?_
    refine g_bipush dX12_dines_25 (by decide) ?_
    refine g_iload_n dX12_dines_27 rfl rfl ?_
    refine g_iadd dX12_dines_28 ?_
    refine g_iald km_5 dX12_dines_29 ?_
    intro x4
    refine g_iconst dX12_dines_30 (by decide) ?_
    refine g_ixor dX12_dines_31 ?_
    refine g_callv0 (st := []) 10 mw_X12_longestOf lk_RX12_353 rfl km_0 (ok_M_longestOf a1 (xo32 x4 (-1)) s2) (Nat.le_of_ble_eq_true rfl) rfl rfl (Nat.le_of_ble_eq_true rfl) dX12_dines_32 ?_
    intro r5 s6
    refine g_istore_n (lv' := [some (.inr (.inr 0)), some (.inl a1), some (.inl a2), some (.inl r5)]) dX12_dines_35 rfl (Nat.le_of_ble_eq_true rfl) rfl ?_
    refine g_iload_n dX12_dines_36 rfl rfl ?_
    refine g_iflt (tgt := 54) dX12_dines_37 (by decide) ?_ ?_
    · refine g_iconst dX12_dines_54 (by decide) ?_
      exact g_iret dX12_dines_55
    · refine g_aload_n dX12_dines_40 rfl rfl ?_
      refine g_iload_n dX12_dines_41 rfl rfl ?_
      refine g_iload_n dX12_dines_42 rfl rfl ?_
      refine g_iload_n dX12_dines_43 rfl rfl ?_
      refine g_callv3 (st := []) 10 mw_X12_says lk_RX12_369 rfl km_0 (ok_M_says a1 r5 a2 s6) (Nat.le_of_ble_eq_true rfl) rfl rfl (Nat.le_of_ble_eq_true rfl) dX12_dines_44 ?_
      intro r7 s8
      refine g_ifeq (tgt := 54) dX12_dines_47 (by decide) ?_ ?_
      · refine g_iconst dX12_dines_54 (by decide) ?_
        exact g_iret dX12_dines_55
      · refine g_iconst dX12_dines_50 (by decide) ?_
        refine g_goto (tgt := 55) dX12_dines_51 (by decide) ?_
        exact g_iret dX12_dines_55
  · refine g_iconst dX12_dines_17 (by decide) ?_
    exact g_iret dX12_dines_18
theorem dX12_grows_0 : decode cX12_grows 0 = .ok (.iconst 0, 1) := by decide +kernel
theorem dX12_grows_1 : decode cX12_grows 1 = .ok (.istore_n 2, 1) := by decide +kernel
theorem dX12_grows_2 : decode cX12_grows 2 = .ok (.iload_n 2, 1) := by decide +kernel
theorem dX12_grows_3 : decode cX12_grows 3 = .ok (.aload_n 0, 1) := by decide +kernel
theorem dX12_grows_4 : decode cX12_grows 4 = .ok (.getfield 35, 3) := by decide +kernel
theorem dX12_grows_7 : decode cX12_grows 7 = .ok (.iconst 0, 1) := by decide +kernel
theorem dX12_grows_8 : decode cX12_grows 8 = .ok (.iaload, 1) := by decide +kernel
theorem dX12_grows_9 : decode cX12_grows 9 = .ok (.if_icmp .ge 96, 3) := by decide +kernel
theorem dX12_grows_12 : decode cX12_grows 12 = .ok (.aload_n 0, 1) := by decide +kernel
theorem dX12_grows_13 : decode cX12_grows 13 = .ok (.iload_n 1, 1) := by decide +kernel
theorem dX12_grows_14 : decode cX12_grows 14 = .ok (.iload_n 2, 1) := by decide +kernel
theorem dX12_grows_15 : decode cX12_grows 15 = .ok (.invokevirtual 317, 3) := by decide +kernel
theorem dX12_grows_18 : decode cX12_grows 18 = .ok (.ifCond .ne 6, 3) := by decide +kernel
theorem dX12_grows_21 : decode cX12_grows 21 = .ok (.goto 78, 3) := by decide +kernel
theorem dX12_grows_24 : decode cX12_grows 24 = .ok (.bipush 8, 2) := by decide +kernel
theorem dX12_grows_26 : decode cX12_grows 26 = .ok (.iload_n 1, 1) := by decide +kernel
theorem dX12_grows_27 : decode cX12_grows 27 = .ok (.imul, 1) := by decide +kernel
theorem dX12_grows_28 : decode cX12_grows 28 = .ok (.iload_n 2, 1) := by decide +kernel
theorem dX12_grows_29 : decode cX12_grows 29 = .ok (.iadd, 1) := by decide +kernel
theorem dX12_grows_30 : decode cX12_grows 30 = .ok (.istore_n 3, 1) := by decide +kernel
theorem dX12_grows_31 : decode cX12_grows 31 = .ok (.aload_n 0, 1) := by decide +kernel
theorem dX12_grows_32 : decode cX12_grows 32 = .ok (.getfield 35, 3) := by decide +kernel
theorem dX12_grows_35 : decode cX12_grows 35 = .ok (.bipush 97, 2) := by decide +kernel
theorem dX12_grows_37 : decode cX12_grows 37 = .ok (.iload_n 3, 1) := by decide +kernel
theorem dX12_grows_38 : decode cX12_grows 38 = .ok (.iadd, 1) := by decide +kernel
theorem dX12_grows_39 : decode cX12_grows 39 = .ok (.iaload, 1) := by decide +kernel
theorem dX12_grows_40 : decode cX12_grows 40 = .ok (.aload_n 0, 1) := by decide +kernel
theorem dX12_grows_41 : decode cX12_grows 41 = .ok (.getfield 35, 3) := by decide +kernel
theorem dX12_grows_44 : decode cX12_grows 44 = .ok (.bipush 17, 2) := by decide +kernel
theorem dX12_grows_46 : decode cX12_grows 46 = .ok (.iload_n 2, 1) := by decide +kernel
theorem dX12_grows_47 : decode cX12_grows 47 = .ok (.iadd, 1) := by decide +kernel
theorem dX12_grows_48 : decode cX12_grows 48 = .ok (.iaload, 1) := by decide +kernel
theorem dX12_grows_49 : decode cX12_grows 49 = .ok (.if_icmp .ge 24, 3) := by decide +kernel
theorem dX12_grows_52 : decode cX12_grows 52 = .ok (.aload_n 0, 1) := by decide +kernel
theorem dX12_grows_53 : decode cX12_grows 53 = .ok (.getfield 35, 3) := by decide +kernel
theorem dX12_grows_56 : decode cX12_grows 56 = .ok (.bipush 49, 2) := by decide +kernel
theorem dX12_grows_58 : decode cX12_grows 58 = .ok (.iload_n 3, 1) := by decide +kernel
theorem dX12_grows_59 : decode cX12_grows 59 = .ok (.iadd, 1) := by decide +kernel
theorem dX12_grows_60 : decode cX12_grows 60 = .ok (.dup2, 1) := by decide +kernel
theorem dX12_grows_61 : decode cX12_grows 61 = .ok (.iaload, 1) := by decide +kernel
theorem dX12_grows_62 : decode cX12_grows 62 = .ok (.aload_n 0, 1) := by decide +kernel
theorem dX12_grows_63 : decode cX12_grows 63 = .ok (.getfield 35, 3) := by decide +kernel
theorem dX12_grows_66 : decode cX12_grows 66 = .ok (.bipush 9, 2) := by decide +kernel
theorem dX12_grows_68 : decode cX12_grows 68 = .ok (.iload_n 2, 1) := by decide +kernel
theorem dX12_grows_69 : decode cX12_grows 69 = .ok (.iadd, 1) := by decide +kernel
theorem dX12_grows_70 : decode cX12_grows 70 = .ok (.iaload, 1) := by decide +kernel
theorem dX12_grows_71 : decode cX12_grows 71 = .ok (.iadd, 1) := by decide +kernel
theorem dX12_grows_72 : decode cX12_grows 72 = .ok (.iastore, 1) := by decide +kernel
theorem dX12_grows_73 : decode cX12_grows 73 = .ok (.aload_n 0, 1) := by decide +kernel
theorem dX12_grows_74 : decode cX12_grows 74 = .ok (.getfield 35, 3) := by decide +kernel
theorem dX12_grows_77 : decode cX12_grows 77 = .ok (.bipush 97, 2) := by decide +kernel
theorem dX12_grows_79 : decode cX12_grows 79 = .ok (.iload_n 3, 1) := by decide +kernel
theorem dX12_grows_80 : decode cX12_grows 80 = .ok (.iadd, 1) := by decide +kernel
theorem dX12_grows_81 : decode cX12_grows 81 = .ok (.sipush 999, 3) := by decide +kernel
theorem dX12_grows_84 : decode cX12_grows 84 = .ok (.aload_n 0, 1) := by decide +kernel
theorem dX12_grows_85 : decode cX12_grows 85 = .ok (.getfield 35, 3) := by decide +kernel
theorem dX12_grows_88 : decode cX12_grows 88 = .ok (.bipush 97, 2) := by decide +kernel
theorem dX12_grows_90 : decode cX12_grows 90 = .ok (.iload_n 3, 1) := by decide +kernel
theorem dX12_grows_91 : decode cX12_grows 91 = .ok (.iadd, 1) := by decide +kernel
theorem dX12_grows_92 : decode cX12_grows 92 = .ok (.iaload, 1) := by decide +kernel
theorem dX12_grows_93 : decode cX12_grows 93 = .ok (.iconst 1, 1) := by decide +kernel
theorem dX12_grows_94 : decode cX12_grows 94 = .ok (.iadd, 1) := by decide +kernel
theorem dX12_grows_95 : decode cX12_grows 95 = .ok (.invokestatic 363, 3) := by decide +kernel
theorem dX12_grows_98 : decode cX12_grows 98 = .ok (.iastore, 1) := by decide +kernel
theorem dX12_grows_99 : decode cX12_grows 99 = .ok (.iinc 2 1, 3) := by decide +kernel
theorem dX12_grows_102 : decode cX12_grows 102 = .ok (.goto (-100), 3) := by decide +kernel
theorem dX12_grows_105 : decode cX12_grows 105 = .ok (.return_, 1) := by decide +kernel
theorem mw_X12_grows : MW yX12_grows cX12_grows 4 2 1 false := ⟨tm 2069 (by decide +kernel) rfl, tm 249 (by decide +kernel) rfl, by decide, by decide, (by rw [if_neg (by decide)]; exact ⟨tm 2068 (by decide +kernel) rfl, tm 187 (by decide +kernel) rfl⟩)⟩
theorem mx_RX12_363 : MX RX12 363 Lib.Math.min.name Lib.Math.min.code 2 (some .int) := ⟨tm 2070 (by decide +kernel) rfl, tm 800 (by decide +kernel) rfl, tm 251 (by decide +kernel) rfl, tm 801 (by decide +kernel) rfl⟩
def M_grows_J73 (a1 : Int) (v2 : Int) (v3 : Int) (k2 : Int → Sg → Rs) (σ : Sg) : Rs := (rd 2235 (w32 (97 + v3)) (σ 5 (Int.toNat (w32 (97 + v3)))) (fun x11 => (wr 2235 (w32 (97 + v3)) (up_s σ 5 (Int.toNat (w32 (97 + v3))) (min 999 (w32 (x11 + 1)))) (fun s12 => (nm (w32 (v2 + 1)) (fun x13 => (k2 x13 s12)))))))
theorem ok_M_grows_J73 (a1 : Int) (v2 : Int) (v3 : Int) (k2 : Int → Sg → Rs) (hk2 : ∀ (y2 : Int) (σ : Sg), G l Km Pm RX12 cX12_grows 4 2 3 2 [some (.inr (.inr 0)), some (.inl a1), some (.inl y2), none] [] σ (k2 y2 σ)) : ∀ (σ : Sg), G l Km Pm RX12 cX12_grows 4 2 3 73 [some (.inr (.inr 0)), some (.inl a1), some (.inl v2), some (.inl v3)] [] σ (M_grows_J73 a1 v2 v3 k2  σ) := by
  intro σ
  unfold M_grows_J73
  refine g_aload_n dX12_grows_73 rfl rfl ?_
  refine g_getr' (q := 5) fl_RX12_35 km_0 (by decide) rfl dX12_grows_74 ?_
  refine g_bipush dX12_grows_77 (by decide) ?_
  refine g_iload_n dX12_grows_79 rfl rfl ?_
  refine g_iadd dX12_grows_80 ?_
  refine g_sipush dX12_grows_81 (by decide) ?_
  refine g_aload_n dX12_grows_84 rfl rfl ?_
  refine g_getr' (q := 5) fl_RX12_35 km_0 (by decide) rfl dX12_grows_85 ?_
  refine g_bipush dX12_grows_88 (by decide) ?_
  refine g_iload_n dX12_grows_90 rfl rfl ?_
  refine g_iadd dX12_grows_91 ?_
  refine g_iald km_5 dX12_grows_92 ?_
  intro x11
  refine g_iconst dX12_grows_93 (by decide) ?_
  refine g_iadd dX12_grows_94 ?_
  refine g_mmin mx_RX12_363 (Nat.le_of_ble_eq_true rfl) (Nat.le_of_ble_eq_true rfl) dX12_grows_95 ?_
  refine g_iast km_5 dX12_grows_98 ?_
  intro s12
  refine n_iinc (fun x13 => [some (.inr (.inr 0)), some (.inl a1), some (.inl x13), some (.inl v3)]) dX12_grows_99 rfl (Nat.le_of_ble_eq_true rfl) (fun _ => rfl) ?_
  intro x13
  refine g_goto (tgt := 2) dX12_grows_102 (by decide) ?_
  exact (g_weak [true, true, true, false] (hk2 x13 s12))
def M_grows_L2 (a1 : Int) : Nat → Int → Sg → Rs
  | 0, _, _ => none
  | n + 1, v2, σ => (rd 2235 0 (σ 5 (Int.toNat 0)) (fun x1 => (if v2 < x1 then (bd (M_keeps a1 v2 σ) (fun r2 s3 => (if r2 = 0 then (nm (w32 (v2 + 1)) (fun x4 => (M_grows_L2 a1 n x4 s3))) else (nm (w32 ((w32 (8 * a1)) + v2)) (fun x5 => (rd 2235 (w32 (97 + x5)) (s3 5 (Int.toNat (w32 (97 + x5)))) (fun x6 => (rd 2235 (w32 (17 + v2)) (s3 5 (Int.toNat (w32 (17 + v2)))) (fun x7 => (if x6 < x7 then (rd 2235 (w32 (49 + x5)) (s3 5 (Int.toNat (w32 (49 + x5)))) (fun x8 => (rd 2235 (w32 (9 + v2)) (s3 5 (Int.toNat (w32 (9 + v2)))) (fun x9 => (wr 2235 (w32 (49 + x5)) (up_s s3 5 (Int.toNat (w32 (49 + x5))) (w32 (x8 + x9))) (fun s10 => (M_grows_J73 a1 v2 x5 (fun x14 s15 => (M_grows_L2 a1 n x14 s15)) s10))))))) else (M_grows_J73 a1 v2 x5 (fun x16 s17 => (M_grows_L2 a1 n x16 s17)) s3))))))))))) else (some (0, σ)))))
theorem ok_M_grows_L2 (a1 : Int) : ∀ (n : Nat) (v2 : Int) (σ : Sg), G l Km Pm RX12 cX12_grows 4 2 3 2 [some (.inr (.inr 0)), some (.inl a1), some (.inl v2), none] [] σ (M_grows_L2 a1 n v2 σ) := by
  intro n
  induction n with
  | zero => intros; exact G.none_
  | succ n ih =>
    intro v2 σ
    rw [M_grows_L2]
    refine g_iload_n dX12_grows_2 rfl rfl ?_
    refine g_aload_n dX12_grows_3 rfl rfl ?_
    refine g_getr' (q := 5) fl_RX12_35 km_0 (by decide) rfl dX12_grows_4 ?_
    refine g_iconst dX12_grows_7 (by decide) ?_
    refine g_iald km_5 dX12_grows_8 ?_
    intro x1
    refine g_icmpge (tgt := 105) dX12_grows_9 (by decide) ?_ ?_
    · refine g_aload_n dX12_grows_12 rfl rfl ?_
      refine g_iload_n dX12_grows_13 rfl rfl ?_
      refine g_iload_n dX12_grows_14 rfl rfl ?_
      refine g_callv3 (st := []) 10 mw_X12_keeps lk_RX12_317 rfl km_0 (ok_M_keeps a1 v2 σ) (Nat.le_of_ble_eq_true rfl) rfl rfl (Nat.le_of_ble_eq_true rfl) dX12_grows_15 ?_
      intro r2 s3
      refine g_ifne (tgt := 24) dX12_grows_18 (by decide) ?_ ?_
      · refine g_goto (tgt := 99) dX12_grows_21 (by decide) ?_
        refine n_iinc (fun x4 => [some (.inr (.inr 0)), some (.inl a1), some (.inl x4), none]) dX12_grows_99 rfl (Nat.le_of_ble_eq_true rfl) (fun _ => rfl) ?_
        intro x4
        refine g_goto (tgt := 2) dX12_grows_102 (by decide) ?_
        exact (ih x4 s3)
      · refine g_bipush dX12_grows_24 (by decide) ?_
        refine g_iload_n dX12_grows_26 rfl rfl ?_
        refine g_imul dX12_grows_27 ?_
        refine g_iload_n dX12_grows_28 rfl rfl ?_
        refine g_iadd dX12_grows_29 ?_
        refine n_istore_n (fun x5 => [some (.inr (.inr 0)), some (.inl a1), some (.inl v2), some (.inl x5)]) dX12_grows_30 rfl (Nat.le_of_ble_eq_true rfl) (fun _ => rfl) ?_
        intro x5
        refine g_aload_n dX12_grows_31 rfl rfl ?_
        refine g_getr' (q := 5) fl_RX12_35 km_0 (by decide) rfl dX12_grows_32 ?_
        refine g_bipush dX12_grows_35 (by decide) ?_
        refine g_iload_n dX12_grows_37 rfl rfl ?_
        refine g_iadd dX12_grows_38 ?_
        refine g_iald km_5 dX12_grows_39 ?_
        intro x6
        refine g_aload_n dX12_grows_40 rfl rfl ?_
        refine g_getr' (q := 5) fl_RX12_35 km_0 (by decide) rfl dX12_grows_41 ?_
        refine g_bipush dX12_grows_44 (by decide) ?_
        refine g_iload_n dX12_grows_46 rfl rfl ?_
        refine g_iadd dX12_grows_47 ?_
        refine g_iald km_5 dX12_grows_48 ?_
        intro x7
        refine g_icmpge (tgt := 73) dX12_grows_49 (by decide) ?_ ?_
        · refine g_aload_n dX12_grows_52 rfl rfl ?_
          refine g_getr' (q := 5) fl_RX12_35 km_0 (by decide) rfl dX12_grows_53 ?_
          refine g_bipush dX12_grows_56 (by decide) ?_
          refine g_iload_n dX12_grows_58 rfl rfl ?_
          refine g_iadd dX12_grows_59 ?_
          refine g_dup2 dX12_grows_60 rfl rfl ?_
          refine g_iald km_5 dX12_grows_61 ?_
          intro x8
          refine g_aload_n dX12_grows_62 rfl rfl ?_
          refine g_getr' (q := 5) fl_RX12_35 km_0 (by decide) rfl dX12_grows_63 ?_
          refine g_bipush dX12_grows_66 (by decide) ?_
          refine g_iload_n dX12_grows_68 rfl rfl ?_
          refine g_iadd dX12_grows_69 ?_
          refine g_iald km_5 dX12_grows_70 ?_
          intro x9
          refine g_iadd dX12_grows_71 ?_
          refine g_iast km_5 dX12_grows_72 ?_
          intro s10
          refine (ok_M_grows_J73 a1 v2 x5 _ ?_ s10)
          · intro x14 s15
            exact (ih x14 s15)
        · refine (ok_M_grows_J73 a1 v2 x5 _ ?_ s3)
          · intro x16 s17
            exact (ih x16 s17)
    · exact g_vret dX12_grows_105
def M_grows (a1 : Int) (σ : Sg) : Rs := (M_grows_L2 a1 fu 0 σ)
theorem ok_M_grows (a1 : Int) (σ : Sg) : MC l Km Pm yX12_grows cX12_grows 4 2 3 [.inr (.inr 0), .inl a1] σ (M_grows a1 σ) := by
  refine mc_of (by decide) (Nat.le_of_ble_eq_true rfl) ?_
  change G l Km Pm RX12 cX12_grows 4 2 3 0 [some (.inr (.inr 0)), some (.inl a1), none, none] [] σ (M_grows a1 σ)
  unfold M_grows
  refine g_iconst dX12_grows_0 (by decide) ?_
  refine g_istore_n (lv' := [some (.inr (.inr 0)), some (.inl a1), some (.inl 0), none]) dX12_grows_1 rfl (Nat.le_of_ble_eq_true rfl) rfl ?_
  refine (ok_M_grows_L2 a1 fu 0 σ)
theorem dX12_goesDay_0 : decode cX12_goesDay 0 = .ok (.iconst 0, 1) := by decide +kernel
theorem dX12_goesDay_1 : decode cX12_goesDay 1 = .ok (.istore_n 1, 1) := by decide +kernel
theorem dX12_goesDay_2 : decode cX12_goesDay 2 = .ok (.iload_n 1, 1) := by decide +kernel
theorem dX12_goesDay_3 : decode cX12_goesDay 3 = .ok (.aload_n 0, 1) := by decide +kernel
theorem dX12_goesDay_4 : decode cX12_goesDay 4 = .ok (.getfield 35, 3) := by decide +kernel
theorem dX12_goesDay_7 : decode cX12_goesDay 7 = .ok (.iconst 1, 1) := by decide +kernel
theorem dX12_goesDay_8 : decode cX12_goesDay 8 = .ok (.iaload, 1) := by decide +kernel
theorem dX12_goesDay_9 : decode cX12_goesDay 9 = .ok (.if_icmp .ge 14, 3) := by decide +kernel
theorem dX12_goesDay_12 : decode cX12_goesDay 12 = .ok (.aload_n 0, 1) := by decide +kernel
theorem dX12_goesDay_13 : decode cX12_goesDay 13 = .ok (.iload_n 1, 1) := by decide +kernel
theorem dX12_goesDay_14 : decode cX12_goesDay 14 = .ok (.invokevirtual 373, 3) := by decide +kernel
theorem dX12_goesDay_17 : decode cX12_goesDay 17 = .ok (.iinc 1 1, 3) := by decide +kernel
theorem dX12_goesDay_20 : decode cX12_goesDay 20 = .ok (.goto (-18), 3) := by decide +kernel
theorem dX12_goesDay_23 : decode cX12_goesDay 23 = .ok (.aload_n 0, 1) := by decide +kernel
theorem dX12_goesDay_24 : decode cX12_goesDay 24 = .ok (.getfield 35, 3) := by decide +kernel
theorem dX12_goesDay_27 : decode cX12_goesDay 27 = .ok (.bipush 6, 2) := by decide +kernel
theorem dX12_goesDay_29 : decode cX12_goesDay 29 = .ok (.dup2, 1) := by decide +kernel
theorem dX12_goesDay_30 : decode cX12_goesDay 30 = .ok (.iaload, 1) := by decide +kernel
theorem dX12_goesDay_31 : decode cX12_goesDay 31 = .ok (.iconst 1, 1) := by decide +kernel
theorem dX12_goesDay_32 : decode cX12_goesDay 32 = .ok (.iadd, 1) := by decide +kernel
theorem dX12_goesDay_33 : decode cX12_goesDay 33 = .ok (.iastore, 1) := by decide +kernel
theorem dX12_goesDay_34 : decode cX12_goesDay 34 = .ok (.iconst 0, 1) := by decide +kernel
theorem dX12_goesDay_35 : decode cX12_goesDay 35 = .ok (.istore_n 1, 1) := by decide +kernel
theorem dX12_goesDay_36 : decode cX12_goesDay 36 = .ok (.iconst 0, 1) := by decide +kernel
theorem dX12_goesDay_37 : decode cX12_goesDay 37 = .ok (.istore_n 2, 1) := by decide +kernel
theorem dX12_goesDay_38 : decode cX12_goesDay 38 = .ok (.iload_n 2, 1) := by decide +kernel
theorem dX12_goesDay_39 : decode cX12_goesDay 39 = .ok (.aload_n 0, 1) := by decide +kernel
theorem dX12_goesDay_40 : decode cX12_goesDay 40 = .ok (.getfield 35, 3) := by decide +kernel
theorem dX12_goesDay_43 : decode cX12_goesDay 43 = .ok (.iconst 2, 1) := by decide +kernel
theorem dX12_goesDay_44 : decode cX12_goesDay 44 = .ok (.iaload, 1) := by decide +kernel
theorem dX12_goesDay_45 : decode cX12_goesDay 45 = .ok (.if_icmp .ge 87, 3) := by decide +kernel
theorem dX12_goesDay_48 : decode cX12_goesDay 48 = .ok (.aload_n 0, 1) := by decide +kernel
theorem dX12_goesDay_49 : decode cX12_goesDay 49 = .ok (.getfield 35, 3) := by decide +kernel
theorem dX12_goesDay_52 : decode cX12_goesDay 52 = .ok (.bipush 6, 2) := by decide +kernel
theorem dX12_goesDay_54 : decode cX12_goesDay 54 = .ok (.iaload, 1) := by decide +kernel
theorem dX12_goesDay_55 : decode cX12_goesDay 55 = .ok (.aload_n 0, 1) := by decide +kernel
theorem dX12_goesDay_56 : decode cX12_goesDay 56 = .ok (.getfield 35, 3) := by decide +kernel
theorem dX12_goesDay_59 : decode cX12_goesDay 59 = .ok (.sipush 157, 3) := by decide +kernel
theorem dX12_goesDay_62 : decode cX12_goesDay 62 = .ok (.iload_n 2, 1) := by decide +kernel
theorem dX12_goesDay_63 : decode cX12_goesDay 63 = .ok (.iadd, 1) := by decide +kernel
theorem dX12_goesDay_64 : decode cX12_goesDay 64 = .ok (.iaload, 1) := by decide +kernel
theorem dX12_goesDay_65 : decode cX12_goesDay 65 = .ok (.irem, 1) := by decide +kernel
theorem dX12_goesDay_66 : decode cX12_goesDay 66 = .ok (.ifCond .eq 6, 3) := by decide +kernel
theorem dX12_goesDay_69 : decode cX12_goesDay 69 = .ok (.goto 57, 3) := by decide +kernel
theorem dX12_goesDay_72 : decode cX12_goesDay 72 = .ok (.iload_n 1, 1) := by decide +kernel
theorem dX12_goesDay_73 : decode cX12_goesDay 73 = .ok (.aload_n 0, 1) := by decide +kernel
theorem dX12_goesDay_74 : decode cX12_goesDay 74 = .ok (.aload_n 0, 1) := by decide +kernel
theorem dX12_goesDay_75 : decode cX12_goesDay 75 = .ok (.getfield 35, 3) := by decide +kernel
theorem dX12_goesDay_78 : decode cX12_goesDay 78 = .ok (.sipush 145, 3) := by decide +kernel
theorem dX12_goesDay_81 : decode cX12_goesDay 81 = .ok (.iload_n 2, 1) := by decide +kernel
theorem dX12_goesDay_82 : decode cX12_goesDay 82 = .ok (.iadd, 1) := by decide +kernel
theorem dX12_goesDay_83 : decode cX12_goesDay 83 = .ok (.iaload, 1) := by decide +kernel
theorem dX12_goesDay_84 : decode cX12_goesDay 84 = .ok (.aload_n 0, 1) := by decide +kernel
theorem dX12_goesDay_85 : decode cX12_goesDay 85 = .ok (.getfield 35, 3) := by decide +kernel
theorem dX12_goesDay_88 : decode cX12_goesDay 88 = .ok (.sipush 151, 3) := by decide +kernel
theorem dX12_goesDay_91 : decode cX12_goesDay 91 = .ok (.iload_n 2, 1) := by decide +kernel
theorem dX12_goesDay_92 : decode cX12_goesDay 92 = .ok (.iadd, 1) := by decide +kernel
theorem dX12_goesDay_93 : decode cX12_goesDay 93 = .ok (.iaload, 1) := by decide +kernel
theorem dX12_goesDay_94 : decode cX12_goesDay 94 = .ok (.invokevirtual 376, 3) := by decide +kernel
theorem dX12_goesDay_97 : decode cX12_goesDay 97 = .ok (.iadd, 1) := by decide +kernel
theorem dX12_goesDay_98 : decode cX12_goesDay 98 = .ok (.istore_n 1, 1) := by decide +kernel
theorem dX12_goesDay_99 : decode cX12_goesDay 99 = .ok (.iload_n 1, 1) := by decide +kernel
theorem dX12_goesDay_100 : decode cX12_goesDay 100 = .ok (.aload_n 0, 1) := by decide +kernel
theorem dX12_goesDay_101 : decode cX12_goesDay 101 = .ok (.aload_n 0, 1) := by decide +kernel
theorem dX12_goesDay_102 : decode cX12_goesDay 102 = .ok (.getfield 35, 3) := by decide +kernel
theorem dX12_goesDay_105 : decode cX12_goesDay 105 = .ok (.sipush 151, 3) := by decide +kernel
theorem dX12_goesDay_108 : decode cX12_goesDay 108 = .ok (.iload_n 2, 1) := by decide +kernel
theorem dX12_goesDay_109 : decode cX12_goesDay 109 = .ok (.iadd, 1) := by decide +kernel
theorem dX12_goesDay_110 : decode cX12_goesDay 110 = .ok (.iaload, 1) := by decide +kernel
theorem dX12_goesDay_111 : decode cX12_goesDay 111 = .ok (.aload_n 0, 1) := by decide +kernel
theorem dX12_goesDay_112 : decode cX12_goesDay 112 = .ok (.getfield 35, 3) := by decide +kernel
theorem dX12_goesDay_115 : decode cX12_goesDay 115 = .ok (.sipush 145, 3) := by decide +kernel
theorem dX12_goesDay_118 : decode cX12_goesDay 118 = .ok (.iload_n 2, 1) := by decide +kernel
theorem dX12_goesDay_119 : decode cX12_goesDay 119 = .ok (.iadd, 1) := by decide +kernel
theorem dX12_goesDay_120 : decode cX12_goesDay 120 = .ok (.iaload, 1) := by decide +kernel
theorem dX12_goesDay_121 : decode cX12_goesDay 121 = .ok (.invokevirtual 376, 3) := by decide +kernel
theorem dX12_goesDay_124 : decode cX12_goesDay 124 = .ok (.iadd, 1) := by decide +kernel
theorem dX12_goesDay_125 : decode cX12_goesDay 125 = .ok (.istore_n 1, 1) := by decide +kernel
theorem dX12_goesDay_126 : decode cX12_goesDay 126 = .ok (.iinc 2 1, 3) := by decide +kernel
theorem dX12_goesDay_129 : decode cX12_goesDay 129 = .ok (.goto (-91), 3) := by decide +kernel
theorem dX12_goesDay_132 : decode cX12_goesDay 132 = .ok (.aload_n 0, 1) := by decide +kernel
theorem dX12_goesDay_133 : decode cX12_goesDay 133 = .ok (.getfield 35, 3) := by decide +kernel
theorem dX12_goesDay_136 : decode cX12_goesDay 136 = .ok (.bipush 7, 2) := by decide +kernel
theorem dX12_goesDay_138 : decode cX12_goesDay 138 = .ok (.dup2, 1) := by decide +kernel
theorem dX12_goesDay_139 : decode cX12_goesDay 139 = .ok (.iaload, 1) := by decide +kernel
theorem dX12_goesDay_140 : decode cX12_goesDay 140 = .ok (.iload_n 1, 1) := by decide +kernel
theorem dX12_goesDay_141 : decode cX12_goesDay 141 = .ok (.iadd, 1) := by decide +kernel
theorem dX12_goesDay_142 : decode cX12_goesDay 142 = .ok (.iastore, 1) := by decide +kernel
theorem dX12_goesDay_143 : decode cX12_goesDay 143 = .ok (.iload_n 1, 1) := by decide +kernel
theorem dX12_goesDay_144 : decode cX12_goesDay 144 = .ok (.ireturn, 1) := by decide +kernel
theorem mw_X12_goesDay : MW yX12_goesDay cX12_goesDay 3 0 0 false := ⟨tm 2065 (by decide +kernel) rfl, tm 249 (by decide +kernel) rfl, by decide, by decide, (by rw [if_neg (by decide)]; exact ⟨tm 2064 (by decide +kernel) rfl, tm 186 (by decide +kernel) rfl⟩)⟩
theorem lk_RX12_373 : LK RX12 373 yX12_grows := Or.inl (tm 2066 (by decide +kernel) rfl)
theorem lk_RX12_376 : LK RX12 376 yX12_dines := Or.inl (tm 2071 (by decide +kernel) rfl)
def M_goesDay_L2 (k38 : Int → Int → Sg → Rs) : Nat → Int → Sg → Rs
  | 0, _, _ => none
  | n + 1, v1, σ => (rd 2235 1 (σ 5 (Int.toNat 1)) (fun x1 => (if v1 < x1 then (bd (M_grows v1 σ) (fun r2 s3 => (nm (w32 (v1 + 1)) (fun x4 => (M_goesDay_L2 k38 n x4 s3))))) else (rd 2235 6 (σ 5 (Int.toNat 6)) (fun x5 => (wr 2235 6 (up_s σ 5 (Int.toNat 6) (w32 (x5 + 1))) (fun s6 => (k38 0 0 s6))))))))
theorem ok_M_goesDay_L2 (k38 : Int → Int → Sg → Rs) (hk38 : ∀ (y1 y2 : Int) (σ : Sg), G l Km Pm RX12 cX12_goesDay 3 0 5 38 [some (.inr (.inr 0)), some (.inl y1), some (.inl y2)] [] σ (k38 y1 y2 σ)) : ∀ (n : Nat) (v1 : Int) (σ : Sg), G l Km Pm RX12 cX12_goesDay 3 0 5 2 [some (.inr (.inr 0)), some (.inl v1), none] [] σ (M_goesDay_L2 k38 n v1 σ) := by
  intro n
  induction n with
  | zero => intros; exact G.none_
  | succ n ih =>
    intro v1 σ
    rw [M_goesDay_L2]
    refine g_iload_n dX12_goesDay_2 rfl rfl ?_
    refine g_aload_n dX12_goesDay_3 rfl rfl ?_
    refine g_getr' (q := 5) fl_RX12_35 km_0 (by decide) rfl dX12_goesDay_4 ?_
    refine g_iconst dX12_goesDay_7 (by decide) ?_
    refine g_iald km_5 dX12_goesDay_8 ?_
    intro x1
    refine g_icmpge (tgt := 23) dX12_goesDay_9 (by decide) ?_ ?_
    · refine g_aload_n dX12_goesDay_12 rfl rfl ?_
      refine g_iload_n dX12_goesDay_13 rfl rfl ?_
      refine g_callv2 (st := []) 10 mw_X12_grows lk_RX12_373 rfl km_0 (ok_M_grows v1 σ) (Nat.le_of_ble_eq_true rfl) rfl rfl (Nat.le_of_ble_eq_true rfl) dX12_goesDay_14 ?_
      intro r2 s3
      refine n_iinc (fun x4 => [some (.inr (.inr 0)), some (.inl x4), none]) dX12_goesDay_17 rfl (Nat.le_of_ble_eq_true rfl) (fun _ => rfl) ?_
      intro x4
      refine g_goto (tgt := 2) dX12_goesDay_20 (by decide) ?_
      exact (ih x4 s3)
    · refine g_aload_n dX12_goesDay_23 rfl rfl ?_
      refine g_getr' (q := 5) fl_RX12_35 km_0 (by decide) rfl dX12_goesDay_24 ?_
      refine g_bipush dX12_goesDay_27 (by decide) ?_
      refine g_dup2 dX12_goesDay_29 rfl rfl ?_
      refine g_iald km_5 dX12_goesDay_30 ?_
      intro x5
      refine g_iconst dX12_goesDay_31 (by decide) ?_
      refine g_iadd dX12_goesDay_32 ?_
      refine g_iast km_5 dX12_goesDay_33 ?_
      intro s6
      refine g_iconst dX12_goesDay_34 (by decide) ?_
      refine g_istore_n (lv' := [some (.inr (.inr 0)), some (.inl 0), none]) dX12_goesDay_35 rfl (Nat.le_of_ble_eq_true rfl) rfl ?_
      refine g_iconst dX12_goesDay_36 (by decide) ?_
      refine g_istore_n (lv' := [some (.inr (.inr 0)), some (.inl 0), some (.inl 0)]) dX12_goesDay_37 rfl (Nat.le_of_ble_eq_true rfl) rfl ?_
      exact (hk38 0 0 s6)
def M_goesDay_L38  : Nat → Int → Int → Sg → Rs
  | 0, _, _, _ => none
  | n + 1, v1, v2, σ => (rd 2235 2 (σ 5 (Int.toNat 2)) (fun x10 => (if v2 < x10 then (rd 2235 6 (σ 5 (Int.toNat 6)) (fun x11 => (rd 2235 (w32 (157 + v2)) (σ 5 (Int.toNat (w32 (157 + v2)))) (fun x12 => (dv x12 (rm32 x11 x12) (fun x13 => (if x13 = 0 then (rd 2235 (w32 (145 + v2)) (σ 5 (Int.toNat (w32 (145 + v2)))) (fun x14 => (rd 2235 (w32 (151 + v2)) (σ 5 (Int.toNat (w32 (151 + v2)))) (fun x15 => (bd (M_dines x14 x15 σ) (fun r16 s17 => (nm (w32 (v1 + r16)) (fun x18 => (rd 2235 (w32 (151 + v2)) (s17 5 (Int.toNat (w32 (151 + v2)))) (fun x19 => (rd 2235 (w32 (145 + v2)) (s17 5 (Int.toNat (w32 (145 + v2)))) (fun x20 => (bd (M_dines x19 x20 s17) (fun r21 s22 => (nm (w32 (x18 + r21)) (fun x23 => (nm (w32 (v2 + 1)) (fun x24 => (M_goesDay_L38 n x23 x24 s22))))))))))))))))))) else (nm (w32 (v2 + 1)) (fun x25 => (M_goesDay_L38 n v1 x25 σ)))))))))) else (rd 2235 7 (σ 5 (Int.toNat 7)) (fun x26 => (wr 2235 7 (up_s σ 5 (Int.toNat 7) (w32 (x26 + v1))) (fun s27 => (some (v1, s27)))))))))
theorem ok_M_goesDay_L38 : ∀ (n : Nat) (v1 v2 : Int) (σ : Sg), G l Km Pm RX12 cX12_goesDay 3 0 5 38 [some (.inr (.inr 0)), some (.inl v1), some (.inl v2)] [] σ (M_goesDay_L38  n v1 v2 σ) := by
  intro n
  induction n with
  | zero => intros; exact G.none_
  | succ n ih =>
    intro v1 v2 σ
    rw [M_goesDay_L38]
    refine g_iload_n dX12_goesDay_38 rfl rfl ?_
    refine g_aload_n dX12_goesDay_39 rfl rfl ?_
    refine g_getr' (q := 5) fl_RX12_35 km_0 (by decide) rfl dX12_goesDay_40 ?_
    refine g_iconst dX12_goesDay_43 (by decide) ?_
    refine g_iald km_5 dX12_goesDay_44 ?_
    intro x10
    refine g_icmpge (tgt := 132) dX12_goesDay_45 (by decide) ?_ ?_
    · refine g_aload_n dX12_goesDay_48 rfl rfl ?_
      refine g_getr' (q := 5) fl_RX12_35 km_0 (by decide) rfl dX12_goesDay_49 ?_
      refine g_bipush dX12_goesDay_52 (by decide) ?_
      refine g_iald km_5 dX12_goesDay_54 ?_
      intro x11
      refine g_aload_n dX12_goesDay_55 rfl rfl ?_
      refine g_getr' (q := 5) fl_RX12_35 km_0 (by decide) rfl dX12_goesDay_56 ?_
      refine g_sipush dX12_goesDay_59 (by decide) ?_
      refine g_iload_n dX12_goesDay_62 rfl rfl ?_
      refine g_iadd dX12_goesDay_63 ?_
      refine g_iald km_5 dX12_goesDay_64 ?_
      intro x12
      refine g_irem dX12_goesDay_65 ?_
      intro x13
      refine g_ifeq (tgt := 72) dX12_goesDay_66 (by decide) ?_ ?_
      · refine g_iload_n dX12_goesDay_72 rfl rfl ?_
        refine g_aload_n dX12_goesDay_73 rfl rfl ?_
        refine g_aload_n dX12_goesDay_74 rfl rfl ?_
        refine g_getr' (q := 5) fl_RX12_35 km_0 (by decide) rfl dX12_goesDay_75 ?_
        refine g_sipush dX12_goesDay_78 (by decide) ?_
        refine g_iload_n dX12_goesDay_81 rfl rfl ?_
        refine g_iadd dX12_goesDay_82 ?_
        refine g_iald km_5 dX12_goesDay_83 ?_
        intro x14
        refine g_aload_n dX12_goesDay_84 rfl rfl ?_
        refine g_getr' (q := 5) fl_RX12_35 km_0 (by decide) rfl dX12_goesDay_85 ?_
        refine g_sipush dX12_goesDay_88 (by decide) ?_
        refine g_iload_n dX12_goesDay_91 rfl rfl ?_
        refine g_iadd dX12_goesDay_92 ?_
        refine g_iald km_5 dX12_goesDay_93 ?_
        intro x15
        refine g_callv0 (st := [.inl v1]) 10 mw_X12_dines lk_RX12_376 rfl km_0 (ok_M_dines x14 x15 σ) (Nat.le_of_ble_eq_true rfl) rfl rfl (Nat.le_of_ble_eq_true rfl) dX12_goesDay_94 ?_
        intro r16 s17
        refine g_iadd dX12_goesDay_97 ?_
        refine n_istore_n (fun x18 => [some (.inr (.inr 0)), some (.inl x18), some (.inl v2)]) dX12_goesDay_98 rfl (Nat.le_of_ble_eq_true rfl) (fun _ => rfl) ?_
        intro x18
        refine g_iload_n dX12_goesDay_99 rfl rfl ?_
        refine g_aload_n dX12_goesDay_100 rfl rfl ?_
        refine g_aload_n dX12_goesDay_101 rfl rfl ?_
        refine g_getr' (q := 5) fl_RX12_35 km_0 (by decide) rfl dX12_goesDay_102 ?_
        refine g_sipush dX12_goesDay_105 (by decide) ?_
        refine g_iload_n dX12_goesDay_108 rfl rfl ?_
        refine g_iadd dX12_goesDay_109 ?_
        refine g_iald km_5 dX12_goesDay_110 ?_
        intro x19
        refine g_aload_n dX12_goesDay_111 rfl rfl ?_
        refine g_getr' (q := 5) fl_RX12_35 km_0 (by decide) rfl dX12_goesDay_112 ?_
        refine g_sipush dX12_goesDay_115 (by decide) ?_
        refine g_iload_n dX12_goesDay_118 rfl rfl ?_
        refine g_iadd dX12_goesDay_119 ?_
        refine g_iald km_5 dX12_goesDay_120 ?_
        intro x20
        refine g_callv0 (st := [.inl x18]) 10 mw_X12_dines lk_RX12_376 rfl km_0 (ok_M_dines x19 x20 s17) (Nat.le_of_ble_eq_true rfl) rfl rfl (Nat.le_of_ble_eq_true rfl) dX12_goesDay_121 ?_
        intro r21 s22
        refine g_iadd dX12_goesDay_124 ?_
        refine n_istore_n (fun x23 => [some (.inr (.inr 0)), some (.inl x23), some (.inl v2)]) dX12_goesDay_125 rfl (Nat.le_of_ble_eq_true rfl) (fun _ => rfl) ?_
        intro x23
        refine n_iinc (fun x24 => [some (.inr (.inr 0)), some (.inl x23), some (.inl x24)]) dX12_goesDay_126 rfl (Nat.le_of_ble_eq_true rfl) (fun _ => rfl) ?_
        intro x24
        refine g_goto (tgt := 38) dX12_goesDay_129 (by decide) ?_
        exact (ih x23 x24 s22)
      · refine g_goto (tgt := 126) dX12_goesDay_69 (by decide) ?_
        refine n_iinc (fun x25 => [some (.inr (.inr 0)), some (.inl v1), some (.inl x25)]) dX12_goesDay_126 rfl (Nat.le_of_ble_eq_true rfl) (fun _ => rfl) ?_
        intro x25
        refine g_goto (tgt := 38) dX12_goesDay_129 (by decide) ?_
        exact (ih v1 x25 σ)
    · refine g_aload_n dX12_goesDay_132 rfl rfl ?_
      refine g_getr' (q := 5) fl_RX12_35 km_0 (by decide) rfl dX12_goesDay_133 ?_
      refine g_bipush dX12_goesDay_136 (by decide) ?_
      refine g_dup2 dX12_goesDay_138 rfl rfl ?_
      refine g_iald km_5 dX12_goesDay_139 ?_
      intro x26
      refine g_iload_n dX12_goesDay_140 rfl rfl ?_
      refine g_iadd dX12_goesDay_141 ?_
      refine g_iast km_5 dX12_goesDay_142 ?_
      intro s27
      refine g_iload_n dX12_goesDay_143 rfl rfl ?_
      exact g_iret dX12_goesDay_144
def M_goesDay  (σ : Sg) : Rs := (M_goesDay_L2 (fun x7 x8 s9 => (M_goesDay_L38 fu x7 x8 s9)) fu 0 σ)
theorem ok_M_goesDay (σ : Sg) : MC l Km Pm yX12_goesDay cX12_goesDay 3 0 5 [.inr (.inr 0)] σ (M_goesDay σ) := by
  refine mc_of (by decide) (Nat.le_of_ble_eq_true rfl) ?_
  change G l Km Pm RX12 cX12_goesDay 3 0 5 0 [some (.inr (.inr 0)), none, none] [] σ (M_goesDay  σ)
  unfold M_goesDay
  refine g_iconst dX12_goesDay_0 (by decide) ?_
  refine g_istore_n (lv' := [some (.inr (.inr 0)), some (.inl 0), none]) dX12_goesDay_1 rfl (Nat.le_of_ble_eq_true rfl) rfl ?_
  refine (ok_M_goesDay_L2 _ ?_ fu 0 σ)
  · intro x7 x8 s9
    refine (ok_M_goesDay_L38 fu x7 x8 s9)
theorem dX12_anyDays_0 : decode cX12_anyDays 0 = .ok (.aload_n 0, 1) := by decide +kernel
theorem dX12_anyDays_1 : decode cX12_anyDays 1 = .ok (.getfield 35, 3) := by decide +kernel
theorem dX12_anyDays_4 : decode cX12_anyDays 4 = .ok (.bipush 6, 2) := by decide +kernel
theorem dX12_anyDays_6 : decode cX12_anyDays 6 = .ok (.iaload, 1) := by decide +kernel
theorem dX12_anyDays_7 : decode cX12_anyDays 7 = .ok (.iload_n 1, 1) := by decide +kernel
theorem dX12_anyDays_8 : decode cX12_anyDays 8 = .ok (.iadd, 1) := by decide +kernel
theorem dX12_anyDays_9 : decode cX12_anyDays 9 = .ok (.sipush 9999, 3) := by decide +kernel
theorem dX12_anyDays_12 : decode cX12_anyDays 12 = .ok (.if_icmp .le 5, 3) := by decide +kernel
theorem dX12_anyDays_15 : decode cX12_anyDays 15 = .ok (.iconst 0, 1) := by decide +kernel
theorem dX12_anyDays_16 : decode cX12_anyDays 16 = .ok (.ireturn, 1) := by decide +kernel
theorem dX12_anyDays_17 : decode cX12_anyDays 17 = .ok (.iconst 0, 1) := by decide +kernel
theorem dX12_anyDays_18 : decode cX12_anyDays 18 = .ok (.istore_n 2, 1) := by decide +kernel
theorem dX12_anyDays_19 : decode cX12_anyDays 19 = .ok (.iload_n 2, 1) := by decide +kernel
theorem dX12_anyDays_20 : decode cX12_anyDays 20 = .ok (.iload_n 1, 1) := by decide +kernel
theorem dX12_anyDays_21 : decode cX12_anyDays 21 = .ok (.if_icmp .ge 22, 3) := by decide +kernel
theorem dX12_anyDays_24 : decode cX12_anyDays 24 = .ok (.aload_n 0, 1) := by decide +kernel
theorem dX12_anyDays_25 : decode cX12_anyDays 25 = .ok (.dup, 1) := by decide +kernel
theorem dX12_anyDays_26 : decode cX12_anyDays 26 = .ok (.getfield 521, 3) := by decide +kernel
theorem dX12_anyDays_29 : decode cX12_anyDays 29 = .ok (.aload_n 0, 1) := by decide +kernel
theorem dX12_anyDays_30 : decode cX12_anyDays 30 = .ok (.invokevirtual 381, 3) := by decide +kernel
theorem dX12_anyDays_33 : decode cX12_anyDays 33 = .ok (.iadd, 1) := by decide +kernel
theorem dX12_anyDays_34 : decode cX12_anyDays 34 = .ok (.putfield 521, 3) := by decide +kernel
theorem dX12_anyDays_37 : decode cX12_anyDays 37 = .ok (.iinc 2 1, 3) := by decide +kernel
theorem dX12_anyDays_40 : decode cX12_anyDays 40 = .ok (.goto (-21), 3) := by decide +kernel
theorem dX12_anyDays_43 : decode cX12_anyDays 43 = .ok (.aload_n 0, 1) := by decide +kernel
theorem dX12_anyDays_44 : decode cX12_anyDays 44 = .ok (.dup, 1) := by decide +kernel
theorem dX12_anyDays_45 : decode cX12_anyDays 45 = .ok (.getfield 524, 3) := by decide +kernel
theorem dX12_anyDays_48 : decode cX12_anyDays 48 = .ok (.iload_n 1, 1) := by decide +kernel
theorem dX12_anyDays_49 : decode cX12_anyDays 49 = .ok (.iadd, 1) := by decide +kernel
theorem dX12_anyDays_50 : decode cX12_anyDays 50 = .ok (.putfield 524, 3) := by decide +kernel
theorem dX12_anyDays_53 : decode cX12_anyDays 53 = .ok (.iconst 1, 1) := by decide +kernel
theorem dX12_anyDays_54 : decode cX12_anyDays 54 = .ok (.ireturn, 1) := by decide +kernel
theorem mw_X12_anyDays : MW yX12_anyDays cX12_anyDays 3 3 1 false := ⟨tm 2382 (by decide +kernel) rfl, tm 249 (by decide +kernel) rfl, by decide, by decide, (by rw [if_neg (by decide)]; exact ⟨tm 2381 (by decide +kernel) rfl, tm 228 (by decide +kernel) rfl⟩)⟩
theorem lk_RX12_381 : LK RX12 381 yX12_goesDay := Or.inl (tm 2062 (by decide +kernel) rfl)
theorem fl_RX12_521 : FL RX12 521 10 41 := ⟨_, _, _, _, cw_10, by decide, Or.inl (by decide), Or.inr (by decide), Or.inl (tm 1609 (by decide +kernel) rfl)⟩
theorem fl_RX12_524 : FL RX12 524 10 40 := ⟨_, _, _, _, cw_10, by decide, Or.inl (by decide), Or.inr (by decide), Or.inl (tm 1608 (by decide +kernel) rfl)⟩
def M_anyDays_L19 (a1 : Int) : Nat → Int → Sg → Rs
  | 0, _, _ => none
  | n + 1, v2, σ => (if v2 < a1 then (bd (M_goesDay σ) (fun r2 s3 => (nm (up_s s3 0 41 (w32 ((σ 0 41) + r2))) (fun s4 => (nm (w32 (v2 + 1)) (fun x5 => (M_anyDays_L19 a1 n x5 s4))))))) else (nm (up_s σ 0 40 (w32 ((σ 0 40) + a1))) (fun s6 => (some (1, s6)))))
theorem ok_M_anyDays_L19 (a1 : Int) : ∀ (n : Nat) (v2 : Int) (σ : Sg), G l Km Pm RX12 cX12_anyDays 3 3 6 19 [some (.inr (.inr 0)), some (.inl a1), some (.inl v2)] [] σ (M_anyDays_L19 a1 n v2 σ) := by
  intro n
  induction n with
  | zero => intros; exact G.none_
  | succ n ih =>
    intro v2 σ
    rw [M_anyDays_L19]
    refine g_iload_n dX12_anyDays_19 rfl rfl ?_
    refine g_iload_n dX12_anyDays_20 rfl rfl ?_
    refine g_icmpge (tgt := 43) dX12_anyDays_21 (by decide) ?_ ?_
    · refine g_aload_n dX12_anyDays_24 rfl rfl ?_
      refine g_dup dX12_anyDays_25 rfl ?_
      refine g_geti fl_RX12_521 km_0 (by decide) dX12_anyDays_26 ?_
      refine g_aload_n dX12_anyDays_29 rfl rfl ?_
      refine g_callv0 (st := [.inl (σ 0 41), .inr (.inr 0)]) 10 mw_X12_goesDay lk_RX12_381 rfl km_0 (ok_M_goesDay σ) (Nat.le_of_ble_eq_true rfl) rfl rfl (Nat.le_of_ble_eq_true rfl) dX12_anyDays_30 ?_
      intro r2 s3
      refine g_iadd dX12_anyDays_33 ?_
      refine g_puti fl_RX12_521 km_0 (by decide) dX12_anyDays_34 ?_
      intro s4
      refine n_iinc (fun x5 => [some (.inr (.inr 0)), some (.inl a1), some (.inl x5)]) dX12_anyDays_37 rfl (Nat.le_of_ble_eq_true rfl) (fun _ => rfl) ?_
      intro x5
      refine g_goto (tgt := 19) dX12_anyDays_40 (by decide) ?_
      exact (ih x5 s4)
    · refine g_aload_n dX12_anyDays_43 rfl rfl ?_
      refine g_dup dX12_anyDays_44 rfl ?_
      refine g_geti fl_RX12_524 km_0 (by decide) dX12_anyDays_45 ?_
      refine g_iload_n dX12_anyDays_48 rfl rfl ?_
      refine g_iadd dX12_anyDays_49 ?_
      refine g_puti fl_RX12_524 km_0 (by decide) dX12_anyDays_50 ?_
      intro s6
      refine g_iconst dX12_anyDays_53 (by decide) ?_
      exact g_zret1 dX12_anyDays_54
def M_anyDays (a1 : Int) (σ : Sg) : Rs := (rd 2235 6 (σ 5 (Int.toNat 6)) (fun x1 => (if 9999 < (w32 (x1 + a1)) then (some (0, σ)) else (M_anyDays_L19 a1 fu 0 σ))))
theorem ok_M_anyDays (a1 : Int) (σ : Sg) : MC l Km Pm yX12_anyDays cX12_anyDays 3 3 6 [.inr (.inr 0), .inl a1] σ (M_anyDays a1 σ) := by
  refine mc_of (by decide) (Nat.le_of_ble_eq_true rfl) ?_
  change G l Km Pm RX12 cX12_anyDays 3 3 6 0 [some (.inr (.inr 0)), some (.inl a1), none] [] σ (M_anyDays a1 σ)
  unfold M_anyDays
  refine g_aload_n dX12_anyDays_0 rfl rfl ?_
  refine g_getr' (q := 5) fl_RX12_35 km_0 (by decide) rfl dX12_anyDays_1 ?_
  refine g_bipush dX12_anyDays_4 (by decide) ?_
  refine g_iald km_5 dX12_anyDays_6 ?_
  intro x1
  refine g_iload_n dX12_anyDays_7 rfl rfl ?_
  refine g_iadd dX12_anyDays_8 ?_
  refine g_sipush dX12_anyDays_9 (by decide) ?_
  refine g_icmple (tgt := 17) dX12_anyDays_12 (by decide) ?_ ?_
  · refine g_iconst dX12_anyDays_15 (by decide) ?_
    exact g_zret0 dX12_anyDays_16
  · refine g_iconst dX12_anyDays_17 (by decide) ?_
    refine g_istore_n (lv' := [some (.inr (.inr 0)), some (.inl a1), some (.inl 0)]) dX12_anyDays_18 rfl (Nat.le_of_ble_eq_true rfl) rfl ?_
    refine (ok_M_anyDays_L19 a1 fu 0 σ)
theorem dX12_dinesWith_0 : decode cX12_dinesWith 0 = .ok (.aload_n 0, 1) := by decide +kernel
theorem dX12_dinesWith_1 : decode cX12_dinesWith 1 = .ok (.getfield 35, 3) := by decide +kernel
theorem dX12_dinesWith_4 : decode cX12_dinesWith 4 = .ok (.sipush 145, 3) := by decide +kernel
theorem dX12_dinesWith_7 : decode cX12_dinesWith 7 = .ok (.iload_n 1, 1) := by decide +kernel
theorem dX12_dinesWith_8 : decode cX12_dinesWith 8 = .ok (.iadd, 1) := by decide +kernel
theorem dX12_dinesWith_9 : decode cX12_dinesWith 9 = .ok (.iaload, 1) := by decide +kernel
theorem dX12_dinesWith_10 : decode cX12_dinesWith 10 = .ok (.iload_n 2, 1) := by decide +kernel
theorem dX12_dinesWith_11 : decode cX12_dinesWith 11 = .ok (.if_icmp .eq 17, 3) := by decide +kernel
theorem dX12_dinesWith_14 : decode cX12_dinesWith 14 = .ok (.aload_n 0, 1) := by decide +kernel
theorem dX12_dinesWith_15 : decode cX12_dinesWith 15 = .ok (.getfield 35, 3) := by decide +kernel
theorem dX12_dinesWith_18 : decode cX12_dinesWith 18 = .ok (.sipush 151, 3) := by decide +kernel
theorem dX12_dinesWith_21 : decode cX12_dinesWith 21 = .ok (.iload_n 1, 1) := by decide +kernel
theorem dX12_dinesWith_22 : decode cX12_dinesWith 22 = .ok (.iadd, 1) := by decide +kernel
theorem dX12_dinesWith_23 : decode cX12_dinesWith 23 = .ok (.iaload, 1) := by decide +kernel
theorem dX12_dinesWith_24 : decode cX12_dinesWith 24 = .ok (.iload_n 2, 1) := by decide +kernel
theorem dX12_dinesWith_25 : decode cX12_dinesWith 25 = .ok (.if_icmp .ne 7, 3) := by decide +kernel
theorem dX12_dinesWith_28 : decode cX12_dinesWith 28 = .ok (.iconst 1, 1) := by decide +kernel
theorem dX12_dinesWith_29 : decode cX12_dinesWith 29 = .ok (.goto 4, 3) := by decide +kernel
theorem dX12_dinesWith_32 : decode cX12_dinesWith 32 = .ok (.iconst 0, 1) := by decide +kernel
theorem dX12_dinesWith_33 : decode cX12_dinesWith 33 = .ok (.ireturn, 1) := by decide +kernel
theorem mw_X12_dinesWith : MW yX12_dinesWith cX12_dinesWith 3 3 2 false := ⟨tm 2181 (by decide +kernel) rfl, tm 249 (by decide +kernel) rfl, by decide, by decide, (by rw [if_neg (by decide)]; exact ⟨tm 2180 (by decide +kernel) rfl, tm 197 (by decide +kernel) rfl⟩)⟩
def M_dinesWith (a1 : Int) (a2 : Int) (σ : Sg) : Rs := (rd 2235 (w32 (145 + a1)) (σ 5 (Int.toNat (w32 (145 + a1)))) (fun x1 => (if x1 = a2 then (some (1, σ)) else (rd 2235 (w32 (151 + a1)) (σ 5 (Int.toNat (w32 (151 + a1)))) (fun x2 => (if x2 = a2 then (some (1, σ)) else (some (0, σ))))))))
theorem ok_M_dinesWith (a1 : Int) (a2 : Int) (σ : Sg) : MC l Km Pm yX12_dinesWith cX12_dinesWith 3 3 1 [.inr (.inr 0), .inl a1, .inl a2] σ (M_dinesWith a1 a2 σ) := by
  refine mc_of (by decide) (Nat.le_of_ble_eq_true rfl) ?_
  change G l Km Pm RX12 cX12_dinesWith 3 3 1 0 [some (.inr (.inr 0)), some (.inl a1), some (.inl a2)] [] σ (M_dinesWith a1 a2 σ)
  unfold M_dinesWith
  refine g_aload_n dX12_dinesWith_0 rfl rfl ?_
  refine g_getr' (q := 5) fl_RX12_35 km_0 (by decide) rfl dX12_dinesWith_1 ?_
  refine g_sipush dX12_dinesWith_4 (by decide) ?_
  refine g_iload_n dX12_dinesWith_7 rfl rfl ?_
  refine g_iadd dX12_dinesWith_8 ?_
  refine g_iald km_5 dX12_dinesWith_9 ?_
  intro x1
  refine g_iload_n dX12_dinesWith_10 rfl rfl ?_
  refine g_icmpeq (tgt := 28) dX12_dinesWith_11 (by decide) ?_ ?_
  · refine g_iconst dX12_dinesWith_28 (by decide) ?_
    refine g_goto (tgt := 33) dX12_dinesWith_29 (by decide) ?_
    exact g_zret1 dX12_dinesWith_33
  · refine g_aload_n dX12_dinesWith_14 rfl rfl ?_
    refine g_getr' (q := 5) fl_RX12_35 km_0 (by decide) rfl dX12_dinesWith_15 ?_
    refine g_sipush dX12_dinesWith_18 (by decide) ?_
    refine g_iload_n dX12_dinesWith_21 rfl rfl ?_
    refine g_iadd dX12_dinesWith_22 ?_
    refine g_iald km_5 dX12_dinesWith_23 ?_
    intro x2
    refine g_iload_n dX12_dinesWith_24 rfl rfl ?_
    refine g_icmpne (tgt := 32) dX12_dinesWith_25 (by decide) ?_ ?_
    · refine g_iconst dX12_dinesWith_28 (by decide) ?_
      refine g_goto (tgt := 33) dX12_dinesWith_29 (by decide) ?_
      exact g_zret1 dX12_dinesWith_33
    · refine g_iconst dX12_dinesWith_32 (by decide) ?_
      exact g_zret0 dX12_dinesWith_33
theorem dX12_areDining_0 : decode cX12_areDining 0 = .ok (.iconst 0, 1) := by decide +kernel
theorem dX12_areDining_1 : decode cX12_areDining 1 = .ok (.istore_n 3, 1) := by decide +kernel
theorem dX12_areDining_2 : decode cX12_areDining 2 = .ok (.iload_n 3, 1) := by decide +kernel
theorem dX12_areDining_3 : decode cX12_areDining 3 = .ok (.aload_n 0, 1) := by decide +kernel
theorem dX12_areDining_4 : decode cX12_areDining 4 = .ok (.getfield 35, 3) := by decide +kernel
theorem dX12_areDining_7 : decode cX12_areDining 7 = .ok (.iconst 2, 1) := by decide +kernel
theorem dX12_areDining_8 : decode cX12_areDining 8 = .ok (.iaload, 1) := by decide +kernel
theorem dX12_areDining_9 : decode cX12_areDining 9 = .ok (.if_icmp .ge 34, 3) := by decide +kernel
theorem dX12_areDining_12 : decode cX12_areDining 12 = .ok (.aload_n 0, 1) := by decide +kernel
theorem dX12_areDining_13 : decode cX12_areDining 13 = .ok (.iload_n 3, 1) := by decide +kernel
theorem dX12_areDining_14 : decode cX12_areDining 14 = .ok (.iload_n 1, 1) := by decide +kernel
theorem dX12_areDining_15 : decode cX12_areDining 15 = .ok (.invokevirtual 418, 3) := by decide +kernel
theorem dX12_areDining_18 : decode cX12_areDining 18 = .ok (.ifCond .eq 19, 3) := by decide +kernel
theorem dX12_areDining_21 : decode cX12_areDining 21 = .ok (.aload_n 0, 1) := by decide +kernel
theorem dX12_areDining_22 : decode cX12_areDining 22 = .ok (.iload_n 3, 1) := by decide +kernel
theorem dX12_areDining_23 : decode cX12_areDining 23 = .ok (.iload_n 2, 1) := by decide +kernel
theorem dX12_areDining_24 : decode cX12_areDining 24 = .ok (.invokevirtual 418, 3) := by decide +kernel
theorem dX12_areDining_27 : decode cX12_areDining 27 = .ok (.ifCond .eq 10, 3) := by decide +kernel
theorem dX12_areDining_30 : decode cX12_areDining 30 = .ok (.iload_n 1, 1) := by decide +kernel
theorem dX12_areDining_31 : decode cX12_areDining 31 = .ok (.iload_n 2, 1) := by decide +kernel
theorem dX12_areDining_32 : decode cX12_areDining 32 = .ok (.if_icmp .eq 5, 3) := by decide +kernel
theorem dX12_areDining_35 : decode cX12_areDining 35 = .ok (.iconst 1, 1) := by decide +kernel
theorem dX12_areDining_36 : decode cX12_areDining 36 = .ok (.ireturn, 1) := by decide +kernel
theorem dX12_areDining_37 : decode cX12_areDining 37 = .ok (.iinc 3 1, 3) := by decide +kernel
theorem dX12_areDining_40 : decode cX12_areDining 40 = .ok (.goto (-38), 3) := by decide +kernel
theorem dX12_areDining_43 : decode cX12_areDining 43 = .ok (.iconst 0, 1) := by decide +kernel
theorem dX12_areDining_44 : decode cX12_areDining 44 = .ok (.ireturn, 1) := by decide +kernel
theorem mw_X12_areDining : MW yX12_areDining cX12_areDining 4 3 2 false := ⟨tm 2311 (by decide +kernel) rfl, tm 249 (by decide +kernel) rfl, by decide, by decide, (by rw [if_neg (by decide)]; exact ⟨tm 2310 (by decide +kernel) rfl, tm 217 (by decide +kernel) rfl⟩)⟩
theorem lk_RX12_418 : LK RX12 418 yX12_dinesWith := Or.inl (tm 2178 (by decide +kernel) rfl)
def M_areDining_L2 (a1 : Int) (a2 : Int) : Nat → Int → Sg → Rs
  | 0, _, _ => none
  | n + 1, v3, σ => (rd 2235 2 (σ 5 (Int.toNat 2)) (fun x1 => (if v3 < x1 then (bd (M_dinesWith v3 a1 σ) (fun r2 s3 => (if r2 = 0 then (nm (w32 (v3 + 1)) (fun x4 => (M_areDining_L2 a1 a2 n x4 s3))) else (bd (M_dinesWith v3 a2 s3) (fun r5 s6 => (if r5 = 0 then (nm (w32 (v3 + 1)) (fun x7 => (M_areDining_L2 a1 a2 n x7 s6))) else (if a1 = a2 then (nm (w32 (v3 + 1)) (fun x8 => (M_areDining_L2 a1 a2 n x8 s6))) else (some (1, s6))))))))) else (some (0, σ)))))
theorem ok_M_areDining_L2 (a1 : Int) (a2 : Int) : ∀ (n : Nat) (v3 : Int) (σ : Sg), G l Km Pm RX12 cX12_areDining 4 3 2 2 [some (.inr (.inr 0)), some (.inl a1), some (.inl a2), some (.inl v3)] [] σ (M_areDining_L2 a1 a2 n v3 σ) := by
  intro n
  induction n with
  | zero => intros; exact G.none_
  | succ n ih =>
    intro v3 σ
    rw [M_areDining_L2]
    refine g_iload_n dX12_areDining_2 rfl rfl ?_
    refine g_aload_n dX12_areDining_3 rfl rfl ?_
    refine g_getr' (q := 5) fl_RX12_35 km_0 (by decide) rfl dX12_areDining_4 ?_
    refine g_iconst dX12_areDining_7 (by decide) ?_
    refine g_iald km_5 dX12_areDining_8 ?_
    intro x1
    refine g_icmpge (tgt := 43) dX12_areDining_9 (by decide) ?_ ?_
    · refine g_aload_n dX12_areDining_12 rfl rfl ?_
      refine g_iload_n dX12_areDining_13 rfl rfl ?_
      refine g_iload_n dX12_areDining_14 rfl rfl ?_
      refine g_callv3 (st := []) 10 mw_X12_dinesWith lk_RX12_418 rfl km_0 (ok_M_dinesWith v3 a1 σ) (Nat.le_of_ble_eq_true rfl) rfl rfl (Nat.le_of_ble_eq_true rfl) dX12_areDining_15 ?_
      intro r2 s3
      refine g_ifeq (tgt := 37) dX12_areDining_18 (by decide) ?_ ?_
      · refine n_iinc (fun x4 => [some (.inr (.inr 0)), some (.inl a1), some (.inl a2), some (.inl x4)]) dX12_areDining_37 rfl (Nat.le_of_ble_eq_true rfl) (fun _ => rfl) ?_
        intro x4
        refine g_goto (tgt := 2) dX12_areDining_40 (by decide) ?_
        exact (ih x4 s3)
      · refine g_aload_n dX12_areDining_21 rfl rfl ?_
        refine g_iload_n dX12_areDining_22 rfl rfl ?_
        refine g_iload_n dX12_areDining_23 rfl rfl ?_
        refine g_callv3 (st := []) 10 mw_X12_dinesWith lk_RX12_418 rfl km_0 (ok_M_dinesWith v3 a2 s3) (Nat.le_of_ble_eq_true rfl) rfl rfl (Nat.le_of_ble_eq_true rfl) dX12_areDining_24 ?_
        intro r5 s6
        refine g_ifeq (tgt := 37) dX12_areDining_27 (by decide) ?_ ?_
        · refine n_iinc (fun x7 => [some (.inr (.inr 0)), some (.inl a1), some (.inl a2), some (.inl x7)]) dX12_areDining_37 rfl (Nat.le_of_ble_eq_true rfl) (fun _ => rfl) ?_
          intro x7
          refine g_goto (tgt := 2) dX12_areDining_40 (by decide) ?_
          exact (ih x7 s6)
        · refine g_iload_n dX12_areDining_30 rfl rfl ?_
          refine g_iload_n dX12_areDining_31 rfl rfl ?_
          refine g_icmpeq (tgt := 37) dX12_areDining_32 (by decide) ?_ ?_
          · refine n_iinc (fun x8 => [some (.inr (.inr 0)), some (.inl a1), some (.inl a2), some (.inl x8)]) dX12_areDining_37 rfl (Nat.le_of_ble_eq_true rfl) (fun _ => rfl) ?_
            intro x8
            refine g_goto (tgt := 2) dX12_areDining_40 (by decide) ?_
            exact (ih x8 s6)
          · refine g_iconst dX12_areDining_35 (by decide) ?_
            exact g_zret1 dX12_areDining_36
    · refine g_iconst dX12_areDining_43 (by decide) ?_
      exact g_zret0 dX12_areDining_44
def M_areDining (a1 : Int) (a2 : Int) (σ : Sg) : Rs := (M_areDining_L2 a1 a2 fu 0 σ)
theorem ok_M_areDining (a1 : Int) (a2 : Int) (σ : Sg) : MC l Km Pm yX12_areDining cX12_areDining 4 3 2 [.inr (.inr 0), .inl a1, .inl a2] σ (M_areDining a1 a2 σ) := by
  refine mc_of (by decide) (Nat.le_of_ble_eq_true rfl) ?_
  change G l Km Pm RX12 cX12_areDining 4 3 2 0 [some (.inr (.inr 0)), some (.inl a1), some (.inl a2), none] [] σ (M_areDining a1 a2 σ)
  unfold M_areDining
  refine g_iconst dX12_areDining_0 (by decide) ?_
  refine g_istore_n (lv' := [some (.inr (.inr 0)), some (.inl a1), some (.inl a2), some (.inl 0)]) dX12_areDining_1 rfl (Nat.le_of_ble_eq_true rfl) rfl ?_
  refine (ok_M_areDining_L2 a1 a2 fu 0 σ)
end WK
