section WK
variable {l : Launch}
theorem dX11_agree_0 : decode cX11_agree 0 = .ok (.aload_n 0, 1) := by decide +kernel
theorem dX11_agree_1 : decode cX11_agree 1 = .ok (.iconst 0, 1) := by decide +kernel
theorem dX11_agree_2 : decode cX11_agree 2 = .ok (.putfield 9, 3) := by decide +kernel
theorem dX11_agree_5 : decode cX11_agree 5 = .ok (.iconst 1, 1) := by decide +kernel
theorem dX11_agree_6 : decode cX11_agree 6 = .ok (.ireturn, 1) := by decide +kernel
theorem mw_X11_agree : MW yX11_agree cX11_agree 1 3 0 false := ⟨tm 719 (by decide +kernel) rfl, tm 235 (by decide +kernel) rfl, by decide, by decide, (by rw [if_neg (by decide)]; exact ⟨tm 718 (by decide +kernel) rfl, tm 4 (by decide +kernel) rfl⟩)⟩
theorem fl_RX11_9 : FL RX11 9 9 0 := ⟨_, _, _, _, cw_9, by decide, Or.inl (by decide), Or.inr (by decide), Or.inl (tm 622 (by decide +kernel) rfl)⟩
def H_agree  (σ : Sg) : Rs := (nm (up_s σ 0 0 0) (fun s1 => (some (1, s1))))
theorem ok_H_agree (σ : Sg) : MC l Kh Ph yX11_agree cX11_agree 1 3 1 [.inr (.inr 0)] σ (H_agree σ) := by
  refine mc_of (by decide) (Nat.le_of_ble_eq_true rfl) ?_
  change G l Kh Ph RX11 cX11_agree 1 3 1 0 [some (.inr (.inr 0))] [] σ (H_agree  σ)
  unfold H_agree
  refine g_aload_n dX11_agree_0 rfl rfl ?_
  refine g_iconst dX11_agree_1 (by decide) ?_
  refine g_puti fl_RX11_9 kh_0 (by decide) dX11_agree_2 ?_
  intro s1
  refine g_iconst dX11_agree_5 (by decide) ?_
  exact g_zret1 dX11_agree_6
theorem dX11_within_0 : decode cX11_within 0 = .ok (.iload_n 0, 1) := by decide +kernel
theorem dX11_within_1 : decode cX11_within 1 = .ok (.iload_n 1, 1) := by decide +kernel
theorem dX11_within_2 : decode cX11_within 2 = .ok (.if_icmp .lt 12, 3) := by decide +kernel
theorem dX11_within_5 : decode cX11_within 5 = .ok (.iload_n 0, 1) := by decide +kernel
theorem dX11_within_6 : decode cX11_within 6 = .ok (.iload_n 2, 1) := by decide +kernel
theorem dX11_within_7 : decode cX11_within 7 = .ok (.if_icmp .gt 7, 3) := by decide +kernel
theorem dX11_within_10 : decode cX11_within 10 = .ok (.iconst 1, 1) := by decide +kernel
theorem dX11_within_11 : decode cX11_within 11 = .ok (.goto 4, 3) := by decide +kernel
theorem dX11_within_14 : decode cX11_within 14 = .ok (.iconst 0, 1) := by decide +kernel
theorem dX11_within_15 : decode cX11_within 15 = .ok (.ireturn, 1) := by decide +kernel
theorem mw_X11_within : MW yX11_within cX11_within 3 3 3 true := ⟨tm 742 (by decide +kernel) rfl, tm 235 (by decide +kernel) rfl, by decide, by decide, (by rw [if_pos rfl]; exact tm 741 (by decide +kernel) rfl)⟩
def H_within (a0 : Int) (a1 : Int) (a2 : Int) (σ : Sg) : Rs := (if a0 < a1 then (some (0, σ)) else (if a2 < a0 then (some (0, σ)) else (some (1, σ))))
theorem ok_H_within (a0 : Int) (a1 : Int) (a2 : Int) (σ : Sg) : MC l Kh Ph yX11_within cX11_within 3 3 1 [.inl a0, .inl a1, .inl a2] σ (H_within a0 a1 a2 σ) := by
  refine mc_of (by decide) (Nat.le_of_ble_eq_true rfl) ?_
  change G l Kh Ph RX11 cX11_within 3 3 1 0 [some (.inl a0), some (.inl a1), some (.inl a2)] [] σ (H_within a0 a1 a2 σ)
  unfold H_within
  refine g_iload_n dX11_within_0 rfl rfl ?_
  refine g_iload_n dX11_within_1 rfl rfl ?_
  refine g_icmplt (tgt := 14) dX11_within_2 (by decide) ?_ ?_
  · refine g_iconst dX11_within_14 (by decide) ?_
    exact g_zret0 dX11_within_15
  · refine g_iload_n dX11_within_5 rfl rfl ?_
    refine g_iload_n dX11_within_6 rfl rfl ?_
    refine g_icmpgt (tgt := 14) dX11_within_7 (by decide) ?_ ?_
    · refine g_iconst dX11_within_14 (by decide) ?_
      exact g_zret0 dX11_within_15
    · refine g_iconst dX11_within_10 (by decide) ?_
      refine g_goto (tgt := 15) dX11_within_11 (by decide) ?_
      exact g_zret1 dX11_within_15
theorem dX4_isPerson_0 : decode cX4_isPerson 0 = .ok (.iload_n 1, 1) := by decide +kernel
theorem dX4_isPerson_1 : decode cX4_isPerson 1 = .ok (.ifCond .lt 21, 3) := by decide +kernel
theorem dX4_isPerson_4 : decode cX4_isPerson 4 = .ok (.iload_n 1, 1) := by decide +kernel
theorem dX4_isPerson_5 : decode cX4_isPerson 5 = .ok (.aload_n 0, 1) := by decide +kernel
theorem dX4_isPerson_6 : decode cX4_isPerson 6 = .ok (.getfield 53, 3) := by decide +kernel
theorem dX4_isPerson_9 : decode cX4_isPerson 9 = .ok (.if_icmp .ge 13, 3) := by decide +kernel
theorem dX4_isPerson_12 : decode cX4_isPerson 12 = .ok (.iload_n 1, 1) := by decide +kernel
theorem dX4_isPerson_13 : decode cX4_isPerson 13 = .ok (.bipush 6, 2) := by decide +kernel
theorem dX4_isPerson_15 : decode cX4_isPerson 15 = .ok (.if_icmp .ge 7, 3) := by decide +kernel
theorem dX4_isPerson_18 : decode cX4_isPerson 18 = .ok (.iconst 1, 1) := by decide +kernel
theorem dX4_isPerson_19 : decode cX4_isPerson 19 = .ok (.goto 4, 3) := by decide +kernel
theorem dX4_isPerson_22 : decode cX4_isPerson 22 = .ok (.iconst 0, 1) := by decide +kernel
theorem dX4_isPerson_23 : decode cX4_isPerson 23 = .ok (.ireturn, 1) := by decide +kernel
theorem mw_X4_isPerson : MW yX4_isPerson cX4_isPerson 2 3 1 false := ⟨tm 1063 (by decide +kernel) rfl, tm 242 (by decide +kernel) rfl, by decide, by decide, (by rw [if_neg (by decide)]; exact ⟨tm 1062 (by decide +kernel) rfl, tm 55 (by decide +kernel) rfl⟩)⟩
theorem fl_RX4_53 : FL RX4 53 4 11 := ⟨_, _, _, _, cw_4, by decide, Or.inl (by decide), Or.inr (by decide), Or.inl (tm 424 (by decide +kernel) rfl)⟩
def Pr_isPerson (pr0 : Nat) (a1 : Int) (σ : Sg) : Rs := (if a1 < 0 then (some (0, σ)) else (if a1 < (σ pr0 11) then (if a1 < 6 then (some (1, σ)) else (some (0, σ))) else (some (0, σ))))
theorem ok_Pr_isPerson (pr0 : Nat) (a1 : Int) (hpr0 : Kh[pr0]? = some (.inl 4)) (σ : Sg) : MC l Kh Ph yX4_isPerson cX4_isPerson 2 3 1 [.inr (.inr pr0), .inl a1] σ (Pr_isPerson pr0 a1 σ) := by
  refine mc_of (by decide) (Nat.le_of_ble_eq_true rfl) ?_
  change G l Kh Ph RX4 cX4_isPerson 2 3 1 0 [some (.inr (.inr pr0)), some (.inl a1)] [] σ (Pr_isPerson pr0 a1 σ)
  unfold Pr_isPerson
  refine g_iload_n dX4_isPerson_0 rfl rfl ?_
  refine g_iflt (tgt := 22) dX4_isPerson_1 (by decide) ?_ ?_
  · refine g_iconst dX4_isPerson_22 (by decide) ?_
    exact g_zret0 dX4_isPerson_23
  · refine g_iload_n dX4_isPerson_4 rfl rfl ?_
    refine g_aload_n dX4_isPerson_5 rfl rfl ?_
    refine g_geti fl_RX4_53 hpr0 (by decide) dX4_isPerson_6 ?_
    refine g_icmpge (tgt := 22) dX4_isPerson_9 (by decide) ?_ ?_
    · refine g_iload_n dX4_isPerson_12 rfl rfl ?_
      refine g_bipush dX4_isPerson_13 (by decide) ?_
      refine g_icmpge (tgt := 22) dX4_isPerson_15 (by decide) ?_ ?_
      · refine g_iconst dX4_isPerson_18 (by decide) ?_
        refine g_goto (tgt := 23) dX4_isPerson_19 (by decide) ?_
        exact g_zret1 dX4_isPerson_23
      · refine g_iconst dX4_isPerson_22 (by decide) ?_
        exact g_zret0 dX4_isPerson_23
    · refine g_iconst dX4_isPerson_22 (by decide) ?_
      exact g_zret0 dX4_isPerson_23
theorem dX11_aheadStatus_0 : decode cX11_aheadStatus 0 = .ok (.aload_n 0, 1) := by decide +kernel
theorem dX11_aheadStatus_1 : decode cX11_aheadStatus 1 = .ok (.getfield 43, 3) := by decide +kernel
theorem dX11_aheadStatus_4 : decode cX11_aheadStatus 4 = .ok (.iload_n 1, 1) := by decide +kernel
theorem dX11_aheadStatus_5 : decode cX11_aheadStatus 5 = .ok (.invokevirtual 266, 3) := by decide +kernel
theorem dX11_aheadStatus_8 : decode cX11_aheadStatus 8 = .ok (.ifCond .ne 5, 3) := by decide +kernel
theorem dX11_aheadStatus_11 : decode cX11_aheadStatus 11 = .ok (.iconst 2, 1) := by decide +kernel
theorem dX11_aheadStatus_12 : decode cX11_aheadStatus 12 = .ok (.ireturn, 1) := by decide +kernel
theorem dX11_aheadStatus_13 : decode cX11_aheadStatus 13 = .ok (.iload_n 2, 1) := by decide +kernel
theorem dX11_aheadStatus_14 : decode cX11_aheadStatus 14 = .ok (.iconst 0, 1) := by decide +kernel
theorem dX11_aheadStatus_15 : decode cX11_aheadStatus 15 = .ok (.sipush 200, 3) := by decide +kernel
theorem dX11_aheadStatus_18 : decode cX11_aheadStatus 18 = .ok (.invokestatic 135, 3) := by decide +kernel
theorem dX11_aheadStatus_21 : decode cX11_aheadStatus 21 = .ok (.ifCond .eq 7, 3) := by decide +kernel
theorem dX11_aheadStatus_24 : decode cX11_aheadStatus 24 = .ok (.iconst 0, 1) := by decide +kernel
theorem dX11_aheadStatus_25 : decode cX11_aheadStatus 25 = .ok (.goto 4, 3) := by decide +kernel
theorem dX11_aheadStatus_28 : decode cX11_aheadStatus 28 = .ok (.iconst 5, 1) := by decide +kernel
theorem dX11_aheadStatus_29 : decode cX11_aheadStatus 29 = .ok (.ireturn, 1) := by decide +kernel
theorem mw_X11_aheadStatus : MW yX11_aheadStatus cX11_aheadStatus 3 0 2 false := ⟨tm 1236 (by decide +kernel) rfl, tm 235 (by decide +kernel) rfl, by decide, by decide, (by rw [if_neg (by decide)]; exact ⟨tm 1235 (by decide +kernel) rfl, tm 76 (by decide +kernel) rfl⟩)⟩
theorem lk_RX11_135 : LK RX11 135 yX11_within := Or.inl (tm 740 (by decide +kernel) rfl)
theorem lk_RX11_266 : LK RX11 266 yX4_isPerson := Or.inr ⟨"HairProvince", tm 1093 (by decide +kernel) rfl⟩
theorem fl_RX11_43 : FL RX11 43 9 8 := ⟨_, _, _, _, cw_9, by decide, Or.inr (Or.inr (Or.inr (by decide))), Or.inl (by decide), Or.inl (tm 630 (by decide +kernel) rfl)⟩
def H_aheadStatus (a1 : Int) (a2 : Int) (σ : Sg) : Rs := (bd (Pr_isPerson 8 a1 σ) (fun r1 s2 => (if r1 = 0 then (some (2, s2)) else (bd (H_within a2 0 200 s2) (fun r3 s4 => (if r3 = 0 then (some (5, s4)) else (some (0, s4))))))))
theorem ok_H_aheadStatus (a1 : Int) (a2 : Int) (σ : Sg) : MC l Kh Ph yX11_aheadStatus cX11_aheadStatus 3 0 2 [.inr (.inr 0), .inl a1, .inl a2] σ (H_aheadStatus a1 a2 σ) := by
  refine mc_of (by decide) (Nat.le_of_ble_eq_true rfl) ?_
  change G l Kh Ph RX11 cX11_aheadStatus 3 0 2 0 [some (.inr (.inr 0)), some (.inl a1), some (.inl a2)] [] σ (H_aheadStatus a1 a2 σ)
  unfold H_aheadStatus
  refine g_aload_n dX11_aheadStatus_0 rfl rfl ?_
  refine g_getr' (q := 8) fl_RX11_43 kh_0 (by decide) rfl dX11_aheadStatus_1 ?_
  refine g_iload_n dX11_aheadStatus_4 rfl rfl ?_
  refine g_callv3 (st := []) 4 mw_X4_isPerson lk_RX11_266 rfl kh_8 (ok_Pr_isPerson 8 a1 kh_8 σ) (Nat.le_of_ble_eq_true rfl) rfl rfl (Nat.le_of_ble_eq_true rfl) dX11_aheadStatus_5 ?_
  intro r1 s2
  refine g_ifne (tgt := 13) dX11_aheadStatus_8 (by decide) ?_ ?_
  · refine g_iconst dX11_aheadStatus_11 (by decide) ?_
    exact g_iret dX11_aheadStatus_12
  · refine g_iload_n dX11_aheadStatus_13 rfl rfl ?_
    refine g_iconst dX11_aheadStatus_14 (by decide) ?_
    refine g_sipush dX11_aheadStatus_15 (by decide) ?_
    refine g_calls3 (st := []) mw_X11_within lk_RX11_135 (ok_H_within a2 0 200 s2) (Nat.le_of_ble_eq_true rfl) rfl rfl (Nat.le_of_ble_eq_true rfl) dX11_aheadStatus_18 ?_
    intro r3 s4
    refine g_ifeq (tgt := 28) dX11_aheadStatus_21 (by decide) ?_ ?_
    · refine g_iconst dX11_aheadStatus_28 (by decide) ?_
      exact g_iret dX11_aheadStatus_29
    · refine g_iconst dX11_aheadStatus_24 (by decide) ?_
      refine g_goto (tgt := 29) dX11_aheadStatus_25 (by decide) ?_
      exact g_iret dX11_aheadStatus_29
theorem dX11_fail_0 : decode cX11_fail 0 = .ok (.aload_n 0, 1) := by decide +kernel
theorem dX11_fail_1 : decode cX11_fail 1 = .ok (.iload_n 1, 1) := by decide +kernel
theorem dX11_fail_2 : decode cX11_fail 2 = .ok (.putfield 9, 3) := by decide +kernel
theorem dX11_fail_5 : decode cX11_fail 5 = .ok (.iconst (-1), 1) := by decide +kernel
theorem dX11_fail_6 : decode cX11_fail 6 = .ok (.ireturn, 1) := by decide +kernel
theorem mw_X11_fail : MW yX11_fail cX11_fail 2 0 1 false := ⟨tm 762 (by decide +kernel) rfl, tm 235 (by decide +kernel) rfl, by decide, by decide, (by rw [if_neg (by decide)]; exact ⟨tm 761 (by decide +kernel) rfl, tm 11 (by decide +kernel) rfl⟩)⟩
def H_fail (a1 : Int) (σ : Sg) : Rs := (nm (up_s σ 0 0 a1) (fun s1 => (some ((-1), s1))))
theorem ok_H_fail (a1 : Int) (σ : Sg) : MC l Kh Ph yX11_fail cX11_fail 2 0 1 [.inr (.inr 0), .inl a1] σ (H_fail a1 σ) := by
  refine mc_of (by decide) (Nat.le_of_ble_eq_true rfl) ?_
  change G l Kh Ph RX11 cX11_fail 2 0 1 0 [some (.inr (.inr 0)), some (.inl a1)] [] σ (H_fail a1 σ)
  unfold H_fail
  refine g_aload_n dX11_fail_0 rfl rfl ?_
  refine g_iload_n dX11_fail_1 rfl rfl ?_
  refine g_puti fl_RX11_9 kh_0 (by decide) dX11_fail_2 ?_
  intro s1
  refine g_iconst dX11_fail_5 (by decide) ?_
  exact g_iret dX11_fail_6
theorem dX8_isTray_0 : decode cX8_isTray 0 = .ok (.iload_n 1, 1) := by decide +kernel
theorem dX8_isTray_1 : decode cX8_isTray 1 = .ok (.ifCond .lt 12, 3) := by decide +kernel
theorem dX8_isTray_4 : decode cX8_isTray 4 = .ok (.iload_n 1, 1) := by decide +kernel
theorem dX8_isTray_5 : decode cX8_isTray 5 = .ok (.iconst 4, 1) := by decide +kernel
theorem dX8_isTray_6 : decode cX8_isTray 6 = .ok (.if_icmp .ge 7, 3) := by decide +kernel
theorem dX8_isTray_9 : decode cX8_isTray 9 = .ok (.iconst 1, 1) := by decide +kernel
theorem dX8_isTray_10 : decode cX8_isTray 10 = .ok (.goto 4, 3) := by decide +kernel
theorem dX8_isTray_13 : decode cX8_isTray 13 = .ok (.iconst 0, 1) := by decide +kernel
theorem dX8_isTray_14 : decode cX8_isTray 14 = .ok (.ireturn, 1) := by decide +kernel
theorem mw_X8_isTray : MW yX8_isTray cX8_isTray 2 3 1 false := ⟨tm 702 (by decide +kernel) rfl, tm 236 (by decide +kernel) rfl, by decide, by decide, (by rw [if_neg (by decide)]; exact ⟨tm 701 (by decide +kernel) rfl, tm 0 (by decide +kernel) rfl⟩)⟩
def Tr_isTray (a1 : Int) (σ : Sg) : Rs := (if a1 < 0 then (some (0, σ)) else (if a1 < 4 then (some (1, σ)) else (some (0, σ))))
theorem ok_Tr_isTray (a1 : Int) (σ : Sg) : MC l Kh Ph yX8_isTray cX8_isTray 2 3 1 [.inr (.inr 1), .inl a1] σ (Tr_isTray a1 σ) := by
  refine mc_of (by decide) (Nat.le_of_ble_eq_true rfl) ?_
  change G l Kh Ph RX8 cX8_isTray 2 3 1 0 [some (.inr (.inr 1)), some (.inl a1)] [] σ (Tr_isTray a1 σ)
  unfold Tr_isTray
  refine g_iload_n dX8_isTray_0 rfl rfl ?_
  refine g_iflt (tgt := 13) dX8_isTray_1 (by decide) ?_ ?_
  · refine g_iconst dX8_isTray_13 (by decide) ?_
    exact g_zret0 dX8_isTray_14
  · refine g_iload_n dX8_isTray_4 rfl rfl ?_
    refine g_iconst dX8_isTray_5 (by decide) ?_
    refine g_icmpge (tgt := 13) dX8_isTray_6 (by decide) ?_ ?_
    · refine g_iconst dX8_isTray_9 (by decide) ?_
      refine g_goto (tgt := 14) dX8_isTray_10 (by decide) ?_
      exact g_zret1 dX8_isTray_14
    · refine g_iconst dX8_isTray_13 (by decide) ?_
      exact g_zret0 dX8_isTray_14
theorem dX8_isMissing_0 : decode cX8_isMissing 0 = .ok (.aload_n 0, 1) := by decide +kernel
theorem dX8_isMissing_1 : decode cX8_isMissing 1 = .ok (.iload_n 1, 1) := by decide +kernel
theorem dX8_isMissing_2 : decode cX8_isMissing 2 = .ok (.invokevirtual 22, 3) := by decide +kernel
theorem dX8_isMissing_5 : decode cX8_isMissing 5 = .ok (.ifCond .eq 13, 3) := by decide +kernel
theorem dX8_isMissing_8 : decode cX8_isMissing 8 = .ok (.aload_n 0, 1) := by decide +kernel
theorem dX8_isMissing_9 : decode cX8_isMissing 9 = .ok (.getfield 11, 3) := by decide +kernel
theorem dX8_isMissing_12 : decode cX8_isMissing 12 = .ok (.iload_n 1, 1) := by decide +kernel
theorem dX8_isMissing_13 : decode cX8_isMissing 13 = .ok (.iaload, 1) := by decide +kernel
theorem dX8_isMissing_14 : decode cX8_isMissing 14 = .ok (.iconst (-1), 1) := by decide +kernel
theorem dX8_isMissing_15 : decode cX8_isMissing 15 = .ok (.if_icmp .ne 7, 3) := by decide +kernel
theorem dX8_isMissing_18 : decode cX8_isMissing 18 = .ok (.iconst 1, 1) := by decide +kernel
theorem dX8_isMissing_19 : decode cX8_isMissing 19 = .ok (.goto 4, 3) := by decide +kernel
theorem dX8_isMissing_22 : decode cX8_isMissing 22 = .ok (.iconst 0, 1) := by decide +kernel
theorem dX8_isMissing_23 : decode cX8_isMissing 23 = .ok (.ireturn, 1) := by decide +kernel
theorem mw_X8_isMissing : MW yX8_isMissing cX8_isMissing 2 3 1 false := ⟨tm 735 (by decide +kernel) rfl, tm 236 (by decide +kernel) rfl, by decide, by decide, (by rw [if_neg (by decide)]; exact ⟨tm 734 (by decide +kernel) rfl, tm 7 (by decide +kernel) rfl⟩)⟩
theorem lk_RX8_22 : LK RX8 22 yX8_isTray := Or.inl (tm 715 (by decide +kernel) rfl)
theorem fl_RX8_11 : FL RX8 11 7 0 := ⟨_, _, _, _, cw_7, by decide, Or.inr (Or.inr (Or.inr (by decide))), Or.inl (by decide), Or.inl (tm 269 (by decide +kernel) rfl)⟩
def Tr_isMissing (a1 : Int) (σ : Sg) : Rs := (bd (Tr_isTray a1 σ) (fun r1 s2 => (if r1 = 0 then (some (1, s2)) else (rd 4 a1 (s2 2 (Int.toNat a1)) (fun x3 => (if x3 = (-1) then (some (1, s2)) else (some (0, s2))))))))
theorem ok_Tr_isMissing (a1 : Int) (σ : Sg) : MC l Kh Ph yX8_isMissing cX8_isMissing 2 3 2 [.inr (.inr 1), .inl a1] σ (Tr_isMissing a1 σ) := by
  refine mc_of (by decide) (Nat.le_of_ble_eq_true rfl) ?_
  change G l Kh Ph RX8 cX8_isMissing 2 3 2 0 [some (.inr (.inr 1)), some (.inl a1)] [] σ (Tr_isMissing a1 σ)
  unfold Tr_isMissing
  refine g_aload_n dX8_isMissing_0 rfl rfl ?_
  refine g_iload_n dX8_isMissing_1 rfl rfl ?_
  refine g_callv3 (st := []) 7 mw_X8_isTray lk_RX8_22 rfl kh_1 (ok_Tr_isTray a1 σ) (Nat.le_of_ble_eq_true rfl) rfl rfl (Nat.le_of_ble_eq_true rfl) dX8_isMissing_2 ?_
  intro r1 s2
  refine g_ifeq (tgt := 18) dX8_isMissing_5 (by decide) ?_ ?_
  · refine g_iconst dX8_isMissing_18 (by decide) ?_
    refine g_goto (tgt := 23) dX8_isMissing_19 (by decide) ?_
    exact g_zret1 dX8_isMissing_23
  · refine g_aload_n dX8_isMissing_8 rfl rfl ?_
    refine g_getr' (q := 2) fl_RX8_11 kh_1 (by decide) rfl dX8_isMissing_9 ?_
    refine g_iload_n dX8_isMissing_12 rfl rfl ?_
    refine g_iald kh_2 dX8_isMissing_13 ?_
    intro x3
    refine g_iconst dX8_isMissing_14 (by decide) ?_
    refine g_icmpne (tgt := 22) dX8_isMissing_15 (by decide) ?_ ?_
    · refine g_iconst dX8_isMissing_18 (by decide) ?_
      refine g_goto (tgt := 23) dX8_isMissing_19 (by decide) ?_
      exact g_zret1 dX8_isMissing_23
    · refine g_iconst dX8_isMissing_22 (by decide) ?_
      exact g_zret0 dX8_isMissing_23
theorem dX11_trayStatus_0 : decode cX11_trayStatus 0 = .ok (.aload_n 0, 1) := by decide +kernel
theorem dX11_trayStatus_1 : decode cX11_trayStatus 1 = .ok (.getfield 29, 3) := by decide +kernel
theorem dX11_trayStatus_4 : decode cX11_trayStatus 4 = .ok (.iload_n 1, 1) := by decide +kernel
theorem dX11_trayStatus_5 : decode cX11_trayStatus 5 = .ok (.invokevirtual 107, 3) := by decide +kernel
theorem dX11_trayStatus_8 : decode cX11_trayStatus 8 = .ok (.ifCond .ne 5, 3) := by decide +kernel
theorem dX11_trayStatus_11 : decode cX11_trayStatus 11 = .ok (.iconst 1, 1) := by decide +kernel
theorem dX11_trayStatus_12 : decode cX11_trayStatus 12 = .ok (.ireturn, 1) := by decide +kernel
theorem dX11_trayStatus_13 : decode cX11_trayStatus 13 = .ok (.aload_n 0, 1) := by decide +kernel
theorem dX11_trayStatus_14 : decode cX11_trayStatus 14 = .ok (.getfield 29, 3) := by decide +kernel
theorem dX11_trayStatus_17 : decode cX11_trayStatus 17 = .ok (.iload_n 1, 1) := by decide +kernel
theorem dX11_trayStatus_18 : decode cX11_trayStatus 18 = .ok (.invokevirtual 125, 3) := by decide +kernel
theorem dX11_trayStatus_21 : decode cX11_trayStatus 21 = .ok (.ifCond .eq 7, 3) := by decide +kernel
theorem dX11_trayStatus_24 : decode cX11_trayStatus 24 = .ok (.iconst 3, 1) := by decide +kernel
theorem dX11_trayStatus_25 : decode cX11_trayStatus 25 = .ok (.goto 4, 3) := by decide +kernel
theorem dX11_trayStatus_28 : decode cX11_trayStatus 28 = .ok (.iconst 0, 1) := by decide +kernel
theorem dX11_trayStatus_29 : decode cX11_trayStatus 29 = .ok (.ireturn, 1) := by decide +kernel
theorem mw_X11_trayStatus : MW yX11_trayStatus cX11_trayStatus 2 0 1 false := ⟨tm 731 (by decide +kernel) rfl, tm 235 (by decide +kernel) rfl, by decide, by decide, (by rw [if_neg (by decide)]; exact ⟨tm 730 (by decide +kernel) rfl, tm 6 (by decide +kernel) rfl⟩)⟩
theorem lk_RX11_107 : LK RX11 107 yX8_isTray := Or.inr ⟨"HairProvince", tm 699 (by decide +kernel) rfl⟩
theorem lk_RX11_125 : LK RX11 125 yX8_isMissing := Or.inr ⟨"HairProvince", tm 732 (by decide +kernel) rfl⟩
theorem fl_RX11_29 : FL RX11 29 9 6 := ⟨_, _, _, _, cw_9, by decide, Or.inr (Or.inr (Or.inr (by decide))), Or.inl (by decide), Or.inl (tm 628 (by decide +kernel) rfl)⟩
def H_trayStatus (a1 : Int) (σ : Sg) : Rs := (bd (Tr_isTray a1 σ) (fun r1 s2 => (if r1 = 0 then (some (1, s2)) else (bd (Tr_isMissing a1 s2) (fun r3 s4 => (if r3 = 0 then (some (0, s4)) else (some (3, s4))))))))
theorem ok_H_trayStatus (a1 : Int) (σ : Sg) : MC l Kh Ph yX11_trayStatus cX11_trayStatus 2 0 3 [.inr (.inr 0), .inl a1] σ (H_trayStatus a1 σ) := by
  refine mc_of (by decide) (Nat.le_of_ble_eq_true rfl) ?_
  change G l Kh Ph RX11 cX11_trayStatus 2 0 3 0 [some (.inr (.inr 0)), some (.inl a1)] [] σ (H_trayStatus a1 σ)
  unfold H_trayStatus
  refine g_aload_n dX11_trayStatus_0 rfl rfl ?_
  refine g_getr' (q := 1) fl_RX11_29 kh_0 (by decide) rfl dX11_trayStatus_1 ?_
  refine g_iload_n dX11_trayStatus_4 rfl rfl ?_
  refine g_callv3 (st := []) 7 mw_X8_isTray lk_RX11_107 rfl kh_1 (ok_Tr_isTray a1 σ) (Nat.le_of_ble_eq_true rfl) rfl rfl (Nat.le_of_ble_eq_true rfl) dX11_trayStatus_5 ?_
  intro r1 s2
  refine g_ifne (tgt := 13) dX11_trayStatus_8 (by decide) ?_ ?_
  · refine g_iconst dX11_trayStatus_11 (by decide) ?_
    exact g_iret dX11_trayStatus_12
  · refine g_aload_n dX11_trayStatus_13 rfl rfl ?_
    refine g_getr' (q := 1) fl_RX11_29 kh_0 (by decide) rfl dX11_trayStatus_14 ?_
    refine g_iload_n dX11_trayStatus_17 rfl rfl ?_
    refine g_callv3 (st := []) 7 mw_X8_isMissing lk_RX11_125 rfl kh_1 (ok_Tr_isMissing a1 s2) (Nat.le_of_ble_eq_true rfl) rfl rfl (Nat.le_of_ble_eq_true rfl) dX11_trayStatus_18 ?_
    intro r3 s4
    refine g_ifeq (tgt := 28) dX11_trayStatus_21 (by decide) ?_ ?_
    · refine g_iconst dX11_trayStatus_28 (by decide) ?_
      exact g_iret dX11_trayStatus_29
    · refine g_iconst dX11_trayStatus_24 (by decide) ?_
      refine g_goto (tgt := 29) dX11_trayStatus_25 (by decide) ?_
      exact g_iret dX11_trayStatus_29
theorem dX8_sizeOf_0 : decode cX8_sizeOf 0 = .ok (.aload_n 0, 1) := by decide +kernel
theorem dX8_sizeOf_1 : decode cX8_sizeOf 1 = .ok (.iload_n 1, 1) := by decide +kernel
theorem dX8_sizeOf_2 : decode cX8_sizeOf 2 = .ok (.invokevirtual 22, 3) := by decide +kernel
theorem dX8_sizeOf_5 : decode cX8_sizeOf 5 = .ok (.ifCond .eq 12, 3) := by decide +kernel
theorem dX8_sizeOf_8 : decode cX8_sizeOf 8 = .ok (.aload_n 0, 1) := by decide +kernel
theorem dX8_sizeOf_9 : decode cX8_sizeOf 9 = .ok (.getfield 15, 3) := by decide +kernel
theorem dX8_sizeOf_12 : decode cX8_sizeOf 12 = .ok (.iload_n 1, 1) := by decide +kernel
theorem dX8_sizeOf_13 : decode cX8_sizeOf 13 = .ok (.iaload, 1) := by decide +kernel
theorem dX8_sizeOf_14 : decode cX8_sizeOf 14 = .ok (.goto 4, 3) := by decide +kernel
theorem dX8_sizeOf_17 : decode cX8_sizeOf 17 = .ok (.iconst 0, 1) := by decide +kernel
theorem dX8_sizeOf_18 : decode cX8_sizeOf 18 = .ok (.ireturn, 1) := by decide +kernel
theorem mw_X8_sizeOf : MW yX8_sizeOf cX8_sizeOf 2 0 1 false := ⟨tm 739 (by decide +kernel) rfl, tm 236 (by decide +kernel) rfl, by decide, by decide, (by rw [if_neg (by decide)]; exact ⟨tm 738 (by decide +kernel) rfl, tm 8 (by decide +kernel) rfl⟩)⟩
theorem fl_RX8_15 : FL RX8 15 7 1 := ⟨_, _, _, _, cw_7, by decide, Or.inr (Or.inr (Or.inr (by decide))), Or.inl (by decide), Or.inl (tm 270 (by decide +kernel) rfl)⟩
def Tr_sizeOf (a1 : Int) (σ : Sg) : Rs := (bd (Tr_isTray a1 σ) (fun r1 s2 => (if r1 = 0 then (some (0, s2)) else (rd 4 a1 (s2 3 (Int.toNat a1)) (fun x3 => (some (x3, s2)))))))
theorem ok_Tr_sizeOf (a1 : Int) (σ : Sg) : MC l Kh Ph yX8_sizeOf cX8_sizeOf 2 0 2 [.inr (.inr 1), .inl a1] σ (Tr_sizeOf a1 σ) := by
  refine mc_of (by decide) (Nat.le_of_ble_eq_true rfl) ?_
  change G l Kh Ph RX8 cX8_sizeOf 2 0 2 0 [some (.inr (.inr 1)), some (.inl a1)] [] σ (Tr_sizeOf a1 σ)
  unfold Tr_sizeOf
  refine g_aload_n dX8_sizeOf_0 rfl rfl ?_
  refine g_iload_n dX8_sizeOf_1 rfl rfl ?_
  refine g_callv3 (st := []) 7 mw_X8_isTray lk_RX8_22 rfl kh_1 (ok_Tr_isTray a1 σ) (Nat.le_of_ble_eq_true rfl) rfl rfl (Nat.le_of_ble_eq_true rfl) dX8_sizeOf_2 ?_
  intro r1 s2
  refine g_ifeq (tgt := 17) dX8_sizeOf_5 (by decide) ?_ ?_
  · refine g_iconst dX8_sizeOf_17 (by decide) ?_
    exact g_iret dX8_sizeOf_18
  · refine g_aload_n dX8_sizeOf_8 rfl rfl ?_
    refine g_getr' (q := 3) fl_RX8_15 kh_1 (by decide) rfl dX8_sizeOf_9 ?_
    refine g_iload_n dX8_sizeOf_12 rfl rfl ?_
    refine g_iald kh_3 dX8_sizeOf_13 ?_
    intro x3
    refine g_goto (tgt := 18) dX8_sizeOf_14 (by decide) ?_
    exact g_iret dX8_sizeOf_18
theorem dX11_twosStatus_0 : decode cX11_twosStatus 0 = .ok (.aload_n 0, 1) := by decide +kernel
theorem dX11_twosStatus_1 : decode cX11_twosStatus 1 = .ok (.iload_n 1, 1) := by decide +kernel
theorem dX11_twosStatus_2 : decode cX11_twosStatus 2 = .ok (.invokevirtual 128, 3) := by decide +kernel
theorem dX11_twosStatus_5 : decode cX11_twosStatus 5 = .ok (.istore_n 3, 1) := by decide +kernel
theorem dX11_twosStatus_6 : decode cX11_twosStatus 6 = .ok (.iload_n 3, 1) := by decide +kernel
theorem dX11_twosStatus_7 : decode cX11_twosStatus 7 = .ok (.ifCond .eq 5, 3) := by decide +kernel
theorem dX11_twosStatus_10 : decode cX11_twosStatus 10 = .ok (.iload_n 3, 1) := by decide +kernel
theorem dX11_twosStatus_11 : decode cX11_twosStatus 11 = .ok (.ireturn, 1) := by decide +kernel
theorem dX11_twosStatus_12 : decode cX11_twosStatus 12 = .ok (.ldc2_w 349, 3) := by decide +kernel
theorem dX11_twosStatus_15 : decode cX11_twosStatus 15 = .ok (.iload_n 2, 1) := by decide +kernel
theorem dX11_twosStatus_16 : decode cX11_twosStatus 16 = .ok (.i2l, 1) := by decide +kernel
theorem dX11_twosStatus_17 : decode cX11_twosStatus 17 = .ok (.lmul, 1) := by decide +kernel
theorem dX11_twosStatus_18 : decode cX11_twosStatus 18 = .ok (.aload_n 0, 1) := by decide +kernel
theorem dX11_twosStatus_19 : decode cX11_twosStatus 19 = .ok (.getfield 29, 3) := by decide +kernel
theorem dX11_twosStatus_22 : decode cX11_twosStatus 22 = .ok (.iload_n 1, 1) := by decide +kernel
theorem dX11_twosStatus_23 : decode cX11_twosStatus 23 = .ok (.invokevirtual 132, 3) := by decide +kernel
theorem dX11_twosStatus_26 : decode cX11_twosStatus 26 = .ok (.i2l, 1) := by decide +kernel
theorem dX11_twosStatus_27 : decode cX11_twosStatus 27 = .ok (.lcmp, 1) := by decide +kernel
theorem dX11_twosStatus_28 : decode cX11_twosStatus 28 = .ok (.ifCond .le 5, 3) := by decide +kernel
theorem dX11_twosStatus_31 : decode cX11_twosStatus 31 = .ok (.iconst 4, 1) := by decide +kernel
theorem dX11_twosStatus_32 : decode cX11_twosStatus 32 = .ok (.ireturn, 1) := by decide +kernel
theorem dX11_twosStatus_33 : decode cX11_twosStatus 33 = .ok (.iload_n 2, 1) := by decide +kernel
theorem dX11_twosStatus_34 : decode cX11_twosStatus 34 = .ok (.iconst 0, 1) := by decide +kernel
theorem dX11_twosStatus_35 : decode cX11_twosStatus 35 = .ok (.bipush 20, 2) := by decide +kernel
theorem dX11_twosStatus_37 : decode cX11_twosStatus 37 = .ok (.invokestatic 135, 3) := by decide +kernel
theorem dX11_twosStatus_40 : decode cX11_twosStatus 40 = .ok (.ifCond .eq 7, 3) := by decide +kernel
theorem dX11_twosStatus_43 : decode cX11_twosStatus 43 = .ok (.iconst 0, 1) := by decide +kernel
theorem dX11_twosStatus_44 : decode cX11_twosStatus 44 = .ok (.goto 4, 3) := by decide +kernel
theorem dX11_twosStatus_47 : decode cX11_twosStatus 47 = .ok (.iconst 5, 1) := by decide +kernel
theorem dX11_twosStatus_48 : decode cX11_twosStatus 48 = .ok (.ireturn, 1) := by decide +kernel
theorem mw_X11_twosStatus : MW yX11_twosStatus cX11_twosStatus 4 0 2 false := ⟨tm 1291 (by decide +kernel) rfl, tm 235 (by decide +kernel) rfl, by decide, by decide, (by rw [if_neg (by decide)]; exact ⟨tm 1290 (by decide +kernel) rfl, tm 81 (by decide +kernel) rfl⟩)⟩
theorem lk_RX11_128 : LK RX11 128 yX11_trayStatus := Or.inl (tm 728 (by decide +kernel) rfl)
theorem lk_RX11_132 : LK RX11 132 yX8_sizeOf := Or.inr ⟨"HairProvince", tm 736 (by decide +kernel) rfl⟩
def H_twosStatus (a1 : Int) (a2 : Int) (σ : Sg) : Rs := (bd (H_trayStatus a1 σ) (fun r1 s2 => (if r1 = 0 then (bd (Tr_sizeOf a1 s2) (fun r3 s4 => (if r3 < (w64 (2 * a2)) then (some (4, s4)) else (bd (H_within a2 0 20 s4) (fun r5 s6 => (if r5 = 0 then (some (5, s6)) else (some (0, s6)))))))) else (some (r1, s2)))))
theorem ok_H_twosStatus (a1 : Int) (a2 : Int) (σ : Sg) : MC l Kh Ph yX11_twosStatus cX11_twosStatus 4 0 4 [.inr (.inr 0), .inl a1, .inl a2] σ (H_twosStatus a1 a2 σ) := by
  refine mc_of (by decide) (Nat.le_of_ble_eq_true rfl) ?_
  change G l Kh Ph RX11 cX11_twosStatus 4 0 4 0 [some (.inr (.inr 0)), some (.inl a1), some (.inl a2), none] [] σ (H_twosStatus a1 a2 σ)
  unfold H_twosStatus
  refine g_aload_n dX11_twosStatus_0 rfl rfl ?_
  refine g_iload_n dX11_twosStatus_1 rfl rfl ?_
  refine g_callv0 (st := []) 9 mw_X11_trayStatus lk_RX11_128 rfl kh_0 (ok_H_trayStatus a1 σ) (Nat.le_of_ble_eq_true rfl) rfl rfl (Nat.le_of_ble_eq_true rfl) dX11_twosStatus_2 ?_
  intro r1 s2
  refine g_istore_n (lv' := [some (.inr (.inr 0)), some (.inl a1), some (.inl a2), some (.inl r1)]) dX11_twosStatus_5 rfl (Nat.le_of_ble_eq_true rfl) rfl ?_
  refine g_iload_n dX11_twosStatus_6 rfl rfl ?_
  refine g_ifeq (tgt := 12) dX11_twosStatus_7 (by decide) ?_ ?_
  · refine g_ldc2 (n := 2) (tm 1292 (by decide +kernel) rfl) (by decide) dX11_twosStatus_12 ?_
    refine g_iload_n dX11_twosStatus_15 rfl rfl ?_
    refine g_i2l dX11_twosStatus_16 ?_
    refine g_lmul dX11_twosStatus_17 ?_
    refine g_aload_n dX11_twosStatus_18 rfl rfl ?_
    refine g_getr' (q := 1) fl_RX11_29 kh_0 (by decide) rfl dX11_twosStatus_19 ?_
    refine g_iload_n dX11_twosStatus_22 rfl rfl ?_
    refine g_callv0 (st := [.inr (.inl (w64 (2 * a2)))]) 7 mw_X8_sizeOf lk_RX11_132 rfl kh_1 (ok_Tr_sizeOf a1 s2) (Nat.le_of_ble_eq_true rfl) rfl rfl (Nat.le_of_ble_eq_true rfl) dX11_twosStatus_23 ?_
    intro r3 s4
    refine g_i2l dX11_twosStatus_26 ?_
    refine g_lcmple (tgt := 33) dX11_twosStatus_27 dX11_twosStatus_28 (by decide) ?_ ?_
    · refine g_iconst dX11_twosStatus_31 (by decide) ?_
      exact g_iret dX11_twosStatus_32
    · refine g_iload_n dX11_twosStatus_33 rfl rfl ?_
      refine g_iconst dX11_twosStatus_34 (by decide) ?_
      refine g_bipush dX11_twosStatus_35 (by decide) ?_
      refine g_calls3 (st := []) mw_X11_within lk_RX11_135 (ok_H_within a2 0 20 s4) (Nat.le_of_ble_eq_true rfl) rfl rfl (Nat.le_of_ble_eq_true rfl) dX11_twosStatus_37 ?_
      intro r5 s6
      refine g_ifeq (tgt := 47) dX11_twosStatus_40 (by decide) ?_ ?_
      · refine g_iconst dX11_twosStatus_47 (by decide) ?_
        exact g_iret dX11_twosStatus_48
      · refine g_iconst dX11_twosStatus_43 (by decide) ?_
        refine g_goto (tgt := 48) dX11_twosStatus_44 (by decide) ?_
        exact g_iret dX11_twosStatus_48
  · refine g_iload_n dX11_twosStatus_10 rfl rfl ?_
    exact g_iret dX11_twosStatus_11
theorem dX4_lengthOn_0 : decode cX4_lengthOn 0 = .ok (.iload_n 2, 1) := by decide +kernel
theorem dX4_lengthOn_1 : decode cX4_lengthOn 1 = .ok (.ifCond .lt 9, 3) := by decide +kernel
theorem dX4_lengthOn_4 : decode cX4_lengthOn 4 = .ok (.iload_n 2, 1) := by decide +kernel
theorem dX4_lengthOn_5 : decode cX4_lengthOn 5 = .ok (.bipush 8, 2) := by decide +kernel
theorem dX4_lengthOn_7 : decode cX4_lengthOn 7 = .ok (.if_icmp .lt 5, 3) := by decide +kernel
theorem dX4_lengthOn_10 : decode cX4_lengthOn 10 = .ok (.iconst 0, 1) := by decide +kernel
theorem dX4_lengthOn_11 : decode cX4_lengthOn 11 = .ok (.ireturn, 1) := by decide +kernel
theorem dX4_lengthOn_12 : decode cX4_lengthOn 12 = .ok (.iload_n 3, 1) := by decide +kernel
theorem dX4_lengthOn_13 : decode cX4_lengthOn 13 = .ok (.aload_n 0, 1) := by decide +kernel
theorem dX4_lengthOn_14 : decode cX4_lengthOn 14 = .ok (.getfield 19, 3) := by decide +kernel
theorem dX4_lengthOn_17 : decode cX4_lengthOn 17 = .ok (.iload_n 2, 1) := by decide +kernel
theorem dX4_lengthOn_18 : decode cX4_lengthOn 18 = .ok (.iaload, 1) := by decide +kernel
theorem dX4_lengthOn_19 : decode cX4_lengthOn 19 = .ok (.iadd, 1) := by decide +kernel
theorem dX4_lengthOn_20 : decode cX4_lengthOn 20 = .ok (.istore 5, 2) := by decide +kernel
theorem dX4_lengthOn_22 : decode cX4_lengthOn 22 = .ok (.iload_n 1, 1) := by decide +kernel
theorem dX4_lengthOn_23 : decode cX4_lengthOn 23 = .ok (.iload 5, 2) := by decide +kernel
theorem dX4_lengthOn_25 : decode cX4_lengthOn 25 = .ok (.if_icmp .ge 7, 3) := by decide +kernel
theorem dX4_lengthOn_28 : decode cX4_lengthOn 28 = .ok (.iload_n 1, 1) := by decide +kernel
theorem dX4_lengthOn_29 : decode cX4_lengthOn 29 = .ok (.goto 5, 3) := by decide +kernel
theorem dX4_lengthOn_32 : decode cX4_lengthOn 32 = .ok (.iload 5, 2) := by decide +kernel
theorem dX4_lengthOn_34 : decode cX4_lengthOn 34 = .ok (.istore 6, 2) := by decide +kernel
theorem dX4_lengthOn_36 : decode cX4_lengthOn 36 = .ok (.iload 6, 2) := by decide +kernel
theorem dX4_lengthOn_38 : decode cX4_lengthOn 38 = .ok (.iload 4, 2) := by decide +kernel
theorem dX4_lengthOn_40 : decode cX4_lengthOn 40 = .ok (.if_icmp .le 18, 3) := by decide +kernel
theorem dX4_lengthOn_43 : decode cX4_lengthOn 43 = .ok (.aload_n 0, 1) := by decide +kernel
theorem dX4_lengthOn_44 : decode cX4_lengthOn 44 = .ok (.getfield 15, 3) := by decide +kernel
theorem dX4_lengthOn_47 : decode cX4_lengthOn 47 = .ok (.iload_n 2, 1) := by decide +kernel
theorem dX4_lengthOn_48 : decode cX4_lengthOn 48 = .ok (.iaload, 1) := by decide +kernel
theorem dX4_lengthOn_49 : decode cX4_lengthOn 49 = .ok (.iload 6, 2) := by decide +kernel
theorem dX4_lengthOn_51 : decode cX4_lengthOn 51 = .ok (.iload 4, 2) := by decide +kernel
theorem dX4_lengthOn_53 : decode cX4_lengthOn 53 = .ok (.isub, 1) := by decide +kernel
theorem dX4_lengthOn_54 : decode cX4_lengthOn 54 = .ok (.imul, 1) := by decide +kernel
theorem dX4_lengthOn_55 : decode cX4_lengthOn 55 = .ok (.goto 4, 3) := by decide +kernel
theorem dX4_lengthOn_58 : decode cX4_lengthOn 58 = .ok (.iconst 0, 1) := by decide +kernel
theorem dX4_lengthOn_59 : decode cX4_lengthOn 59 = .ok (.ireturn, 1) := by decide +kernel
theorem mw_X4_lengthOn : MW yX4_lengthOn cX4_lengthOn 7 0 4 false := ⟨tm 1075 (by decide +kernel) rfl, tm 242 (by decide +kernel) rfl, by decide, by decide, (by rw [if_neg (by decide)]; exact ⟨tm 1074 (by decide +kernel) rfl, tm 58 (by decide +kernel) rfl⟩)⟩
theorem fl_RX4_15 : FL RX4 15 4 1 := ⟨_, _, _, _, cw_4, by decide, Or.inr (Or.inr (Or.inr (by decide))), Or.inl (by decide), Or.inl (tm 397 (by decide +kernel) rfl)⟩
theorem fl_RX4_19 : FL RX4 19 4 2 := ⟨_, _, _, _, cw_4, by decide, Or.inr (Or.inr (Or.inr (by decide))), Or.inl (by decide), Or.inl (tm 399 (by decide +kernel) rfl)⟩
def Pr_lengthOn_J34 (pr0 : Nat) (a2 : Int) (a4 : Int) (t0 : Int) (σ : Sg) : Rs := (if a4 < t0 then (rd 8 a2 (σ (pr0 + 2) (Int.toNat a2)) (fun x3 => (some ((w32 (x3 * (w32 (t0 - a4)))), σ)))) else (some (0, σ)))
theorem ok_Pr_lengthOn_J34 (pr0 : Nat) (a2 : Int) (a4 : Int) (hpr0 : Kh[pr0]? = some (.inl 4)) : ∀ (t0 : Int) (σ : Sg), G l Kh Ph RX4 cX4_lengthOn 7 0 1 34 [some (.inr (.inr pr0)), none, some (.inl a2), none, some (.inl a4), none, none] [.inl t0] σ (Pr_lengthOn_J34 pr0 a2 a4 t0 σ) := by
  intro t0 σ
  unfold Pr_lengthOn_J34
  refine g_istore (lv' := [some (.inr (.inr pr0)), none, some (.inl a2), none, some (.inl a4), none, some (.inl t0)]) dX4_lengthOn_34 (Nat.le_of_ble_eq_true rfl) rfl ?_
  refine g_iload dX4_lengthOn_36 rfl ?_
  refine g_iload dX4_lengthOn_38 rfl ?_
  refine g_icmple (tgt := 58) dX4_lengthOn_40 (by decide) ?_ ?_
  · refine g_aload_n dX4_lengthOn_43 rfl rfl ?_
    refine g_getr' (q := (pr0 + 2)) fl_RX4_15 hpr0 (by decide) (qp1 hpr0) dX4_lengthOn_44 ?_
    refine g_iload_n dX4_lengthOn_47 rfl rfl ?_
    refine g_iald (kp1 hpr0) dX4_lengthOn_48 ?_
    intro x3
    refine g_iload dX4_lengthOn_49 rfl ?_
    refine g_iload dX4_lengthOn_51 rfl ?_
    refine g_isub dX4_lengthOn_53 ?_
    refine g_imul dX4_lengthOn_54 ?_
    refine g_goto (tgt := 59) dX4_lengthOn_55 (by decide) ?_
    exact g_iret dX4_lengthOn_59
  · refine g_iconst dX4_lengthOn_58 (by decide) ?_
    exact g_iret dX4_lengthOn_59
def Pr_lengthOn (pr0 : Nat) (a1 : Int) (a2 : Int) (a3 : Int) (a4 : Int) (σ : Sg) : Rs := (if a2 < 0 then (some (0, σ)) else (if a2 < 8 then (rd 8 a2 (σ (pr0 + 3) (Int.toNat a2)) (fun x1 => (nm (w32 (a3 + x1)) (fun x2 => (if a1 < x2 then (Pr_lengthOn_J34 pr0 a2 a4 a1 σ) else (Pr_lengthOn_J34 pr0 a2 a4 x2 σ)))))) else (some (0, σ))))
theorem ok_Pr_lengthOn (pr0 : Nat) (a1 : Int) (a2 : Int) (a3 : Int) (a4 : Int) (hpr0 : Kh[pr0]? = some (.inl 4)) (σ : Sg) : MC l Kh Ph yX4_lengthOn cX4_lengthOn 7 0 1 [.inr (.inr pr0), .inl a1, .inl a2, .inl a3, .inl a4] σ (Pr_lengthOn pr0 a1 a2 a3 a4 σ) := by
  refine mc_of (by decide) (Nat.le_of_ble_eq_true rfl) ?_
  change G l Kh Ph RX4 cX4_lengthOn 7 0 1 0 [some (.inr (.inr pr0)), some (.inl a1), some (.inl a2), some (.inl a3), some (.inl a4), none, none] [] σ (Pr_lengthOn pr0 a1 a2 a3 a4 σ)
  unfold Pr_lengthOn
  refine g_iload_n dX4_lengthOn_0 rfl rfl ?_
  refine g_iflt (tgt := 10) dX4_lengthOn_1 (by decide) ?_ ?_
  · refine g_iconst dX4_lengthOn_10 (by decide) ?_
    exact g_iret dX4_lengthOn_11
  · refine g_iload_n dX4_lengthOn_4 rfl rfl ?_
    refine g_bipush dX4_lengthOn_5 (by decide) ?_
    refine g_icmplt (tgt := 12) dX4_lengthOn_7 (by decide) ?_ ?_
    · refine g_iload_n dX4_lengthOn_12 rfl rfl ?_
      refine g_aload_n dX4_lengthOn_13 rfl rfl ?_
      refine g_getr' (q := (pr0 + 3)) fl_RX4_19 hpr0 (by decide) (qp2 hpr0) dX4_lengthOn_14 ?_
      refine g_iload_n dX4_lengthOn_17 rfl rfl ?_
      refine g_iald (kp2 hpr0) dX4_lengthOn_18 ?_
      intro x1
      refine g_iadd dX4_lengthOn_19 ?_
      refine n_istore (fun x2 => [some (.inr (.inr pr0)), some (.inl a1), some (.inl a2), some (.inl a3), some (.inl a4), some (.inl x2), none]) dX4_lengthOn_20 (Nat.le_of_ble_eq_true rfl) (fun _ => rfl) ?_
      intro x2
      refine g_iload_n dX4_lengthOn_22 rfl rfl ?_
      refine g_iload dX4_lengthOn_23 rfl ?_
      refine g_icmpge (tgt := 32) dX4_lengthOn_25 (by decide) ?_ ?_
      · refine g_iload_n dX4_lengthOn_28 rfl rfl ?_
        refine g_goto (tgt := 34) dX4_lengthOn_29 (by decide) ?_
        refine (g_weak [true, false, true, false, true, false, false] (ok_Pr_lengthOn_J34 pr0 a2 a4 hpr0 a1 σ))
      · refine g_iload dX4_lengthOn_32 rfl ?_
        refine (g_weak [true, false, true, false, true, false, false] (ok_Pr_lengthOn_J34 pr0 a2 a4 hpr0 x2 σ))
    · refine g_iconst dX4_lengthOn_10 (by decide) ?_
      exact g_iret dX4_lengthOn_11
theorem dX1_measure_0 : decode cX1_measure 0 = .ok (.iconst 0, 1) := by decide +kernel
theorem dX1_measure_1 : decode cX1_measure 1 = .ok (.istore_n 3, 1) := by decide +kernel
theorem dX1_measure_2 : decode cX1_measure 2 = .ok (.iload_n 3, 1) := by decide +kernel
theorem dX1_measure_3 : decode cX1_measure 3 = .ok (.aload_n 1, 1) := by decide +kernel
theorem dX1_measure_4 : decode cX1_measure 4 = .ok (.getfield 26, 3) := by decide +kernel
theorem dX1_measure_7 : decode cX1_measure 7 = .ok (.if_icmp .ge 63, 3) := by decide +kernel
theorem dX1_measure_10 : decode cX1_measure 10 = .ok (.iload_n 3, 1) := by decide +kernel
theorem dX1_measure_11 : decode cX1_measure 11 = .ok (.bipush 8, 2) := by decide +kernel
theorem dX1_measure_13 : decode cX1_measure 13 = .ok (.if_icmp .ge 57, 3) := by decide +kernel
theorem dX1_measure_16 : decode cX1_measure 16 = .ok (.aload_n 1, 1) := by decide +kernel
theorem dX1_measure_17 : decode cX1_measure 17 = .ok (.iload_n 2, 1) := by decide +kernel
theorem dX1_measure_18 : decode cX1_measure 18 = .ok (.iload_n 3, 1) := by decide +kernel
theorem dX1_measure_19 : decode cX1_measure 19 = .ok (.iconst 0, 1) := by decide +kernel
theorem dX1_measure_20 : decode cX1_measure 20 = .ok (.iconst 0, 1) := by decide +kernel
theorem dX1_measure_21 : decode cX1_measure 21 = .ok (.invokevirtual 31, 3) := by decide +kernel
theorem dX1_measure_24 : decode cX1_measure 24 = .ok (.istore 4, 2) := by decide +kernel
theorem dX1_measure_26 : decode cX1_measure 26 = .ok (.iconst 0, 1) := by decide +kernel
theorem dX1_measure_27 : decode cX1_measure 27 = .ok (.istore 5, 2) := by decide +kernel
theorem dX1_measure_29 : decode cX1_measure 29 = .ok (.iload 5, 2) := by decide +kernel
theorem dX1_measure_31 : decode cX1_measure 31 = .ok (.iconst 1, 1) := by decide +kernel
theorem dX1_measure_32 : decode cX1_measure 32 = .ok (.iload_n 3, 1) := by decide +kernel
theorem dX1_measure_33 : decode cX1_measure 33 = .ok (.ishl, 1) := by decide +kernel
theorem dX1_measure_34 : decode cX1_measure 34 = .ok (.if_icmp .ge 30, 3) := by decide +kernel
theorem dX1_measure_37 : decode cX1_measure 37 = .ok (.aload_n 0, 1) := by decide +kernel
theorem dX1_measure_38 : decode cX1_measure 38 = .ok (.getfield 15, 3) := by decide +kernel
theorem dX1_measure_41 : decode cX1_measure 41 = .ok (.iload 5, 2) := by decide +kernel
theorem dX1_measure_43 : decode cX1_measure 43 = .ok (.iconst 1, 1) := by decide +kernel
theorem dX1_measure_44 : decode cX1_measure 44 = .ok (.iload_n 3, 1) := by decide +kernel
theorem dX1_measure_45 : decode cX1_measure 45 = .ok (.ishl, 1) := by decide +kernel
theorem dX1_measure_46 : decode cX1_measure 46 = .ok (.ior, 1) := by decide +kernel
theorem dX1_measure_47 : decode cX1_measure 47 = .ok (.aload_n 0, 1) := by decide +kernel
theorem dX1_measure_48 : decode cX1_measure 48 = .ok (.getfield 15, 3) := by decide +kernel
theorem dX1_measure_51 : decode cX1_measure 51 = .ok (.iload 5, 2) := by decide +kernel
theorem dX1_measure_53 : decode cX1_measure 53 = .ok (.iaload, 1) := by decide +kernel
theorem dX1_measure_54 : decode cX1_measure 54 = .ok (.iload 4, 2) := by decide +kernel
theorem dX1_measure_56 : decode cX1_measure 56 = .ok (.iadd, 1) := by decide +kernel
theorem dX1_measure_57 : decode cX1_measure 57 = .ok (.iastore, 1) := by decide +kernel
theorem dX1_measure_58 : decode cX1_measure 58 = .ok (.iinc 5 1, 3) := by decide +kernel
theorem dX1_measure_61 : decode cX1_measure 61 = .ok (.goto (-32), 3) := by decide +kernel
theorem dX1_measure_64 : decode cX1_measure 64 = .ok (.iinc 3 1, 3) := by decide +kernel
theorem dX1_measure_67 : decode cX1_measure 67 = .ok (.goto (-65), 3) := by decide +kernel
theorem dX1_measure_70 : decode cX1_measure 70 = .ok (.return_, 1) := by decide +kernel
theorem mw_X1_measure : MW yX1_measure cX1_measure 6 2 2 false := ⟨tm 1305 (by decide +kernel) rfl, tm 245 (by decide +kernel) rfl, by decide, by decide, (by rw [if_neg (by decide)]; exact ⟨tm 1304 (by decide +kernel) rfl, tm 84 (by decide +kernel) rfl⟩)⟩
theorem lk_RX1_31 : LK RX1 31 yX4_lengthOn := Or.inr ⟨"HairProvince", tm 1306 (by decide +kernel) rfl⟩
theorem fl_RX1_15 : FL RX1 15 1 2 := ⟨_, _, _, _, cw_1, by decide, Or.inr (Or.inr (Or.inr (by decide))), Or.inl (by decide), Or.inl (tm 565 (by decide +kernel) rfl)⟩
theorem fl_RX1_26 : FL RX1 26 4 10 := ⟨_, _, _, _, cw_4, by decide, Or.inl (by decide), Or.inr (by decide), Or.inr ⟨"HairProvince", tm 419 (by decide +kernel) rfl⟩⟩
def Fi_measure_L29 (pr1 : Nat) (a2 : Int) (v3 : Int) (v4 : Int) (k2 : Int → Sg → Rs) : Nat → Int → Sg → Rs
  | 0, _, _ => none
  | n + 1, v5, σ => (if v5 < (sl32 1 v3) then (rd 256 v5 (σ 101 (Int.toNat v5)) (fun x3 => (wr 256 (or32 v5 (sl32 1 v3)) (up_s σ 101 (Int.toNat (or32 v5 (sl32 1 v3))) (w32 (x3 + v4))) (fun s4 => (nm (w32 (v5 + 1)) (fun x5 => (Fi_measure_L29 pr1 a2 v3 v4 k2 n x5 s4))))))) else (nm (w32 (v3 + 1)) (fun x6 => (k2 x6 σ))))
theorem ok_Fi_measure_L29 (pr1 : Nat) (a2 : Int) (v3 : Int) (v4 : Int) (hpr1 : Kh[pr1]? = some (.inl 4)) (k2 : Int → Sg → Rs) (hk2 : ∀ (y3 : Int) (σ : Sg), G l Kh Ph RX1 cX1_measure 6 2 2 2 [some (.inr (.inr 99)), some (.inr (.inr pr1)), some (.inl a2), some (.inl y3), none, none] [] σ (k2 y3 σ)) : ∀ (n : Nat) (v5 : Int) (σ : Sg), G l Kh Ph RX1 cX1_measure 6 2 2 29 [some (.inr (.inr 99)), some (.inr (.inr pr1)), some (.inl a2), some (.inl v3), some (.inl v4), some (.inl v5)] [] σ (Fi_measure_L29 pr1 a2 v3 v4 k2 n v5 σ) := by
  intro n
  induction n with
  | zero => intros; exact G.none_
  | succ n ih =>
    intro v5 σ
    rw [Fi_measure_L29]
    refine g_iload dX1_measure_29 rfl ?_
    refine g_iconst dX1_measure_31 (by decide) ?_
    refine g_iload_n dX1_measure_32 rfl rfl ?_
    refine g_ishl dX1_measure_33 ?_
    refine g_icmpge (tgt := 64) dX1_measure_34 (by decide) ?_ ?_
    · refine g_aload_n dX1_measure_37 rfl rfl ?_
      refine g_getr' (q := 101) fl_RX1_15 kh_99 (by decide) rfl dX1_measure_38 ?_
      refine g_iload dX1_measure_41 rfl ?_
      refine g_iconst dX1_measure_43 (by decide) ?_
      refine g_iload_n dX1_measure_44 rfl rfl ?_
      refine g_ishl dX1_measure_45 ?_
      refine g_ior dX1_measure_46 ?_
      refine g_aload_n dX1_measure_47 rfl rfl ?_
      refine g_getr' (q := 101) fl_RX1_15 kh_99 (by decide) rfl dX1_measure_48 ?_
      refine g_iload dX1_measure_51 rfl ?_
      refine g_iald kh_101 dX1_measure_53 ?_
      intro x3
      refine g_iload dX1_measure_54 rfl ?_
      refine g_iadd dX1_measure_56 ?_
      refine g_iast kh_101 dX1_measure_57 ?_
      intro s4
      refine n_iinc (fun x5 => [some (.inr (.inr 99)), some (.inr (.inr pr1)), some (.inl a2), some (.inl v3), some (.inl v4), some (.inl x5)]) dX1_measure_58 rfl (Nat.le_of_ble_eq_true rfl) (fun _ => rfl) ?_
      intro x5
      refine g_goto (tgt := 29) dX1_measure_61 (by decide) ?_
      exact (ih x5 s4)
    · refine n_iinc (fun x6 => [some (.inr (.inr 99)), some (.inr (.inr pr1)), some (.inl a2), some (.inl x6), some (.inl v4), some (.inl v5)]) dX1_measure_64 rfl (Nat.le_of_ble_eq_true rfl) (fun _ => rfl) ?_
      intro x6
      refine g_goto (tgt := 2) dX1_measure_67 (by decide) ?_
      exact (g_weak [true, true, true, true, false, false] (hk2 x6 σ))
def Fi_measure_L2 (pr1 : Nat) (a2 : Int) : Nat → Int → Sg → Rs
  | 0, _, _ => none
  | n + 1, v3, σ => (if v3 < (σ pr1 10) then (if v3 < 8 then (bd (Pr_lengthOn pr1 a2 v3 0 0 σ) (fun r1 s2 => (Fi_measure_L29 pr1 a2 v3 r1 (fun x7 s8 => (Fi_measure_L2 pr1 a2 n x7 s8)) fu 0 s2))) else (some (0, σ))) else (some (0, σ)))
theorem ok_Fi_measure_L2 (pr1 : Nat) (a2 : Int) (hpr1 : Kh[pr1]? = some (.inl 4)) : ∀ (n : Nat) (v3 : Int) (σ : Sg), G l Kh Ph RX1 cX1_measure 6 2 2 2 [some (.inr (.inr 99)), some (.inr (.inr pr1)), some (.inl a2), some (.inl v3), none, none] [] σ (Fi_measure_L2 pr1 a2 n v3 σ) := by
  intro n
  induction n with
  | zero => intros; exact G.none_
  | succ n ih =>
    intro v3 σ
    rw [Fi_measure_L2]
    refine g_iload_n dX1_measure_2 rfl rfl ?_
    refine g_aload_n dX1_measure_3 rfl rfl ?_
    refine g_geti fl_RX1_26 hpr1 (by decide) dX1_measure_4 ?_
    refine g_icmpge (tgt := 70) dX1_measure_7 (by decide) ?_ ?_
    · refine g_iload_n dX1_measure_10 rfl rfl ?_
      refine g_bipush dX1_measure_11 (by decide) ?_
      refine g_icmpge (tgt := 70) dX1_measure_13 (by decide) ?_ ?_
      · refine g_aload_n dX1_measure_16 rfl rfl ?_
        refine g_iload_n dX1_measure_17 rfl rfl ?_
        refine g_iload_n dX1_measure_18 rfl rfl ?_
        refine g_iconst dX1_measure_19 (by decide) ?_
        refine g_iconst dX1_measure_20 (by decide) ?_
        refine g_callv0 (st := []) 4 mw_X4_lengthOn lk_RX1_31 rfl hpr1 (ok_Pr_lengthOn pr1 a2 v3 0 0 hpr1 σ) (Nat.le_of_ble_eq_true rfl) rfl rfl (Nat.le_of_ble_eq_true rfl) dX1_measure_21 ?_
        intro r1 s2
        refine g_istore (lv' := [some (.inr (.inr 99)), some (.inr (.inr pr1)), some (.inl a2), some (.inl v3), some (.inl r1), none]) dX1_measure_24 (Nat.le_of_ble_eq_true rfl) rfl ?_
        refine g_iconst dX1_measure_26 (by decide) ?_
        refine g_istore (lv' := [some (.inr (.inr 99)), some (.inr (.inr pr1)), some (.inl a2), some (.inl v3), some (.inl r1), some (.inl 0)]) dX1_measure_27 (Nat.le_of_ble_eq_true rfl) rfl ?_
        refine (ok_Fi_measure_L29 pr1 a2 v3 r1 hpr1 _ ?_ fu 0 s2)
        · intro x7 s8
          exact (ih x7 s8)
      · exact g_vret dX1_measure_70
    · exact g_vret dX1_measure_70
def Fi_measure (pr1 : Nat) (a2 : Int) (σ : Sg) : Rs := (Fi_measure_L2 pr1 a2 fu 0 σ)
theorem ok_Fi_measure (pr1 : Nat) (a2 : Int) (hpr1 : Kh[pr1]? = some (.inl 4)) (σ : Sg) : MC l Kh Ph yX1_measure cX1_measure 6 2 2 [.inr (.inr 99), .inr (.inr pr1), .inl a2] σ (Fi_measure pr1 a2 σ) := by
  refine mc_of (by decide) (Nat.le_of_ble_eq_true rfl) ?_
  change G l Kh Ph RX1 cX1_measure 6 2 2 0 [some (.inr (.inr 99)), some (.inr (.inr pr1)), some (.inl a2), none, none, none] [] σ (Fi_measure pr1 a2 σ)
  unfold Fi_measure
  refine g_iconst dX1_measure_0 (by decide) ?_
  refine g_istore_n (lv' := [some (.inr (.inr 99)), some (.inr (.inr pr1)), some (.inl a2), some (.inl 0), none, none]) dX1_measure_1 rfl (Nat.le_of_ble_eq_true rfl) rfl ?_
  refine (ok_Fi_measure_L2 pr1 a2 hpr1 fu 0 σ)
theorem dX1_sift_0 : decode cX1_sift 0 = .ok (.aload_n 0, 1) := by decide +kernel
theorem dX1_sift_1 : decode cX1_sift 1 = .ok (.aload_n 1, 1) := by decide +kernel
theorem dX1_sift_2 : decode cX1_sift 2 = .ok (.iload_n 2, 1) := by decide +kernel
theorem dX1_sift_3 : decode cX1_sift 3 = .ok (.invokevirtual 35, 3) := by decide +kernel
theorem dX1_sift_6 : decode cX1_sift 6 = .ok (.iconst 0, 1) := by decide +kernel
theorem dX1_sift_7 : decode cX1_sift 7 = .ok (.istore 5, 2) := by decide +kernel
theorem dX1_sift_9 : decode cX1_sift 9 = .ok (.iconst 0, 1) := by decide +kernel
theorem dX1_sift_10 : decode cX1_sift 10 = .ok (.istore 6, 2) := by decide +kernel
theorem dX1_sift_12 : decode cX1_sift 12 = .ok (.iload 6, 2) := by decide +kernel
theorem dX1_sift_14 : decode cX1_sift 14 = .ok (.aload_n 0, 1) := by decide +kernel
theorem dX1_sift_15 : decode cX1_sift 15 = .ok (.getfield 22, 3) := by decide +kernel
theorem dX1_sift_18 : decode cX1_sift 18 = .ok (.if_icmp .ge 52, 3) := by decide +kernel
theorem dX1_sift_21 : decode cX1_sift 21 = .ok (.iload 6, 2) := by decide +kernel
theorem dX1_sift_23 : decode cX1_sift 23 = .ok (.sipush 256, 3) := by decide +kernel
theorem dX1_sift_26 : decode cX1_sift 26 = .ok (.if_icmp .ge 44, 3) := by decide +kernel
theorem dX1_sift_29 : decode cX1_sift 29 = .ok (.aload_n 0, 1) := by decide +kernel
theorem dX1_sift_30 : decode cX1_sift 30 = .ok (.getfield 15, 3) := by decide +kernel
theorem dX1_sift_33 : decode cX1_sift 33 = .ok (.aload_n 0, 1) := by decide +kernel
theorem dX1_sift_34 : decode cX1_sift 34 = .ok (.getfield 11, 3) := by decide +kernel
theorem dX1_sift_37 : decode cX1_sift 37 = .ok (.iload 6, 2) := by decide +kernel
theorem dX1_sift_39 : decode cX1_sift 39 = .ok (.iaload, 1) := by decide +kernel
theorem dX1_sift_40 : decode cX1_sift 40 = .ok (.iaload, 1) := by decide +kernel
theorem dX1_sift_41 : decode cX1_sift 41 = .ok (.i2l, 1) := by decide +kernel
theorem dX1_sift_42 : decode cX1_sift 42 = .ok (.lload_n 3, 1) := by decide +kernel
theorem dX1_sift_43 : decode cX1_sift 43 = .ok (.lcmp, 1) := by decide +kernel
theorem dX1_sift_44 : decode cX1_sift 44 = .ok (.ifCond .ne 20, 3) := by decide +kernel
theorem dX1_sift_47 : decode cX1_sift 47 = .ok (.aload_n 0, 1) := by decide +kernel
theorem dX1_sift_48 : decode cX1_sift 48 = .ok (.getfield 11, 3) := by decide +kernel
theorem dX1_sift_51 : decode cX1_sift 51 = .ok (.iload 5, 2) := by decide +kernel
theorem dX1_sift_53 : decode cX1_sift 53 = .ok (.aload_n 0, 1) := by decide +kernel
theorem dX1_sift_54 : decode cX1_sift 54 = .ok (.getfield 11, 3) := by decide +kernel
theorem dX1_sift_57 : decode cX1_sift 57 = .ok (.iload 6, 2) := by decide +kernel
theorem dX1_sift_59 : decode cX1_sift 59 = .ok (.iaload, 1) := by decide +kernel
theorem dX1_sift_60 : decode cX1_sift 60 = .ok (.iastore, 1) := by decide +kernel
theorem dX1_sift_61 : decode cX1_sift 61 = .ok (.iinc 5 1, 3) := by decide +kernel
theorem dX1_sift_64 : decode cX1_sift 64 = .ok (.iinc 6 1, 3) := by decide +kernel
theorem dX1_sift_67 : decode cX1_sift 67 = .ok (.goto (-55), 3) := by decide +kernel
theorem dX1_sift_70 : decode cX1_sift 70 = .ok (.aload_n 0, 1) := by decide +kernel
theorem dX1_sift_71 : decode cX1_sift 71 = .ok (.iload 5, 2) := by decide +kernel
theorem dX1_sift_73 : decode cX1_sift 73 = .ok (.putfield 22, 3) := by decide +kernel
theorem dX1_sift_76 : decode cX1_sift 76 = .ok (.return_, 1) := by decide +kernel
theorem mw_X1_sift : MW yX1_sift cX1_sift 7 2 3 false := ⟨tm 1301 (by decide +kernel) rfl, tm 245 (by decide +kernel) rfl, by decide, by decide, (by rw [if_neg (by decide)]; exact ⟨tm 1300 (by decide +kernel) rfl, tm 83 (by decide +kernel) rfl⟩)⟩
theorem lk_RX1_35 : LK RX1 35 yX1_measure := Or.inl (tm 1302 (by decide +kernel) rfl)
theorem fl_RX1_11 : FL RX1 11 1 0 := ⟨_, _, _, _, cw_1, by decide, Or.inr (Or.inr (Or.inr (by decide))), Or.inl (by decide), Or.inl (tm 562 (by decide +kernel) rfl)⟩
theorem fl_RX1_22 : FL RX1 22 1 1 := ⟨_, _, _, _, cw_1, by decide, Or.inl (by decide), Or.inr (by decide), Or.inl (tm 563 (by decide +kernel) rfl)⟩
def Fi_sift_L12 (a3 : Int) : Nat → Int → Int → Sg → Rs
  | 0, _, _, _ => none
  | n + 1, v5, v6, σ => (if v6 < (σ 99 1) then (if v6 < 256 then (rd 256 v6 (σ 100 (Int.toNat v6)) (fun x3 => (rd 256 x3 (σ 101 (Int.toNat x3)) (fun x4 => (if x4 = a3 then (rd 256 v6 (σ 100 (Int.toNat v6)) (fun x5 => (wr 256 v5 (up_s σ 100 (Int.toNat v5) x5) (fun s6 => (nm (w32 (v5 + 1)) (fun x7 => (nm (w32 (v6 + 1)) (fun x8 => (Fi_sift_L12 a3 n x7 x8 s6))))))))) else (nm (w32 (v6 + 1)) (fun x9 => (Fi_sift_L12 a3 n v5 x9 σ)))))))) else (nm (up_s σ 99 1 v5) (fun s10 => (some (0, s10))))) else (nm (up_s σ 99 1 v5) (fun s11 => (some (0, s11)))))
theorem ok_Fi_sift_L12 (a3 : Int) : ∀ (n : Nat) (v5 v6 : Int) (σ : Sg), G l Kh Ph RX1 cX1_sift 7 2 3 12 [some (.inr (.inr 99)), none, none, some (.inr (.inl a3)), none, some (.inl v5), some (.inl v6)] [] σ (Fi_sift_L12 a3 n v5 v6 σ) := by
  intro n
  induction n with
  | zero => intros; exact G.none_
  | succ n ih =>
    intro v5 v6 σ
    rw [Fi_sift_L12]
    refine g_iload dX1_sift_12 rfl ?_
    refine g_aload_n dX1_sift_14 rfl rfl ?_
    refine g_geti fl_RX1_22 kh_99 (by decide) dX1_sift_15 ?_
    refine g_icmpge (tgt := 70) dX1_sift_18 (by decide) ?_ ?_
    · refine g_iload dX1_sift_21 rfl ?_
      refine g_sipush dX1_sift_23 (by decide) ?_
      refine g_icmpge (tgt := 70) dX1_sift_26 (by decide) ?_ ?_
      · refine g_aload_n dX1_sift_29 rfl rfl ?_
        refine g_getr' (q := 101) fl_RX1_15 kh_99 (by decide) rfl dX1_sift_30 ?_
        refine g_aload_n dX1_sift_33 rfl rfl ?_
        refine g_getr' (q := 100) fl_RX1_11 kh_99 (by decide) rfl dX1_sift_34 ?_
        refine g_iload dX1_sift_37 rfl ?_
        refine g_iald kh_100 dX1_sift_39 ?_
        intro x3
        refine g_iald kh_101 dX1_sift_40 ?_
        intro x4
        refine g_i2l dX1_sift_41 ?_
        refine g_lload_n dX1_sift_42 rfl rfl ?_
        refine g_lcmpne (tgt := 64) dX1_sift_43 dX1_sift_44 (by decide) ?_ ?_
        · refine g_aload_n dX1_sift_47 rfl rfl ?_
          refine g_getr' (q := 100) fl_RX1_11 kh_99 (by decide) rfl dX1_sift_48 ?_
          refine g_iload dX1_sift_51 rfl ?_
          refine g_aload_n dX1_sift_53 rfl rfl ?_
          refine g_getr' (q := 100) fl_RX1_11 kh_99 (by decide) rfl dX1_sift_54 ?_
          refine g_iload dX1_sift_57 rfl ?_
          refine g_iald kh_100 dX1_sift_59 ?_
          intro x5
          refine g_iast kh_100 dX1_sift_60 ?_
          intro s6
          refine n_iinc (fun x7 => [some (.inr (.inr 99)), none, none, some (.inr (.inl a3)), none, some (.inl x7), some (.inl v6)]) dX1_sift_61 rfl (Nat.le_of_ble_eq_true rfl) (fun _ => rfl) ?_
          intro x7
          refine n_iinc (fun x8 => [some (.inr (.inr 99)), none, none, some (.inr (.inl a3)), none, some (.inl x7), some (.inl x8)]) dX1_sift_64 rfl (Nat.le_of_ble_eq_true rfl) (fun _ => rfl) ?_
          intro x8
          refine g_goto (tgt := 12) dX1_sift_67 (by decide) ?_
          exact (ih x7 x8 s6)
        · refine n_iinc (fun x9 => [some (.inr (.inr 99)), none, none, some (.inr (.inl a3)), none, some (.inl v5), some (.inl x9)]) dX1_sift_64 rfl (Nat.le_of_ble_eq_true rfl) (fun _ => rfl) ?_
          intro x9
          refine g_goto (tgt := 12) dX1_sift_67 (by decide) ?_
          exact (ih v5 x9 σ)
      · refine g_aload_n dX1_sift_70 rfl rfl ?_
        refine g_iload dX1_sift_71 rfl ?_
        refine g_puti fl_RX1_22 kh_99 (by decide) dX1_sift_73 ?_
        intro s10
        exact g_vret dX1_sift_76
    · refine g_aload_n dX1_sift_70 rfl rfl ?_
      refine g_iload dX1_sift_71 rfl ?_
      refine g_puti fl_RX1_22 kh_99 (by decide) dX1_sift_73 ?_
      intro s11
      exact g_vret dX1_sift_76
def Fi_sift (pr1 : Nat) (a2 : Int) (a3 : Int) (σ : Sg) : Rs := (bd (Fi_measure pr1 a2 σ) (fun r1 s2 => (Fi_sift_L12 a3 fu 0 0 s2)))
theorem ok_Fi_sift (pr1 : Nat) (a2 : Int) (a3 : Int) (hpr1 : Kh[pr1]? = some (.inl 4)) (σ : Sg) : MC l Kh Ph yX1_sift cX1_sift 7 2 3 [.inr (.inr 99), .inr (.inr pr1), .inl a2, .inr (.inl a3)] σ (Fi_sift pr1 a2 a3 σ) := by
  refine mc_of (by decide) (Nat.le_of_ble_eq_true rfl) ?_
  change G l Kh Ph RX1 cX1_sift 7 2 3 0 [some (.inr (.inr 99)), some (.inr (.inr pr1)), some (.inl a2), some (.inr (.inl a3)), none, none, none] [] σ (Fi_sift pr1 a2 a3 σ)
  unfold Fi_sift
  refine g_aload_n dX1_sift_0 rfl rfl ?_
  refine g_aload_n dX1_sift_1 rfl rfl ?_
  refine g_iload_n dX1_sift_2 rfl rfl ?_
  refine g_callv2 (st := []) 1 mw_X1_measure lk_RX1_35 rfl kh_99 (ok_Fi_measure pr1 a2 hpr1 σ) (Nat.le_of_ble_eq_true rfl) rfl rfl (Nat.le_of_ble_eq_true rfl) dX1_sift_3 ?_
  intro r1 s2
  refine g_iconst dX1_sift_6 (by decide) ?_
  refine g_istore (lv' := [some (.inr (.inr 99)), some (.inr (.inr pr1)), some (.inl a2), some (.inr (.inl a3)), none, some (.inl 0), none]) dX1_sift_7 (Nat.le_of_ble_eq_true rfl) rfl ?_
  refine g_iconst dX1_sift_9 (by decide) ?_
  refine g_istore (lv' := [some (.inr (.inr 99)), some (.inr (.inr pr1)), some (.inl a2), some (.inr (.inl a3)), none, some (.inl 0), some (.inl 0)]) dX1_sift_10 (Nat.le_of_ble_eq_true rfl) rfl ?_
  refine (g_weak [true, false, false, true, false, true, true] (ok_Fi_sift_L12 a3 fu 0 0 s2))
theorem dX1_startAll_0 : decode cX1_startAll 0 = .ok (.aload_n 0, 1) := by decide +kernel
theorem dX1_startAll_1 : decode cX1_startAll 1 = .ok (.iconst 0, 1) := by decide +kernel
theorem dX1_startAll_2 : decode cX1_startAll 2 = .ok (.putfield 22, 3) := by decide +kernel
theorem dX1_startAll_5 : decode cX1_startAll 5 = .ok (.iconst 0, 1) := by decide +kernel
theorem dX1_startAll_6 : decode cX1_startAll 6 = .ok (.istore_n 2, 1) := by decide +kernel
theorem dX1_startAll_7 : decode cX1_startAll 7 = .ok (.iload_n 2, 1) := by decide +kernel
theorem dX1_startAll_8 : decode cX1_startAll 8 = .ok (.sipush 256, 3) := by decide +kernel
theorem dX1_startAll_11 : decode cX1_startAll 11 = .ok (.if_icmp .ge 39, 3) := by decide +kernel
theorem dX1_startAll_14 : decode cX1_startAll 14 = .ok (.iload_n 2, 1) := by decide +kernel
theorem dX1_startAll_15 : decode cX1_startAll 15 = .ok (.iconst 1, 1) := by decide +kernel
theorem dX1_startAll_16 : decode cX1_startAll 16 = .ok (.aload_n 1, 1) := by decide +kernel
theorem dX1_startAll_17 : decode cX1_startAll 17 = .ok (.getfield 26, 3) := by decide +kernel
theorem dX1_startAll_20 : decode cX1_startAll 20 = .ok (.ishl, 1) := by decide +kernel
theorem dX1_startAll_21 : decode cX1_startAll 21 = .ok (.if_icmp .ge 29, 3) := by decide +kernel
theorem dX1_startAll_24 : decode cX1_startAll 24 = .ok (.aload_n 0, 1) := by decide +kernel
theorem dX1_startAll_25 : decode cX1_startAll 25 = .ok (.getfield 11, 3) := by decide +kernel
theorem dX1_startAll_28 : decode cX1_startAll 28 = .ok (.aload_n 0, 1) := by decide +kernel
theorem dX1_startAll_29 : decode cX1_startAll 29 = .ok (.getfield 22, 3) := by decide +kernel
theorem dX1_startAll_32 : decode cX1_startAll 32 = .ok (.iload_n 2, 1) := by decide +kernel
theorem dX1_startAll_33 : decode cX1_startAll 33 = .ok (.iastore, 1) := by decide +kernel
theorem dX1_startAll_34 : decode cX1_startAll 34 = .ok (.aload_n 0, 1) := by decide +kernel
theorem dX1_startAll_35 : decode cX1_startAll 35 = .ok (.dup, 1) := by decide +kernel
theorem dX1_startAll_36 : decode cX1_startAll 36 = .ok (.getfield 22, 3) := by decide +kernel
theorem dX1_startAll_39 : decode cX1_startAll 39 = .ok (.iconst 1, 1) := by decide +kernel
theorem dX1_startAll_40 : decode cX1_startAll 40 = .ok (.iadd, 1) := by decide +kernel
theorem dX1_startAll_41 : decode cX1_startAll 41 = .ok (.putfield 22, 3) := by decide +kernel
theorem dX1_startAll_44 : decode cX1_startAll 44 = .ok (.iinc 2 1, 3) := by decide +kernel
theorem dX1_startAll_47 : decode cX1_startAll 47 = .ok (.goto (-40), 3) := by decide +kernel
theorem dX1_startAll_50 : decode cX1_startAll 50 = .ok (.return_, 1) := by decide +kernel
theorem mw_X1_startAll : MW yX1_startAll cX1_startAll 3 2 1 false := ⟨tm 1297 (by decide +kernel) rfl, tm 245 (by decide +kernel) rfl, by decide, by decide, (by rw [if_neg (by decide)]; exact ⟨tm 1296 (by decide +kernel) rfl, tm 82 (by decide +kernel) rfl⟩)⟩
def Fi_startAll_L7 (pr1 : Nat) : Nat → Int → Sg → Rs
  | 0, _, _ => none
  | n + 1, v2, σ => (if v2 < 256 then (if v2 < (sl32 1 (σ pr1 10)) then (wr 256 (σ 99 1) (up_s σ 100 (Int.toNat (σ 99 1)) v2) (fun s2 => (nm (up_s s2 99 1 (w32 ((s2 99 1) + 1))) (fun s3 => (nm (w32 (v2 + 1)) (fun x4 => (Fi_startAll_L7 pr1 n x4 s3))))))) else (some (0, σ))) else (some (0, σ)))
theorem ok_Fi_startAll_L7 (pr1 : Nat) (hpr1 : Kh[pr1]? = some (.inl 4)) : ∀ (n : Nat) (v2 : Int) (σ : Sg), G l Kh Ph RX1 cX1_startAll 3 2 1 7 [some (.inr (.inr 99)), some (.inr (.inr pr1)), some (.inl v2)] [] σ (Fi_startAll_L7 pr1 n v2 σ) := by
  intro n
  induction n with
  | zero => intros; exact G.none_
  | succ n ih =>
    intro v2 σ
    rw [Fi_startAll_L7]
    refine g_iload_n dX1_startAll_7 rfl rfl ?_
    refine g_sipush dX1_startAll_8 (by decide) ?_
    refine g_icmpge (tgt := 50) dX1_startAll_11 (by decide) ?_ ?_
    · refine g_iload_n dX1_startAll_14 rfl rfl ?_
      refine g_iconst dX1_startAll_15 (by decide) ?_
      refine g_aload_n dX1_startAll_16 rfl rfl ?_
      refine g_geti fl_RX1_26 hpr1 (by decide) dX1_startAll_17 ?_
      refine g_ishl dX1_startAll_20 ?_
      refine g_icmpge (tgt := 50) dX1_startAll_21 (by decide) ?_ ?_
      · refine g_aload_n dX1_startAll_24 rfl rfl ?_
        refine g_getr' (q := 100) fl_RX1_11 kh_99 (by decide) rfl dX1_startAll_25 ?_
        refine g_aload_n dX1_startAll_28 rfl rfl ?_
        refine g_geti fl_RX1_22 kh_99 (by decide) dX1_startAll_29 ?_
        refine g_iload_n dX1_startAll_32 rfl rfl ?_
        refine g_iast kh_100 dX1_startAll_33 ?_
        intro s2
        refine g_aload_n dX1_startAll_34 rfl rfl ?_
        refine g_dup dX1_startAll_35 rfl ?_
        refine g_geti fl_RX1_22 kh_99 (by decide) dX1_startAll_36 ?_
        refine g_iconst dX1_startAll_39 (by decide) ?_
        refine g_iadd dX1_startAll_40 ?_
        refine g_puti fl_RX1_22 kh_99 (by decide) dX1_startAll_41 ?_
        intro s3
        refine n_iinc (fun x4 => [some (.inr (.inr 99)), some (.inr (.inr pr1)), some (.inl x4)]) dX1_startAll_44 rfl (Nat.le_of_ble_eq_true rfl) (fun _ => rfl) ?_
        intro x4
        refine g_goto (tgt := 7) dX1_startAll_47 (by decide) ?_
        exact (ih x4 s3)
      · exact g_vret dX1_startAll_50
    · exact g_vret dX1_startAll_50
def Fi_startAll (pr1 : Nat) (σ : Sg) : Rs := (nm (up_s σ 99 1 0) (fun s1 => (Fi_startAll_L7 pr1 fu 0 s1)))
theorem ok_Fi_startAll (pr1 : Nat) (hpr1 : Kh[pr1]? = some (.inl 4)) (σ : Sg) : MC l Kh Ph yX1_startAll cX1_startAll 3 2 1 [.inr (.inr 99), .inr (.inr pr1)] σ (Fi_startAll pr1 σ) := by
  refine mc_of (by decide) (Nat.le_of_ble_eq_true rfl) ?_
  change G l Kh Ph RX1 cX1_startAll 3 2 1 0 [some (.inr (.inr 99)), some (.inr (.inr pr1)), none] [] σ (Fi_startAll pr1 σ)
  unfold Fi_startAll
  refine g_aload_n dX1_startAll_0 rfl rfl ?_
  refine g_iconst dX1_startAll_1 (by decide) ?_
  refine g_puti fl_RX1_22 kh_99 (by decide) dX1_startAll_2 ?_
  intro s1
  refine g_iconst dX1_startAll_5 (by decide) ?_
  refine g_istore_n (lv' := [some (.inr (.inr 99)), some (.inr (.inr pr1)), some (.inl 0)]) dX1_startAll_6 rfl (Nat.le_of_ble_eq_true rfl) rfl ?_
  refine (ok_Fi_startAll_L7 pr1 hpr1 fu 0 s1)
theorem dX8_hasRow_0 : decode cX8_hasRow 0 = .ok (.iload_n 2, 1) := by decide +kernel
theorem dX8_hasRow_1 : decode cX8_hasRow 1 = .ok (.ifCond .lt 26, 3) := by decide +kernel
theorem dX8_hasRow_4 : decode cX8_hasRow 4 = .ok (.iload_n 3, 1) := by decide +kernel
theorem dX8_hasRow_5 : decode cX8_hasRow 5 = .ok (.ifCond .lt 22, 3) := by decide +kernel
theorem dX8_hasRow_8 : decode cX8_hasRow 8 = .ok (.iload_n 2, 1) := by decide +kernel
theorem dX8_hasRow_9 : decode cX8_hasRow 9 = .ok (.i2l, 1) := by decide +kernel
theorem dX8_hasRow_10 : decode cX8_hasRow 10 = .ok (.iload_n 3, 1) := by decide +kernel
theorem dX8_hasRow_11 : decode cX8_hasRow 11 = .ok (.i2l, 1) := by decide +kernel
theorem dX8_hasRow_12 : decode cX8_hasRow 12 = .ok (.ladd, 1) := by decide +kernel
theorem dX8_hasRow_13 : decode cX8_hasRow 13 = .ok (.aload_n 0, 1) := by decide +kernel
theorem dX8_hasRow_14 : decode cX8_hasRow 14 = .ok (.iload_n 1, 1) := by decide +kernel
theorem dX8_hasRow_15 : decode cX8_hasRow 15 = .ok (.invokevirtual 26, 3) := by decide +kernel
theorem dX8_hasRow_18 : decode cX8_hasRow 18 = .ok (.i2l, 1) := by decide +kernel
theorem dX8_hasRow_19 : decode cX8_hasRow 19 = .ok (.lcmp, 1) := by decide +kernel
theorem dX8_hasRow_20 : decode cX8_hasRow 20 = .ok (.ifCond .gt 7, 3) := by decide +kernel
theorem dX8_hasRow_23 : decode cX8_hasRow 23 = .ok (.iconst 1, 1) := by decide +kernel
theorem dX8_hasRow_24 : decode cX8_hasRow 24 = .ok (.goto 4, 3) := by decide +kernel
theorem dX8_hasRow_27 : decode cX8_hasRow 27 = .ok (.iconst 0, 1) := by decide +kernel
theorem dX8_hasRow_28 : decode cX8_hasRow 28 = .ok (.ireturn, 1) := by decide +kernel
theorem mw_X8_hasRow : MW yX8_hasRow cX8_hasRow 4 3 3 false := ⟨tm 750 (by decide +kernel) rfl, tm 236 (by decide +kernel) rfl, by decide, by decide, (by rw [if_neg (by decide)]; exact ⟨tm 749 (by decide +kernel) rfl, tm 10 (by decide +kernel) rfl⟩)⟩
theorem lk_RX8_26 : LK RX8 26 yX8_sizeOf := Or.inl (tm 751 (by decide +kernel) rfl)
def Tr_hasRow (a1 : Int) (a2 : Int) (a3 : Int) (σ : Sg) : Rs := (if a2 < 0 then (some (0, σ)) else (if a3 < 0 then (some (0, σ)) else (bd (Tr_sizeOf a1 σ) (fun r1 s2 => (if r1 < (w64 (a2 + a3)) then (some (0, s2)) else (some (1, s2)))))))
theorem ok_Tr_hasRow (a1 : Int) (a2 : Int) (a3 : Int) (σ : Sg) : MC l Kh Ph yX8_hasRow cX8_hasRow 4 3 3 [.inr (.inr 1), .inl a1, .inl a2, .inl a3] σ (Tr_hasRow a1 a2 a3 σ) := by
  refine mc_of (by decide) (Nat.le_of_ble_eq_true rfl) ?_
  change G l Kh Ph RX8 cX8_hasRow 4 3 3 0 [some (.inr (.inr 1)), some (.inl a1), some (.inl a2), some (.inl a3)] [] σ (Tr_hasRow a1 a2 a3 σ)
  unfold Tr_hasRow
  refine g_iload_n dX8_hasRow_0 rfl rfl ?_
  refine g_iflt (tgt := 27) dX8_hasRow_1 (by decide) ?_ ?_
  · refine g_iconst dX8_hasRow_27 (by decide) ?_
    exact g_zret0 dX8_hasRow_28
  · refine g_iload_n dX8_hasRow_4 rfl rfl ?_
    refine g_iflt (tgt := 27) dX8_hasRow_5 (by decide) ?_ ?_
    · refine g_iconst dX8_hasRow_27 (by decide) ?_
      exact g_zret0 dX8_hasRow_28
    · refine g_iload_n dX8_hasRow_8 rfl rfl ?_
      refine g_i2l dX8_hasRow_9 ?_
      refine g_iload_n dX8_hasRow_10 rfl rfl ?_
      refine g_i2l dX8_hasRow_11 ?_
      refine g_ladd dX8_hasRow_12 ?_
      refine g_aload_n dX8_hasRow_13 rfl rfl ?_
      refine g_iload_n dX8_hasRow_14 rfl rfl ?_
      refine g_callv0 (st := [.inr (.inl (w64 (a2 + a3)))]) 7 mw_X8_sizeOf lk_RX8_26 rfl kh_1 (ok_Tr_sizeOf a1 σ) (Nat.le_of_ble_eq_true rfl) rfl rfl (Nat.le_of_ble_eq_true rfl) dX8_hasRow_15 ?_
      intro r1 s2
      refine g_i2l dX8_hasRow_18 ?_
      refine g_lcmpgt (tgt := 27) dX8_hasRow_19 dX8_hasRow_20 (by decide) ?_ ?_
      · refine g_iconst dX8_hasRow_27 (by decide) ?_
        exact g_zret0 dX8_hasRow_28
      · refine g_iconst dX8_hasRow_23 (by decide) ?_
        refine g_goto (tgt := 28) dX8_hasRow_24 (by decide) ?_
        exact g_zret1 dX8_hasRow_28
theorem dX8_at_0 : decode cX8_at 0 = .ok (.aload_n 0, 1) := by decide +kernel
theorem dX8_at_1 : decode cX8_at 1 = .ok (.iload_n 1, 1) := by decide +kernel
theorem dX8_at_2 : decode cX8_at 2 = .ok (.iload_n 2, 1) := by decide +kernel
theorem dX8_at_3 : decode cX8_at 3 = .ok (.iconst 1, 1) := by decide +kernel
theorem dX8_at_4 : decode cX8_at 4 = .ok (.invokevirtual 30, 3) := by decide +kernel
theorem dX8_at_7 : decode cX8_at 7 = .ok (.ifCond .eq 17, 3) := by decide +kernel
theorem dX8_at_10 : decode cX8_at 10 = .ok (.aload_n 0, 1) := by decide +kernel
theorem dX8_at_11 : decode cX8_at 11 = .ok (.getfield 18, 3) := by decide +kernel
theorem dX8_at_14 : decode cX8_at 14 = .ok (.iload_n 1, 1) := by decide +kernel
theorem dX8_at_15 : decode cX8_at 15 = .ok (.bipush 60, 2) := by decide +kernel
theorem dX8_at_17 : decode cX8_at 17 = .ok (.imul, 1) := by decide +kernel
theorem dX8_at_18 : decode cX8_at 18 = .ok (.iload_n 2, 1) := by decide +kernel
theorem dX8_at_19 : decode cX8_at 19 = .ok (.iadd, 1) := by decide +kernel
theorem dX8_at_20 : decode cX8_at 20 = .ok (.laload, 1) := by decide +kernel
theorem dX8_at_21 : decode cX8_at 21 = .ok (.goto 4, 3) := by decide +kernel
theorem dX8_at_24 : decode cX8_at 24 = .ok (.lconst 0, 1) := by decide +kernel
theorem dX8_at_25 : decode cX8_at 25 = .ok (.lreturn, 1) := by decide +kernel
theorem mw_X8_at : MW yX8_at cX8_at 3 1 2 false := ⟨tm 766 (by decide +kernel) rfl, tm 236 (by decide +kernel) rfl, by decide, by decide, (by rw [if_neg (by decide)]; exact ⟨tm 765 (by decide +kernel) rfl, tm 12 (by decide +kernel) rfl⟩)⟩
theorem lk_RX8_30 : LK RX8 30 yX8_hasRow := Or.inl (tm 747 (by decide +kernel) rfl)
theorem fl_RX8_18 : FL RX8 18 7 2 := ⟨_, _, _, _, cw_7, by decide, Or.inr (Or.inr (Or.inr (by decide))), Or.inl (by decide), Or.inl (tm 271 (by decide +kernel) rfl)⟩
def Tr_at (a1 : Int) (a2 : Int) (σ : Sg) : Rs := (bd (Tr_hasRow a1 a2 1 σ) (fun r1 s2 => (if r1 = 0 then (some (0, s2)) else (rd 240 (w32 ((w32 (a1 * 60)) + a2)) (s2 4 (Int.toNat (w32 ((w32 (a1 * 60)) + a2)))) (fun x3 => (some (x3, s2)))))))
theorem ok_Tr_at (a1 : Int) (a2 : Int) (σ : Sg) : MC l Kh Ph yX8_at cX8_at 3 1 4 [.inr (.inr 1), .inl a1, .inl a2] σ (Tr_at a1 a2 σ) := by
  refine mc_of (by decide) (Nat.le_of_ble_eq_true rfl) ?_
  change G l Kh Ph RX8 cX8_at 3 1 4 0 [some (.inr (.inr 1)), some (.inl a1), some (.inl a2)] [] σ (Tr_at a1 a2 σ)
  unfold Tr_at
  refine g_aload_n dX8_at_0 rfl rfl ?_
  refine g_iload_n dX8_at_1 rfl rfl ?_
  refine g_iload_n dX8_at_2 rfl rfl ?_
  refine g_iconst dX8_at_3 (by decide) ?_
  refine g_callv3 (st := []) 7 mw_X8_hasRow lk_RX8_30 rfl kh_1 (ok_Tr_hasRow a1 a2 1 σ) (Nat.le_of_ble_eq_true rfl) rfl rfl (Nat.le_of_ble_eq_true rfl) dX8_at_4 ?_
  intro r1 s2
  refine g_ifeq (tgt := 24) dX8_at_7 (by decide) ?_ ?_
  · refine g_lconst (v := 0) dX8_at_24 (by decide) ?_
    exact g_lret dX8_at_25
  · refine g_aload_n dX8_at_10 rfl rfl ?_
    refine g_getr' (q := 4) fl_RX8_18 kh_1 (by decide) rfl dX8_at_11 ?_
    refine g_iload_n dX8_at_14 rfl rfl ?_
    refine g_bipush dX8_at_15 (by decide) ?_
    refine g_imul dX8_at_17 ?_
    refine g_iload_n dX8_at_18 rfl rfl ?_
    refine g_iadd dX8_at_19 ?_
    refine g_lald kh_4 dX8_at_20 ?_
    intro x3
    refine g_goto (tgt := 25) dX8_at_21 (by decide) ?_
    exact g_lret dX8_at_25
theorem dX11_gather_0 : decode cX11_gather 0 = .ok (.aload_n 0, 1) := by decide +kernel
theorem dX11_gather_1 : decode cX11_gather 1 = .ok (.iload_n 1, 1) := by decide +kernel
theorem dX11_gather_2 : decode cX11_gather 2 = .ok (.iload_n 2, 1) := by decide +kernel
theorem dX11_gather_3 : decode cX11_gather 3 = .ok (.invokevirtual 351, 3) := by decide +kernel
theorem dX11_gather_6 : decode cX11_gather 6 = .ok (.istore_n 3, 1) := by decide +kernel
theorem dX11_gather_7 : decode cX11_gather 7 = .ok (.iload_n 3, 1) := by decide +kernel
theorem dX11_gather_8 : decode cX11_gather 8 = .ok (.ifCond .eq 5, 3) := by decide +kernel
theorem dX11_gather_11 : decode cX11_gather 11 = .ok (.iload_n 3, 1) := by decide +kernel
theorem dX11_gather_12 : decode cX11_gather 12 = .ok (.ireturn, 1) := by decide +kernel
theorem dX11_gather_13 : decode cX11_gather 13 = .ok (.iconst 0, 1) := by decide +kernel
theorem dX11_gather_14 : decode cX11_gather 14 = .ok (.istore 4, 2) := by decide +kernel
theorem dX11_gather_16 : decode cX11_gather 16 = .ok (.iload 4, 2) := by decide +kernel
theorem dX11_gather_18 : decode cX11_gather 18 = .ok (.iload_n 2, 1) := by decide +kernel
theorem dX11_gather_19 : decode cX11_gather 19 = .ok (.if_icmp .ge 60, 3) := by decide +kernel
theorem dX11_gather_22 : decode cX11_gather 22 = .ok (.aload_n 0, 1) := by decide +kernel
theorem dX11_gather_23 : decode cX11_gather 23 = .ok (.getfield 29, 3) := by decide +kernel
theorem dX11_gather_26 : decode cX11_gather 26 = .ok (.iload_n 1, 1) := by decide +kernel
theorem dX11_gather_27 : decode cX11_gather 27 = .ok (.iconst 2, 1) := by decide +kernel
theorem dX11_gather_28 : decode cX11_gather 28 = .ok (.iload 4, 2) := by decide +kernel
theorem dX11_gather_30 : decode cX11_gather 30 = .ok (.imul, 1) := by decide +kernel
theorem dX11_gather_31 : decode cX11_gather 31 = .ok (.invokevirtual 150, 3) := by decide +kernel
theorem dX11_gather_34 : decode cX11_gather 34 = .ok (.lstore 5, 2) := by decide +kernel
theorem dX11_gather_36 : decode cX11_gather 36 = .ok (.lload 5, 2) := by decide +kernel
theorem dX11_gather_38 : decode cX11_gather 38 = .ok (.lconst 0, 1) := by decide +kernel
theorem dX11_gather_39 : decode cX11_gather 39 = .ok (.lcmp, 1) := by decide +kernel
theorem dX11_gather_40 : decode cX11_gather 40 = .ok (.ifCond .lt 31, 3) := by decide +kernel
theorem dX11_gather_43 : decode cX11_gather 43 = .ok (.lload 5, 2) := by decide +kernel
theorem dX11_gather_45 : decode cX11_gather 45 = .ok (.ldc2_w 354, 3) := by decide +kernel
theorem dX11_gather_48 : decode cX11_gather 48 = .ok (.lcmp, 1) := by decide +kernel
theorem dX11_gather_49 : decode cX11_gather 49 = .ok (.ifCond .gt 22, 3) := by decide +kernel
theorem dX11_gather_52 : decode cX11_gather 52 = .ok (.aload_n 0, 1) := by decide +kernel
theorem dX11_gather_53 : decode cX11_gather 53 = .ok (.getfield 29, 3) := by decide +kernel
theorem dX11_gather_56 : decode cX11_gather 56 = .ok (.iload_n 1, 1) := by decide +kernel
theorem dX11_gather_57 : decode cX11_gather 57 = .ok (.iconst 2, 1) := by decide +kernel
theorem dX11_gather_58 : decode cX11_gather 58 = .ok (.iload 4, 2) := by decide +kernel
theorem dX11_gather_60 : decode cX11_gather 60 = .ok (.imul, 1) := by decide +kernel
theorem dX11_gather_61 : decode cX11_gather 61 = .ok (.iconst 1, 1) := by decide +kernel
theorem dX11_gather_62 : decode cX11_gather 62 = .ok (.iadd, 1) := by decide +kernel
theorem dX11_gather_63 : decode cX11_gather 63 = .ok (.invokevirtual 150, 3) := by decide +kernel
theorem dX11_gather_66 : decode cX11_gather 66 = .ok (.lconst 0, 1) := by decide +kernel
theorem dX11_gather_67 : decode cX11_gather 67 = .ok (.lcmp, 1) := by decide +kernel
theorem dX11_gather_68 : decode cX11_gather 68 = .ok (.ifCond .ge 5, 3) := by decide +kernel
theorem dX11_gather_71 : decode cX11_gather 71 = .ok (.iconst 5, 1) := by decide +kernel
theorem dX11_gather_72 : decode cX11_gather 72 = .ok (.ireturn, 1) := by decide +kernel
theorem dX11_gather_73 : decode cX11_gather 73 = .ok (.iinc 4 1, 3) := by decide +kernel
theorem dX11_gather_76 : decode cX11_gather 76 = .ok (.goto (-60), 3) := by decide +kernel
theorem dX11_gather_79 : decode cX11_gather 79 = .ok (.aload_n 0, 1) := by decide +kernel
theorem dX11_gather_80 : decode cX11_gather 80 = .ok (.getfield 82, 3) := by decide +kernel
theorem dX11_gather_83 : decode cX11_gather 83 = .ok (.aload_n 0, 1) := by decide +kernel
theorem dX11_gather_84 : decode cX11_gather 84 = .ok (.getfield 43, 3) := by decide +kernel
theorem dX11_gather_87 : decode cX11_gather 87 = .ok (.invokevirtual 356, 3) := by decide +kernel
theorem dX11_gather_90 : decode cX11_gather 90 = .ok (.iconst 0, 1) := by decide +kernel
theorem dX11_gather_91 : decode cX11_gather 91 = .ok (.istore 4, 2) := by decide +kernel
theorem dX11_gather_93 : decode cX11_gather 93 = .ok (.iload 4, 2) := by decide +kernel
theorem dX11_gather_95 : decode cX11_gather 95 = .ok (.iload_n 2, 1) := by decide +kernel
theorem dX11_gather_96 : decode cX11_gather 96 = .ok (.if_icmp .ge 47, 3) := by decide +kernel
theorem dX11_gather_99 : decode cX11_gather 99 = .ok (.aload_n 0, 1) := by decide +kernel
theorem dX11_gather_100 : decode cX11_gather 100 = .ok (.getfield 82, 3) := by decide +kernel
theorem dX11_gather_103 : decode cX11_gather 103 = .ok (.aload_n 0, 1) := by decide +kernel
theorem dX11_gather_104 : decode cX11_gather 104 = .ok (.getfield 43, 3) := by decide +kernel
theorem dX11_gather_107 : decode cX11_gather 107 = .ok (.aload_n 0, 1) := by decide +kernel
theorem dX11_gather_108 : decode cX11_gather 108 = .ok (.getfield 29, 3) := by decide +kernel
theorem dX11_gather_111 : decode cX11_gather 111 = .ok (.iload_n 1, 1) := by decide +kernel
theorem dX11_gather_112 : decode cX11_gather 112 = .ok (.iconst 2, 1) := by decide +kernel
theorem dX11_gather_113 : decode cX11_gather 113 = .ok (.iload 4, 2) := by decide +kernel
theorem dX11_gather_115 : decode cX11_gather 115 = .ok (.imul, 1) := by decide +kernel
theorem dX11_gather_116 : decode cX11_gather 116 = .ok (.invokevirtual 150, 3) := by decide +kernel
theorem dX11_gather_119 : decode cX11_gather 119 = .ok (.l2i, 1) := by decide +kernel
theorem dX11_gather_120 : decode cX11_gather 120 = .ok (.aload_n 0, 1) := by decide +kernel
theorem dX11_gather_121 : decode cX11_gather 121 = .ok (.getfield 29, 3) := by decide +kernel
theorem dX11_gather_124 : decode cX11_gather 124 = .ok (.iload_n 1, 1) := by decide +kernel
theorem dX11_gather_125 : decode cX11_gather 125 = .ok (.iconst 2, 1) := by decide +kernel
theorem dX11_gather_126 : decode cX11_gather 126 = .ok (.iload 4, 2) := by decide +kernel
theorem dX11_gather_128 : decode cX11_gather 128 = .ok (.imul, 1) := by decide +kernel
theorem dX11_gather_129 : decode cX11_gather 129 = .ok (.iconst 1, 1) := by decide +kernel
theorem dX11_gather_130 : decode cX11_gather 130 = .ok (.iadd, 1) := by decide +kernel
theorem dX11_gather_131 : decode cX11_gather 131 = .ok (.invokevirtual 150, 3) := by decide +kernel
theorem dX11_gather_134 : decode cX11_gather 134 = .ok (.invokevirtual 359, 3) := by decide +kernel
theorem dX11_gather_137 : decode cX11_gather 137 = .ok (.iinc 4 1, 3) := by decide +kernel
theorem dX11_gather_140 : decode cX11_gather 140 = .ok (.goto (-47), 3) := by decide +kernel
theorem dX11_gather_143 : decode cX11_gather 143 = .ok (.iconst 0, 1) := by decide +kernel
theorem dX11_gather_144 : decode cX11_gather 144 = .ok (.ireturn, 1) := by decide +kernel
theorem mw_X11_gather : MW yX11_gather cX11_gather 7 0 2 false := ⟨tm 1287 (by decide +kernel) rfl, tm 235 (by decide +kernel) rfl, by decide, by decide, (by rw [if_neg (by decide)]; exact ⟨tm 1286 (by decide +kernel) rfl, tm 80 (by decide +kernel) rfl⟩)⟩
theorem lk_RX11_150 : LK RX11 150 yX8_at := Or.inr ⟨"HairProvince", tm 763 (by decide +kernel) rfl⟩
theorem lk_RX11_351 : LK RX11 351 yX11_twosStatus := Or.inl (tm 1288 (by decide +kernel) rfl)
theorem lk_RX11_356 : LK RX11 356 yX1_startAll := Or.inr ⟨"HairProvince", tm 1294 (by decide +kernel) rfl⟩
theorem lk_RX11_359 : LK RX11 359 yX1_sift := Or.inr ⟨"HairProvince", tm 1298 (by decide +kernel) rfl⟩
theorem fl_RX11_82 : FL RX11 82 9 16 := ⟨_, _, _, _, cw_9, by decide, Or.inr (Or.inr (Or.inr (by decide))), Or.inl (by decide), Or.inl (tm 638 (by decide +kernel) rfl)⟩
def H_gather_L16 (a1 : Int) (a2 : Int) (k93 : Int → Sg → Rs) : Nat → Int → Sg → Rs
  | 0, _, _ => none
  | n + 1, v4, σ => (if v4 < a2 then (bd (Tr_at a1 (w32 (2 * v4)) σ) (fun r3 s4 => (if r3 < 0 then (some (5, s4)) else (if 999 < r3 then (some (5, s4)) else (bd (Tr_at a1 (w32 ((w32 (2 * v4)) + 1)) s4) (fun r5 s6 => (if r5 < 0 then (some (5, s6)) else (nm (w32 (v4 + 1)) (fun x7 => (H_gather_L16 a1 a2 k93 n x7 s6)))))))))) else (bd (Fi_startAll 8 σ) (fun r8 s9 => (k93 0 s9))))
theorem ok_H_gather_L16 (a1 : Int) (a2 : Int) (k93 : Int → Sg → Rs) (hk93 : ∀ (y4 : Int) (σ : Sg), G l Kh Ph RX11 cX11_gather 7 0 5 93 [some (.inr (.inr 0)), some (.inl a1), some (.inl a2), none, some (.inl y4), none, none] [] σ (k93 y4 σ)) : ∀ (n : Nat) (v4 : Int) (σ : Sg), G l Kh Ph RX11 cX11_gather 7 0 5 16 [some (.inr (.inr 0)), some (.inl a1), some (.inl a2), none, some (.inl v4), none, none] [] σ (H_gather_L16 a1 a2 k93 n v4 σ) := by
  intro n
  induction n with
  | zero => intros; exact G.none_
  | succ n ih =>
    intro v4 σ
    rw [H_gather_L16]
    refine g_iload dX11_gather_16 rfl ?_
    refine g_iload_n dX11_gather_18 rfl rfl ?_
    refine g_icmpge (tgt := 79) dX11_gather_19 (by decide) ?_ ?_
    · refine g_aload_n dX11_gather_22 rfl rfl ?_
      refine g_getr' (q := 1) fl_RX11_29 kh_0 (by decide) rfl dX11_gather_23 ?_
      refine g_iload_n dX11_gather_26 rfl rfl ?_
      refine g_iconst dX11_gather_27 (by decide) ?_
      refine g_iload dX11_gather_28 rfl ?_
      refine g_imul dX11_gather_30 ?_
      refine g_callv1 (st := []) 7 mw_X8_at lk_RX11_150 rfl kh_1 (ok_Tr_at a1 (w32 (2 * v4)) σ) (Nat.le_of_ble_eq_true rfl) rfl rfl (Nat.le_of_ble_eq_true rfl) dX11_gather_31 ?_
      intro r3 s4
      refine g_lstore (lv' := [some (.inr (.inr 0)), some (.inl a1), some (.inl a2), none, some (.inl v4), some (.inr (.inl r3)), none]) dX11_gather_34 (Nat.le_of_ble_eq_true rfl) rfl ?_
      refine g_lload dX11_gather_36 rfl ?_
      refine g_lconst (v := 0) dX11_gather_38 (by decide) ?_
      refine g_lcmplt (tgt := 71) dX11_gather_39 dX11_gather_40 (by decide) ?_ ?_
      · refine g_iconst dX11_gather_71 (by decide) ?_
        exact g_iret dX11_gather_72
      · refine g_lload dX11_gather_43 rfl ?_
        refine g_ldc2 (n := 999) (tm 1293 (by decide +kernel) rfl) (by decide) dX11_gather_45 ?_
        refine g_lcmpgt (tgt := 71) dX11_gather_48 dX11_gather_49 (by decide) ?_ ?_
        · refine g_iconst dX11_gather_71 (by decide) ?_
          exact g_iret dX11_gather_72
        · refine g_aload_n dX11_gather_52 rfl rfl ?_
          refine g_getr' (q := 1) fl_RX11_29 kh_0 (by decide) rfl dX11_gather_53 ?_
          refine g_iload_n dX11_gather_56 rfl rfl ?_
          refine g_iconst dX11_gather_57 (by decide) ?_
          refine g_iload dX11_gather_58 rfl ?_
          refine g_imul dX11_gather_60 ?_
          refine g_iconst dX11_gather_61 (by decide) ?_
          refine g_iadd dX11_gather_62 ?_
          refine g_callv1 (st := []) 7 mw_X8_at lk_RX11_150 rfl kh_1 (ok_Tr_at a1 (w32 ((w32 (2 * v4)) + 1)) s4) (Nat.le_of_ble_eq_true rfl) rfl rfl (Nat.le_of_ble_eq_true rfl) dX11_gather_63 ?_
          intro r5 s6
          refine g_lconst (v := 0) dX11_gather_66 (by decide) ?_
          refine g_lcmpge (tgt := 73) dX11_gather_67 dX11_gather_68 (by decide) ?_ ?_
          · refine g_iconst dX11_gather_71 (by decide) ?_
            exact g_iret dX11_gather_72
          · refine n_iinc (fun x7 => [some (.inr (.inr 0)), some (.inl a1), some (.inl a2), none, some (.inl x7), some (.inr (.inl r3)), none]) dX11_gather_73 rfl (Nat.le_of_ble_eq_true rfl) (fun _ => rfl) ?_
            intro x7
            refine g_goto (tgt := 16) dX11_gather_76 (by decide) ?_
            exact (g_weak [true, true, true, false, true, false, false] (ih x7 s6))
    · refine g_aload_n dX11_gather_79 rfl rfl ?_
      refine g_getr' (q := 99) fl_RX11_82 kh_0 (by decide) rfl dX11_gather_80 ?_
      refine g_aload_n dX11_gather_83 rfl rfl ?_
      refine g_getr' (q := 8) fl_RX11_43 kh_0 (by decide) rfl dX11_gather_84 ?_
      refine g_callv2 (st := []) 1 mw_X1_startAll lk_RX11_356 rfl kh_99 (ok_Fi_startAll 8 kh_8 σ) (Nat.le_of_ble_eq_true rfl) rfl rfl (Nat.le_of_ble_eq_true rfl) dX11_gather_87 ?_
      intro r8 s9
      refine g_iconst dX11_gather_90 (by decide) ?_
      refine g_istore (lv' := [some (.inr (.inr 0)), some (.inl a1), some (.inl a2), none, some (.inl 0), none, none]) dX11_gather_91 (Nat.le_of_ble_eq_true rfl) rfl ?_
      exact (hk93 0 s9)
def H_gather_L93 (a1 : Int) (a2 : Int) : Nat → Int → Sg → Rs
  | 0, _, _ => none
  | n + 1, v4, σ => (if v4 < a2 then (bd (Tr_at a1 (w32 (2 * v4)) σ) (fun r12 s13 => (bd (Tr_at a1 (w32 ((w32 (2 * v4)) + 1)) s13) (fun r14 s15 => (bd (Fi_sift 8 (w32 r12) r14 s15) (fun r16 s17 => (nm (w32 (v4 + 1)) (fun x18 => (H_gather_L93 a1 a2 n x18 s17))))))))) else (some (0, σ)))
theorem ok_H_gather_L93 (a1 : Int) (a2 : Int) : ∀ (n : Nat) (v4 : Int) (σ : Sg), G l Kh Ph RX11 cX11_gather 7 0 5 93 [some (.inr (.inr 0)), some (.inl a1), some (.inl a2), none, some (.inl v4), none, none] [] σ (H_gather_L93 a1 a2 n v4 σ) := by
  intro n
  induction n with
  | zero => intros; exact G.none_
  | succ n ih =>
    intro v4 σ
    rw [H_gather_L93]
    refine g_iload dX11_gather_93 rfl ?_
    refine g_iload_n dX11_gather_95 rfl rfl ?_
    refine g_icmpge (tgt := 143) dX11_gather_96 (by decide) ?_ ?_
    · refine g_aload_n dX11_gather_99 rfl rfl ?_
      refine g_getr' (q := 99) fl_RX11_82 kh_0 (by decide) rfl dX11_gather_100 ?_
      refine g_aload_n dX11_gather_103 rfl rfl ?_
      refine g_getr' (q := 8) fl_RX11_43 kh_0 (by decide) rfl dX11_gather_104 ?_
      refine g_aload_n dX11_gather_107 rfl rfl ?_
      refine g_getr' (q := 1) fl_RX11_29 kh_0 (by decide) rfl dX11_gather_108 ?_
      refine g_iload_n dX11_gather_111 rfl rfl ?_
      refine g_iconst dX11_gather_112 (by decide) ?_
      refine g_iload dX11_gather_113 rfl ?_
      refine g_imul dX11_gather_115 ?_
      refine g_callv1 (st := [.inr (.inr 8), .inr (.inr 99)]) 7 mw_X8_at lk_RX11_150 rfl kh_1 (ok_Tr_at a1 (w32 (2 * v4)) σ) (Nat.le_of_ble_eq_true rfl) rfl rfl (Nat.le_of_ble_eq_true rfl) dX11_gather_116 ?_
      intro r12 s13
      refine g_l2i dX11_gather_119 ?_
      refine g_aload_n dX11_gather_120 rfl rfl ?_
      refine g_getr' (q := 1) fl_RX11_29 kh_0 (by decide) rfl dX11_gather_121 ?_
      refine g_iload_n dX11_gather_124 rfl rfl ?_
      refine g_iconst dX11_gather_125 (by decide) ?_
      refine g_iload dX11_gather_126 rfl ?_
      refine g_imul dX11_gather_128 ?_
      refine g_iconst dX11_gather_129 (by decide) ?_
      refine g_iadd dX11_gather_130 ?_
      refine g_callv1 (st := [.inl (w32 r12), .inr (.inr 8), .inr (.inr 99)]) 7 mw_X8_at lk_RX11_150 rfl kh_1 (ok_Tr_at a1 (w32 ((w32 (2 * v4)) + 1)) s13) (Nat.le_of_ble_eq_true rfl) rfl rfl (Nat.le_of_ble_eq_true rfl) dX11_gather_131 ?_
      intro r14 s15
      refine g_callv2 (st := []) 1 mw_X1_sift lk_RX11_359 rfl kh_99 (ok_Fi_sift 8 (w32 r12) r14 kh_8 s15) (Nat.le_of_ble_eq_true rfl) rfl rfl (Nat.le_of_ble_eq_true rfl) dX11_gather_134 ?_
      intro r16 s17
      refine n_iinc (fun x18 => [some (.inr (.inr 0)), some (.inl a1), some (.inl a2), none, some (.inl x18), none, none]) dX11_gather_137 rfl (Nat.le_of_ble_eq_true rfl) (fun _ => rfl) ?_
      intro x18
      refine g_goto (tgt := 93) dX11_gather_140 (by decide) ?_
      exact (ih x18 s17)
    · refine g_iconst dX11_gather_143 (by decide) ?_
      exact g_iret dX11_gather_144
def H_gather (a1 : Int) (a2 : Int) (σ : Sg) : Rs := (bd (H_twosStatus a1 a2 σ) (fun r1 s2 => (if r1 = 0 then (H_gather_L16 a1 a2 (fun x10 s11 => (H_gather_L93 a1 a2 fu x10 s11)) fu 0 s2) else (some (r1, s2)))))
theorem ok_H_gather (a1 : Int) (a2 : Int) (σ : Sg) : MC l Kh Ph yX11_gather cX11_gather 7 0 5 [.inr (.inr 0), .inl a1, .inl a2] σ (H_gather a1 a2 σ) := by
  refine mc_of (by decide) (Nat.le_of_ble_eq_true rfl) ?_
  change G l Kh Ph RX11 cX11_gather 7 0 5 0 [some (.inr (.inr 0)), some (.inl a1), some (.inl a2), none, none, none, none] [] σ (H_gather a1 a2 σ)
  unfold H_gather
  refine g_aload_n dX11_gather_0 rfl rfl ?_
  refine g_iload_n dX11_gather_1 rfl rfl ?_
  refine g_iload_n dX11_gather_2 rfl rfl ?_
  refine g_callv0 (st := []) 9 mw_X11_twosStatus lk_RX11_351 rfl kh_0 (ok_H_twosStatus a1 a2 σ) (Nat.le_of_ble_eq_true rfl) rfl rfl (Nat.le_of_ble_eq_true rfl) dX11_gather_3 ?_
  intro r1 s2
  refine g_istore_n (lv' := [some (.inr (.inr 0)), some (.inl a1), some (.inl a2), some (.inl r1), none, none, none]) dX11_gather_6 rfl (Nat.le_of_ble_eq_true rfl) rfl ?_
  refine g_iload_n dX11_gather_7 rfl rfl ?_
  refine g_ifeq (tgt := 13) dX11_gather_8 (by decide) ?_ ?_
  · refine g_iconst dX11_gather_13 (by decide) ?_
    refine g_istore (lv' := [some (.inr (.inr 0)), some (.inl a1), some (.inl a2), some (.inl r1), some (.inl 0), none, none]) dX11_gather_14 (Nat.le_of_ble_eq_true rfl) rfl ?_
    refine (g_weak [true, true, true, false, true, false, false] (ok_H_gather_L16 a1 a2 _ ?_ fu 0 s2))
    · intro x10 s11
      refine (ok_H_gather_L93 a1 a2 fu x10 s11)
  · refine g_iload_n dX11_gather_11 rfl rfl ?_
    exact g_iret dX11_gather_12
theorem dX11_give_0 : decode cX11_give 0 = .ok (.aload_n 0, 1) := by decide +kernel
theorem dX11_give_1 : decode cX11_give 1 = .ok (.iconst 0, 1) := by decide +kernel
theorem dX11_give_2 : decode cX11_give 2 = .ok (.putfield 9, 3) := by decide +kernel
theorem dX11_give_5 : decode cX11_give 5 = .ok (.iload_n 1, 1) := by decide +kernel
theorem dX11_give_6 : decode cX11_give 6 = .ok (.ireturn, 1) := by decide +kernel
theorem mw_X11_give : MW yX11_give cX11_give 2 0 1 false := ⟨tm 967 (by decide +kernel) rfl, tm 235 (by decide +kernel) rfl, by decide, by decide, (by rw [if_neg (by decide)]; exact ⟨tm 966 (by decide +kernel) rfl, tm 46 (by decide +kernel) rfl⟩)⟩
def H_give (a1 : Int) (σ : Sg) : Rs := (nm (up_s σ 0 0 0) (fun s1 => (some (a1, s1))))
theorem ok_H_give (a1 : Int) (σ : Sg) : MC l Kh Ph yX11_give cX11_give 2 0 1 [.inr (.inr 0), .inl a1] σ (H_give a1 σ) := by
  refine mc_of (by decide) (Nat.le_of_ble_eq_true rfl) ?_
  change G l Kh Ph RX11 cX11_give 2 0 1 0 [some (.inr (.inr 0)), some (.inl a1)] [] σ (H_give a1 σ)
  unfold H_give
  refine g_aload_n dX11_give_0 rfl rfl ?_
  refine g_iconst dX11_give_1 (by decide) ?_
  refine g_puti fl_RX11_9 kh_0 (by decide) dX11_give_2 ?_
  intro s1
  refine g_iload_n dX11_give_5 rfl rfl ?_
  exact g_iret dX11_give_6
theorem dX1_unlikeLengths_0 : decode cX1_unlikeLengths 0 = .ok (.iconst 0, 1) := by decide +kernel
theorem dX1_unlikeLengths_1 : decode cX1_unlikeLengths 1 = .ok (.istore_n 1, 1) := by decide +kernel
theorem dX1_unlikeLengths_2 : decode cX1_unlikeLengths 2 = .ok (.iload_n 1, 1) := by decide +kernel
theorem dX1_unlikeLengths_3 : decode cX1_unlikeLengths 3 = .ok (.aload_n 0, 1) := by decide +kernel
theorem dX1_unlikeLengths_4 : decode cX1_unlikeLengths 4 = .ok (.getfield 18, 3) := by decide +kernel
theorem dX1_unlikeLengths_7 : decode cX1_unlikeLengths 7 = .ok (.arraylength, 1) := by decide +kernel
theorem dX1_unlikeLengths_8 : decode cX1_unlikeLengths 8 = .ok (.if_icmp .ge 16, 3) := by decide +kernel
theorem dX1_unlikeLengths_11 : decode cX1_unlikeLengths 11 = .ok (.aload_n 0, 1) := by decide +kernel
theorem dX1_unlikeLengths_12 : decode cX1_unlikeLengths 12 = .ok (.getfield 18, 3) := by decide +kernel
theorem dX1_unlikeLengths_15 : decode cX1_unlikeLengths 15 = .ok (.iload_n 1, 1) := by decide +kernel
theorem dX1_unlikeLengths_16 : decode cX1_unlikeLengths 16 = .ok (.lconst 0, 1) := by decide +kernel
theorem dX1_unlikeLengths_17 : decode cX1_unlikeLengths 17 = .ok (.lastore, 1) := by decide +kernel
theorem dX1_unlikeLengths_18 : decode cX1_unlikeLengths 18 = .ok (.iinc 1 1, 3) := by decide +kernel
theorem dX1_unlikeLengths_21 : decode cX1_unlikeLengths 21 = .ok (.goto (-19), 3) := by decide +kernel
theorem dX1_unlikeLengths_24 : decode cX1_unlikeLengths 24 = .ok (.iconst 0, 1) := by decide +kernel
theorem dX1_unlikeLengths_25 : decode cX1_unlikeLengths 25 = .ok (.istore_n 1, 1) := by decide +kernel
theorem dX1_unlikeLengths_26 : decode cX1_unlikeLengths 26 = .ok (.iconst 0, 1) := by decide +kernel
theorem dX1_unlikeLengths_27 : decode cX1_unlikeLengths 27 = .ok (.istore_n 2, 1) := by decide +kernel
theorem dX1_unlikeLengths_28 : decode cX1_unlikeLengths 28 = .ok (.iload_n 2, 1) := by decide +kernel
theorem dX1_unlikeLengths_29 : decode cX1_unlikeLengths 29 = .ok (.aload_n 0, 1) := by decide +kernel
theorem dX1_unlikeLengths_30 : decode cX1_unlikeLengths 30 = .ok (.getfield 22, 3) := by decide +kernel
theorem dX1_unlikeLengths_33 : decode cX1_unlikeLengths 33 = .ok (.if_icmp .ge 87, 3) := by decide +kernel
theorem dX1_unlikeLengths_36 : decode cX1_unlikeLengths 36 = .ok (.iload_n 2, 1) := by decide +kernel
theorem dX1_unlikeLengths_37 : decode cX1_unlikeLengths 37 = .ok (.sipush 256, 3) := by decide +kernel
theorem dX1_unlikeLengths_40 : decode cX1_unlikeLengths 40 = .ok (.if_icmp .ge 80, 3) := by decide +kernel
theorem dX1_unlikeLengths_43 : decode cX1_unlikeLengths 43 = .ok (.aload_n 0, 1) := by decide +kernel
theorem dX1_unlikeLengths_44 : decode cX1_unlikeLengths 44 = .ok (.getfield 15, 3) := by decide +kernel
theorem dX1_unlikeLengths_47 : decode cX1_unlikeLengths 47 = .ok (.aload_n 0, 1) := by decide +kernel
theorem dX1_unlikeLengths_48 : decode cX1_unlikeLengths 48 = .ok (.getfield 11, 3) := by decide +kernel
theorem dX1_unlikeLengths_51 : decode cX1_unlikeLengths 51 = .ok (.iload_n 2, 1) := by decide +kernel
theorem dX1_unlikeLengths_52 : decode cX1_unlikeLengths 52 = .ok (.iaload, 1) := by decide +kernel
theorem dX1_unlikeLengths_53 : decode cX1_unlikeLengths 53 = .ok (.iaload, 1) := by decide +kernel
theorem dX1_unlikeLengths_54 : decode cX1_unlikeLengths 54 = .ok (.istore_n 3, 1) := by decide +kernel
theorem dX1_unlikeLengths_55 : decode cX1_unlikeLengths 55 = .ok (.iload_n 3, 1) := by decide +kernel
theorem dX1_unlikeLengths_56 : decode cX1_unlikeLengths 56 = .ok (.bipush 64, 2) := by decide +kernel
theorem dX1_unlikeLengths_58 : decode cX1_unlikeLengths 58 = .ok (.idiv, 1) := by decide +kernel
theorem dX1_unlikeLengths_59 : decode cX1_unlikeLengths 59 = .ok (.istore 4, 2) := by decide +kernel
theorem dX1_unlikeLengths_61 : decode cX1_unlikeLengths 61 = .ok (.iload 4, 2) := by decide +kernel
theorem dX1_unlikeLengths_63 : decode cX1_unlikeLengths 63 = .ok (.ifCond .lt 51, 3) := by decide +kernel
theorem dX1_unlikeLengths_66 : decode cX1_unlikeLengths 66 = .ok (.iload 4, 2) := by decide +kernel
theorem dX1_unlikeLengths_68 : decode cX1_unlikeLengths 68 = .ok (.aload_n 0, 1) := by decide +kernel
theorem dX1_unlikeLengths_69 : decode cX1_unlikeLengths 69 = .ok (.getfield 18, 3) := by decide +kernel
theorem dX1_unlikeLengths_72 : decode cX1_unlikeLengths 72 = .ok (.arraylength, 1) := by decide +kernel
theorem dX1_unlikeLengths_73 : decode cX1_unlikeLengths 73 = .ok (.if_icmp .ge 41, 3) := by decide +kernel
theorem dX1_unlikeLengths_76 : decode cX1_unlikeLengths 76 = .ok (.aload_n 0, 1) := by decide +kernel
theorem dX1_unlikeLengths_77 : decode cX1_unlikeLengths 77 = .ok (.getfield 18, 3) := by decide +kernel
theorem dX1_unlikeLengths_80 : decode cX1_unlikeLengths 80 = .ok (.iload 4, 2) := by decide +kernel
theorem dX1_unlikeLengths_82 : decode cX1_unlikeLengths 82 = .ok (.laload, 1) := by decide +kernel
theorem dX1_unlikeLengths_83 : decode cX1_unlikeLengths 83 = .ok (.iload_n 3, 1) := by decide +kernel
theorem dX1_unlikeLengths_84 : decode cX1_unlikeLengths 84 = .ok (.bipush 64, 2) := by decide +kernel
theorem dX1_unlikeLengths_86 : decode cX1_unlikeLengths 86 = .ok (.irem, 1) := by decide +kernel
theorem dX1_unlikeLengths_87 : decode cX1_unlikeLengths 87 = .ok (.lshr, 1) := by decide +kernel
theorem dX1_unlikeLengths_88 : decode cX1_unlikeLengths 88 = .ok (.lconst 1, 1) := by decide +kernel
theorem dX1_unlikeLengths_89 : decode cX1_unlikeLengths 89 = .ok (.land, 1) := by decide +kernel
theorem dX1_unlikeLengths_90 : decode cX1_unlikeLengths 90 = .ok (.lconst 0, 1) := by decide +kernel
theorem dX1_unlikeLengths_91 : decode cX1_unlikeLengths 91 = .ok (.lcmp, 1) := by decide +kernel
theorem dX1_unlikeLengths_92 : decode cX1_unlikeLengths 92 = .ok (.ifCond .ne 22, 3) := by decide +kernel
theorem dX1_unlikeLengths_95 : decode cX1_unlikeLengths 95 = .ok (.aload_n 0, 1) := by decide +kernel
theorem dX1_unlikeLengths_96 : decode cX1_unlikeLengths 96 = .ok (.getfield 18, 3) := by decide +kernel
theorem dX1_unlikeLengths_99 : decode cX1_unlikeLengths 99 = .ok (.iload 4, 2) := by decide +kernel
theorem dX1_unlikeLengths_101 : decode cX1_unlikeLengths 101 = .ok (.dup2, 1) := by decide +kernel
theorem dX1_unlikeLengths_102 : decode cX1_unlikeLengths 102 = .ok (.laload, 1) := by decide +kernel
theorem dX1_unlikeLengths_103 : decode cX1_unlikeLengths 103 = .ok (.lconst 1, 1) := by decide +kernel
theorem dX1_unlikeLengths_104 : decode cX1_unlikeLengths 104 = .ok (.iload_n 3, 1) := by decide +kernel
theorem dX1_unlikeLengths_105 : decode cX1_unlikeLengths 105 = .ok (.bipush 64, 2) := by decide +kernel
theorem dX1_unlikeLengths_107 : decode cX1_unlikeLengths 107 = .ok (.irem, 1) := by decide +kernel
theorem dX1_unlikeLengths_108 : decode cX1_unlikeLengths 108 = .ok (.lshl, 1) := by decide +kernel
theorem dX1_unlikeLengths_109 : decode cX1_unlikeLengths 109 = .ok (.lor, 1) := by decide +kernel
theorem dX1_unlikeLengths_110 : decode cX1_unlikeLengths 110 = .ok (.lastore, 1) := by decide +kernel
theorem dX1_unlikeLengths_111 : decode cX1_unlikeLengths 111 = .ok (.iinc 1 1, 3) := by decide +kernel
theorem dX1_unlikeLengths_114 : decode cX1_unlikeLengths 114 = .ok (.iinc 2 1, 3) := by decide +kernel
theorem dX1_unlikeLengths_117 : decode cX1_unlikeLengths 117 = .ok (.goto (-89), 3) := by decide +kernel
theorem dX1_unlikeLengths_120 : decode cX1_unlikeLengths 120 = .ok (.iload_n 1, 1) := by decide +kernel
theorem dX1_unlikeLengths_121 : decode cX1_unlikeLengths 121 = .ok (.ireturn, 1) := by decide +kernel
theorem mw_X1_unlikeLengths : MW yX1_unlikeLengths cX1_unlikeLengths 5 0 0 false := ⟨tm 1326 (by decide +kernel) rfl, tm 245 (by decide +kernel) rfl, by decide, by decide, (by rw [if_neg (by decide)]; exact ⟨tm 1325 (by decide +kernel) rfl, tm 87 (by decide +kernel) rfl⟩)⟩
theorem fl_RX1_18 : FL RX1 18 1 3 := ⟨_, _, _, _, cw_1, by decide, Or.inr (Or.inr (Or.inr (by decide))), Or.inl (by decide), Or.inl (tm 566 (by decide +kernel) rfl)⟩
def Fi_unlikeLengths_L2 (k28 : Int → Int → Sg → Rs) : Nat → Int → Sg → Rs
  | 0, _, _ => none
  | n + 1, v1, σ => (if v1 < ((112 : Nat) : Int) then (wr 112 v1 (up_s σ 102 (Int.toNat v1) 0) (fun s1 => (nm (w32 (v1 + 1)) (fun x2 => (Fi_unlikeLengths_L2 k28 n x2 s1))))) else (k28 0 0 σ))
theorem ok_Fi_unlikeLengths_L2 (k28 : Int → Int → Sg → Rs) (hk28 : ∀ (y1 y2 : Int) (σ : Sg), G l Kh Ph RX1 cX1_unlikeLengths 5 0 1 28 [some (.inr (.inr 99)), some (.inl y1), some (.inl y2), none, none] [] σ (k28 y1 y2 σ)) : ∀ (n : Nat) (v1 : Int) (σ : Sg), G l Kh Ph RX1 cX1_unlikeLengths 5 0 1 2 [some (.inr (.inr 99)), some (.inl v1), none, none, none] [] σ (Fi_unlikeLengths_L2 k28 n v1 σ) := by
  intro n
  induction n with
  | zero => intros; exact G.none_
  | succ n ih =>
    intro v1 σ
    rw [Fi_unlikeLengths_L2]
    refine g_iload_n dX1_unlikeLengths_2 rfl rfl ?_
    refine g_aload_n dX1_unlikeLengths_3 rfl rfl ?_
    refine g_getr' (q := 102) fl_RX1_18 kh_99 (by decide) rfl dX1_unlikeLengths_4 ?_
    refine g_alen kh_102 (by decide) (Nat.le_of_ble_eq_true rfl) dX1_unlikeLengths_7 ?_
    refine g_icmpge (tgt := 24) dX1_unlikeLengths_8 (by decide) ?_ ?_
    · refine g_aload_n dX1_unlikeLengths_11 rfl rfl ?_
      refine g_getr' (q := 102) fl_RX1_18 kh_99 (by decide) rfl dX1_unlikeLengths_12 ?_
      refine g_iload_n dX1_unlikeLengths_15 rfl rfl ?_
      refine g_lconst (v := 0) dX1_unlikeLengths_16 (by decide) ?_
      refine g_last kh_102 dX1_unlikeLengths_17 ?_
      intro s1
      refine n_iinc (fun x2 => [some (.inr (.inr 99)), some (.inl x2), none, none, none]) dX1_unlikeLengths_18 rfl (Nat.le_of_ble_eq_true rfl) (fun _ => rfl) ?_
      intro x2
      refine g_goto (tgt := 2) dX1_unlikeLengths_21 (by decide) ?_
      exact (ih x2 s1)
    · refine g_iconst dX1_unlikeLengths_24 (by decide) ?_
      refine g_istore_n (lv' := [some (.inr (.inr 99)), some (.inl 0), none, none, none]) dX1_unlikeLengths_25 rfl (Nat.le_of_ble_eq_true rfl) rfl ?_
      refine g_iconst dX1_unlikeLengths_26 (by decide) ?_
      refine g_istore_n (lv' := [some (.inr (.inr 99)), some (.inl 0), some (.inl 0), none, none]) dX1_unlikeLengths_27 rfl (Nat.le_of_ble_eq_true rfl) rfl ?_
      exact (hk28 0 0 σ)
def Fi_unlikeLengths_L28  : Nat → Int → Int → Sg → Rs
  | 0, _, _, _ => none
  | n + 1, v1, v2, σ => (if v2 < (σ 99 1) then (if v2 < 256 then (rd 256 v2 (σ 100 (Int.toNat v2)) (fun x6 => (rd 256 x6 (σ 101 (Int.toNat x6)) (fun x7 => (dv 64 (dv32 x7 64) (fun x8 => (if x8 < 0 then (nm (w32 (v2 + 1)) (fun x9 => (Fi_unlikeLengths_L28 n v1 x9 σ))) else (if x8 < ((112 : Nat) : Int) then (rd 112 x8 (σ 102 (Int.toNat x8)) (fun x10 => (dv 64 (rm32 x7 64) (fun x11 => (if (an64 (sr64 x10 x11) 1) = 0 then (rd 112 x8 (σ 102 (Int.toNat x8)) (fun x12 => (dv 64 (rm32 x7 64) (fun x13 => (wr 112 x8 (up_s σ 102 (Int.toNat x8) (or64 x12 (sl64 1 x13))) (fun s14 => (nm (w32 (v1 + 1)) (fun x15 => (nm (w32 (v2 + 1)) (fun x16 => (Fi_unlikeLengths_L28 n x15 x16 s14))))))))))) else (nm (w32 (v2 + 1)) (fun x17 => (Fi_unlikeLengths_L28 n v1 x17 σ)))))))) else (nm (w32 (v2 + 1)) (fun x18 => (Fi_unlikeLengths_L28 n v1 x18 σ))))))))))) else (some (v1, σ))) else (some (v1, σ)))
theorem ok_Fi_unlikeLengths_L28 : ∀ (n : Nat) (v1 v2 : Int) (σ : Sg), G l Kh Ph RX1 cX1_unlikeLengths 5 0 1 28 [some (.inr (.inr 99)), some (.inl v1), some (.inl v2), none, none] [] σ (Fi_unlikeLengths_L28  n v1 v2 σ) := by
  intro n
  induction n with
  | zero => intros; exact G.none_
  | succ n ih =>
    intro v1 v2 σ
    rw [Fi_unlikeLengths_L28]
    refine g_iload_n dX1_unlikeLengths_28 rfl rfl ?_
    refine g_aload_n dX1_unlikeLengths_29 rfl rfl ?_
    refine g_geti fl_RX1_22 kh_99 (by decide) dX1_unlikeLengths_30 ?_
    refine g_icmpge (tgt := 120) dX1_unlikeLengths_33 (by decide) ?_ ?_
    · refine g_iload_n dX1_unlikeLengths_36 rfl rfl ?_
      refine g_sipush dX1_unlikeLengths_37 (by decide) ?_
      refine g_icmpge (tgt := 120) dX1_unlikeLengths_40 (by decide) ?_ ?_
      · refine g_aload_n dX1_unlikeLengths_43 rfl rfl ?_
        refine g_getr' (q := 101) fl_RX1_15 kh_99 (by decide) rfl dX1_unlikeLengths_44 ?_
        refine g_aload_n dX1_unlikeLengths_47 rfl rfl ?_
        refine g_getr' (q := 100) fl_RX1_11 kh_99 (by decide) rfl dX1_unlikeLengths_48 ?_
        refine g_iload_n dX1_unlikeLengths_51 rfl rfl ?_
        refine g_iald kh_100 dX1_unlikeLengths_52 ?_
        intro x6
        refine g_iald kh_101 dX1_unlikeLengths_53 ?_
        intro x7
        refine g_istore_n (lv' := [some (.inr (.inr 99)), some (.inl v1), some (.inl v2), some (.inl x7), none]) dX1_unlikeLengths_54 rfl (Nat.le_of_ble_eq_true rfl) rfl ?_
        refine g_iload_n dX1_unlikeLengths_55 rfl rfl ?_
        refine g_bipush dX1_unlikeLengths_56 (by decide) ?_
        refine g_idiv dX1_unlikeLengths_58 ?_
        intro x8
        refine g_istore (lv' := [some (.inr (.inr 99)), some (.inl v1), some (.inl v2), some (.inl x7), some (.inl x8)]) dX1_unlikeLengths_59 (Nat.le_of_ble_eq_true rfl) rfl ?_
        refine g_iload dX1_unlikeLengths_61 rfl ?_
        refine g_iflt (tgt := 114) dX1_unlikeLengths_63 (by decide) ?_ ?_
        · refine n_iinc (fun x9 => [some (.inr (.inr 99)), some (.inl v1), some (.inl x9), some (.inl x7), some (.inl x8)]) dX1_unlikeLengths_114 rfl (Nat.le_of_ble_eq_true rfl) (fun _ => rfl) ?_
          intro x9
          refine g_goto (tgt := 28) dX1_unlikeLengths_117 (by decide) ?_
          exact (g_weak [true, true, true, false, false] (ih v1 x9 σ))
        · refine g_iload dX1_unlikeLengths_66 rfl ?_
          refine g_aload_n dX1_unlikeLengths_68 rfl rfl ?_
          refine g_getr' (q := 102) fl_RX1_18 kh_99 (by decide) rfl dX1_unlikeLengths_69 ?_
          refine g_alen kh_102 (by decide) (Nat.le_of_ble_eq_true rfl) dX1_unlikeLengths_72 ?_
          refine g_icmpge (tgt := 114) dX1_unlikeLengths_73 (by decide) ?_ ?_
          · refine g_aload_n dX1_unlikeLengths_76 rfl rfl ?_
            refine g_getr' (q := 102) fl_RX1_18 kh_99 (by decide) rfl dX1_unlikeLengths_77 ?_
            refine g_iload dX1_unlikeLengths_80 rfl ?_
            refine g_lald kh_102 dX1_unlikeLengths_82 ?_
            intro x10
            refine g_iload_n dX1_unlikeLengths_83 rfl rfl ?_
            refine g_bipush dX1_unlikeLengths_84 (by decide) ?_
            refine g_irem dX1_unlikeLengths_86 ?_
            intro x11
            refine g_lshr dX1_unlikeLengths_87 ?_
            refine g_lconst (v := 1) dX1_unlikeLengths_88 (by decide) ?_
            refine g_land dX1_unlikeLengths_89 ?_
            refine g_lconst (v := 0) dX1_unlikeLengths_90 (by decide) ?_
            refine g_lcmpne (tgt := 114) dX1_unlikeLengths_91 dX1_unlikeLengths_92 (by decide) ?_ ?_
            · refine g_aload_n dX1_unlikeLengths_95 rfl rfl ?_
              refine g_getr' (q := 102) fl_RX1_18 kh_99 (by decide) rfl dX1_unlikeLengths_96 ?_
              refine g_iload dX1_unlikeLengths_99 rfl ?_
              refine g_dup2 dX1_unlikeLengths_101 rfl rfl ?_
              refine g_lald kh_102 dX1_unlikeLengths_102 ?_
              intro x12
              refine g_lconst (v := 1) dX1_unlikeLengths_103 (by decide) ?_
              refine g_iload_n dX1_unlikeLengths_104 rfl rfl ?_
              refine g_bipush dX1_unlikeLengths_105 (by decide) ?_
              refine g_irem dX1_unlikeLengths_107 ?_
              intro x13
              refine g_lshl dX1_unlikeLengths_108 ?_
              refine g_lor dX1_unlikeLengths_109 ?_
              refine g_last kh_102 dX1_unlikeLengths_110 ?_
              intro s14
              refine n_iinc (fun x15 => [some (.inr (.inr 99)), some (.inl x15), some (.inl v2), some (.inl x7), some (.inl x8)]) dX1_unlikeLengths_111 rfl (Nat.le_of_ble_eq_true rfl) (fun _ => rfl) ?_
              intro x15
              refine n_iinc (fun x16 => [some (.inr (.inr 99)), some (.inl x15), some (.inl x16), some (.inl x7), some (.inl x8)]) dX1_unlikeLengths_114 rfl (Nat.le_of_ble_eq_true rfl) (fun _ => rfl) ?_
              intro x16
              refine g_goto (tgt := 28) dX1_unlikeLengths_117 (by decide) ?_
              exact (g_weak [true, true, true, false, false] (ih x15 x16 s14))
            · refine n_iinc (fun x17 => [some (.inr (.inr 99)), some (.inl v1), some (.inl x17), some (.inl x7), some (.inl x8)]) dX1_unlikeLengths_114 rfl (Nat.le_of_ble_eq_true rfl) (fun _ => rfl) ?_
              intro x17
              refine g_goto (tgt := 28) dX1_unlikeLengths_117 (by decide) ?_
              exact (g_weak [true, true, true, false, false] (ih v1 x17 σ))
          · refine n_iinc (fun x18 => [some (.inr (.inr 99)), some (.inl v1), some (.inl x18), some (.inl x7), some (.inl x8)]) dX1_unlikeLengths_114 rfl (Nat.le_of_ble_eq_true rfl) (fun _ => rfl) ?_
            intro x18
            refine g_goto (tgt := 28) dX1_unlikeLengths_117 (by decide) ?_
            exact (g_weak [true, true, true, false, false] (ih v1 x18 σ))
      · refine g_iload_n dX1_unlikeLengths_120 rfl rfl ?_
        exact g_iret dX1_unlikeLengths_121
    · refine g_iload_n dX1_unlikeLengths_120 rfl rfl ?_
      exact g_iret dX1_unlikeLengths_121
def Fi_unlikeLengths  (σ : Sg) : Rs := (Fi_unlikeLengths_L2 (fun x3 x4 s5 => (Fi_unlikeLengths_L28 fu x3 x4 s5)) fu 0 σ)
theorem ok_Fi_unlikeLengths (σ : Sg) : MC l Kh Ph yX1_unlikeLengths cX1_unlikeLengths 5 0 1 [.inr (.inr 99)] σ (Fi_unlikeLengths σ) := by
  refine mc_of (by decide) (Nat.le_of_ble_eq_true rfl) ?_
  change G l Kh Ph RX1 cX1_unlikeLengths 5 0 1 0 [some (.inr (.inr 99)), none, none, none, none] [] σ (Fi_unlikeLengths  σ)
  unfold Fi_unlikeLengths
  refine g_iconst dX1_unlikeLengths_0 (by decide) ?_
  refine g_istore_n (lv' := [some (.inr (.inr 99)), some (.inl 0), none, none, none]) dX1_unlikeLengths_1 rfl (Nat.le_of_ble_eq_true rfl) rfl ?_
  refine (ok_Fi_unlikeLengths_L2 _ ?_ fu 0 σ)
  · intro x3 x4 s5
    refine (ok_Fi_unlikeLengths_L28 fu x3 x4 s5)
theorem dX1_tellingDays_0 : decode cX1_tellingDays 0 = .ok (.iconst 0, 1) := by decide +kernel
theorem dX1_tellingDays_1 : decode cX1_tellingDays 1 = .ok (.istore_n 2, 1) := by decide +kernel
theorem dX1_tellingDays_2 : decode cX1_tellingDays 2 = .ok (.iconst 0, 1) := by decide +kernel
theorem dX1_tellingDays_3 : decode cX1_tellingDays 3 = .ok (.istore_n 3, 1) := by decide +kernel
theorem dX1_tellingDays_4 : decode cX1_tellingDays 4 = .ok (.iconst 1, 1) := by decide +kernel
theorem dX1_tellingDays_5 : decode cX1_tellingDays 5 = .ok (.istore 4, 2) := by decide +kernel
theorem dX1_tellingDays_7 : decode cX1_tellingDays 7 = .ok (.iload 4, 2) := by decide +kernel
theorem dX1_tellingDays_9 : decode cX1_tellingDays 9 = .ok (.bipush 99, 2) := by decide +kernel
theorem dX1_tellingDays_11 : decode cX1_tellingDays 11 = .ok (.if_icmp .gt 42, 3) := by decide +kernel
theorem dX1_tellingDays_14 : decode cX1_tellingDays 14 = .ok (.iload_n 3, 1) := by decide +kernel
theorem dX1_tellingDays_15 : decode cX1_tellingDays 15 = .ok (.aload_n 0, 1) := by decide +kernel
theorem dX1_tellingDays_16 : decode cX1_tellingDays 16 = .ok (.getfield 22, 3) := by decide +kernel
theorem dX1_tellingDays_19 : decode cX1_tellingDays 19 = .ok (.if_icmp .ge 34, 3) := by decide +kernel
theorem dX1_tellingDays_22 : decode cX1_tellingDays 22 = .ok (.aload_n 0, 1) := by decide +kernel
theorem dX1_tellingDays_23 : decode cX1_tellingDays 23 = .ok (.aload_n 1, 1) := by decide +kernel
theorem dX1_tellingDays_24 : decode cX1_tellingDays 24 = .ok (.iload 4, 2) := by decide +kernel
theorem dX1_tellingDays_26 : decode cX1_tellingDays 26 = .ok (.invokevirtual 35, 3) := by decide +kernel
theorem dX1_tellingDays_29 : decode cX1_tellingDays 29 = .ok (.aload_n 0, 1) := by decide +kernel
theorem dX1_tellingDays_30 : decode cX1_tellingDays 30 = .ok (.invokevirtual 39, 3) := by decide +kernel
theorem dX1_tellingDays_33 : decode cX1_tellingDays 33 = .ok (.istore 5, 2) := by decide +kernel
theorem dX1_tellingDays_35 : decode cX1_tellingDays 35 = .ok (.iload 5, 2) := by decide +kernel
theorem dX1_tellingDays_37 : decode cX1_tellingDays 37 = .ok (.iload_n 3, 1) := by decide +kernel
theorem dX1_tellingDays_38 : decode cX1_tellingDays 38 = .ok (.if_icmp .le 9, 3) := by decide +kernel
theorem dX1_tellingDays_41 : decode cX1_tellingDays 41 = .ok (.iload 5, 2) := by decide +kernel
theorem dX1_tellingDays_43 : decode cX1_tellingDays 43 = .ok (.istore_n 3, 1) := by decide +kernel
theorem dX1_tellingDays_44 : decode cX1_tellingDays 44 = .ok (.iload 4, 2) := by decide +kernel
theorem dX1_tellingDays_46 : decode cX1_tellingDays 46 = .ok (.istore_n 2, 1) := by decide +kernel
theorem dX1_tellingDays_47 : decode cX1_tellingDays 47 = .ok (.iinc 4 1, 3) := by decide +kernel
theorem dX1_tellingDays_50 : decode cX1_tellingDays 50 = .ok (.goto (-43), 3) := by decide +kernel
theorem dX1_tellingDays_53 : decode cX1_tellingDays 53 = .ok (.iload_n 2, 1) := by decide +kernel
theorem dX1_tellingDays_54 : decode cX1_tellingDays 54 = .ok (.ireturn, 1) := by decide +kernel
theorem mw_X1_tellingDays : MW yX1_tellingDays cX1_tellingDays 6 0 1 false := ⟨tm 1322 (by decide +kernel) rfl, tm 245 (by decide +kernel) rfl, by decide, by decide, (by rw [if_neg (by decide)]; exact ⟨tm 1321 (by decide +kernel) rfl, tm 86 (by decide +kernel) rfl⟩)⟩
theorem lk_RX1_39 : LK RX1 39 yX1_unlikeLengths := Or.inl (tm 1323 (by decide +kernel) rfl)
def Fi_tellingDays_L7 (pr1 : Nat) : Nat → Int → Int → Int → Sg → Rs
  | 0, _, _, _, _ => none
  | n + 1, v2, v3, v4, σ => (if 99 < v4 then (some (v2, σ)) else (if v3 < (σ 99 1) then (bd (Fi_measure pr1 v4 σ) (fun r1 s2 => (bd (Fi_unlikeLengths s2) (fun r3 s4 => (if v3 < r3 then (nm (w32 (v4 + 1)) (fun x5 => (Fi_tellingDays_L7 pr1 n v4 r3 x5 s4))) else (nm (w32 (v4 + 1)) (fun x6 => (Fi_tellingDays_L7 pr1 n v2 v3 x6 s4)))))))) else (some (v2, σ))))
theorem ok_Fi_tellingDays_L7 (pr1 : Nat) (hpr1 : Kh[pr1]? = some (.inl 4)) : ∀ (n : Nat) (v2 v3 v4 : Int) (σ : Sg), G l Kh Ph RX1 cX1_tellingDays 6 0 3 7 [some (.inr (.inr 99)), some (.inr (.inr pr1)), some (.inl v2), some (.inl v3), some (.inl v4), none] [] σ (Fi_tellingDays_L7 pr1 n v2 v3 v4 σ) := by
  intro n
  induction n with
  | zero => intros; exact G.none_
  | succ n ih =>
    intro v2 v3 v4 σ
    rw [Fi_tellingDays_L7]
    refine g_iload dX1_tellingDays_7 rfl ?_
    refine g_bipush dX1_tellingDays_9 (by decide) ?_
    refine g_icmpgt (tgt := 53) dX1_tellingDays_11 (by decide) ?_ ?_
    · refine g_iload_n dX1_tellingDays_53 rfl rfl ?_
      exact g_iret dX1_tellingDays_54
    · refine g_iload_n dX1_tellingDays_14 rfl rfl ?_
      refine g_aload_n dX1_tellingDays_15 rfl rfl ?_
      refine g_geti fl_RX1_22 kh_99 (by decide) dX1_tellingDays_16 ?_
      refine g_icmpge (tgt := 53) dX1_tellingDays_19 (by decide) ?_ ?_
      · refine g_aload_n dX1_tellingDays_22 rfl rfl ?_
        refine g_aload_n dX1_tellingDays_23 rfl rfl ?_
        refine g_iload dX1_tellingDays_24 rfl ?_
        refine g_callv2 (st := []) 1 mw_X1_measure lk_RX1_35 rfl kh_99 (ok_Fi_measure pr1 v4 hpr1 σ) (Nat.le_of_ble_eq_true rfl) rfl rfl (Nat.le_of_ble_eq_true rfl) dX1_tellingDays_26 ?_
        intro r1 s2
        refine g_aload_n dX1_tellingDays_29 rfl rfl ?_
        refine g_callv0 (st := []) 1 mw_X1_unlikeLengths lk_RX1_39 rfl kh_99 (ok_Fi_unlikeLengths s2) (Nat.le_of_ble_eq_true rfl) rfl rfl (Nat.le_of_ble_eq_true rfl) dX1_tellingDays_30 ?_
        intro r3 s4
        refine g_istore (lv' := [some (.inr (.inr 99)), some (.inr (.inr pr1)), some (.inl v2), some (.inl v3), some (.inl v4), some (.inl r3)]) dX1_tellingDays_33 (Nat.le_of_ble_eq_true rfl) rfl ?_
        refine g_iload dX1_tellingDays_35 rfl ?_
        refine g_iload_n dX1_tellingDays_37 rfl rfl ?_
        refine g_icmple (tgt := 47) dX1_tellingDays_38 (by decide) ?_ ?_
        · refine g_iload dX1_tellingDays_41 rfl ?_
          refine g_istore_n (lv' := [some (.inr (.inr 99)), some (.inr (.inr pr1)), some (.inl v2), some (.inl r3), some (.inl v4), some (.inl r3)]) dX1_tellingDays_43 rfl (Nat.le_of_ble_eq_true rfl) rfl ?_
          refine g_iload dX1_tellingDays_44 rfl ?_
          refine g_istore_n (lv' := [some (.inr (.inr 99)), some (.inr (.inr pr1)), some (.inl v4), some (.inl r3), some (.inl v4), some (.inl r3)]) dX1_tellingDays_46 rfl (Nat.le_of_ble_eq_true rfl) rfl ?_
          refine n_iinc (fun x5 => [some (.inr (.inr 99)), some (.inr (.inr pr1)), some (.inl v4), some (.inl r3), some (.inl x5), some (.inl r3)]) dX1_tellingDays_47 rfl (Nat.le_of_ble_eq_true rfl) (fun _ => rfl) ?_
          intro x5
          refine g_goto (tgt := 7) dX1_tellingDays_50 (by decide) ?_
          exact (g_weak [true, true, true, true, true, false] (ih v4 r3 x5 s4))
        · refine n_iinc (fun x6 => [some (.inr (.inr 99)), some (.inr (.inr pr1)), some (.inl v2), some (.inl v3), some (.inl x6), some (.inl r3)]) dX1_tellingDays_47 rfl (Nat.le_of_ble_eq_true rfl) (fun _ => rfl) ?_
          intro x6
          refine g_goto (tgt := 7) dX1_tellingDays_50 (by decide) ?_
          exact (g_weak [true, true, true, true, true, false] (ih v2 v3 x6 s4))
      · refine g_iload_n dX1_tellingDays_53 rfl rfl ?_
        exact g_iret dX1_tellingDays_54
def Fi_tellingDays (pr1 : Nat) (σ : Sg) : Rs := (Fi_tellingDays_L7 pr1 fu 0 0 1 σ)
theorem ok_Fi_tellingDays (pr1 : Nat) (hpr1 : Kh[pr1]? = some (.inl 4)) (σ : Sg) : MC l Kh Ph yX1_tellingDays cX1_tellingDays 6 0 3 [.inr (.inr 99), .inr (.inr pr1)] σ (Fi_tellingDays pr1 σ) := by
  refine mc_of (by decide) (Nat.le_of_ble_eq_true rfl) ?_
  change G l Kh Ph RX1 cX1_tellingDays 6 0 3 0 [some (.inr (.inr 99)), some (.inr (.inr pr1)), none, none, none, none] [] σ (Fi_tellingDays pr1 σ)
  unfold Fi_tellingDays
  refine g_iconst dX1_tellingDays_0 (by decide) ?_
  refine g_istore_n (lv' := [some (.inr (.inr 99)), some (.inr (.inr pr1)), some (.inl 0), none, none, none]) dX1_tellingDays_1 rfl (Nat.le_of_ble_eq_true rfl) rfl ?_
  refine g_iconst dX1_tellingDays_2 (by decide) ?_
  refine g_istore_n (lv' := [some (.inr (.inr 99)), some (.inr (.inr pr1)), some (.inl 0), some (.inl 0), none, none]) dX1_tellingDays_3 rfl (Nat.le_of_ble_eq_true rfl) rfl ?_
  refine g_iconst dX1_tellingDays_4 (by decide) ?_
  refine g_istore (lv' := [some (.inr (.inr 99)), some (.inr (.inr pr1)), some (.inl 0), some (.inl 0), some (.inl 1), none]) dX1_tellingDays_5 (Nat.le_of_ble_eq_true rfl) rfl ?_
  refine (ok_Fi_tellingDays_L7 pr1 hpr1 fu 0 0 1 σ)
theorem dX11_ask_0 : decode cX11_ask 0 = .ok (.aload_n 0, 1) := by decide +kernel
theorem dX11_ask_1 : decode cX11_ask 1 = .ok (.iload_n 1, 1) := by decide +kernel
theorem dX11_ask_2 : decode cX11_ask 2 = .ok (.iload_n 2, 1) := by decide +kernel
theorem dX11_ask_3 : decode cX11_ask 3 = .ok (.invokevirtual 363, 3) := by decide +kernel
theorem dX11_ask_6 : decode cX11_ask 6 = .ok (.istore_n 3, 1) := by decide +kernel
theorem dX11_ask_7 : decode cX11_ask 7 = .ok (.iload_n 3, 1) := by decide +kernel
theorem dX11_ask_8 : decode cX11_ask 8 = .ok (.ifCond .eq 9, 3) := by decide +kernel
theorem dX11_ask_11 : decode cX11_ask 11 = .ok (.aload_n 0, 1) := by decide +kernel
theorem dX11_ask_12 : decode cX11_ask 12 = .ok (.iload_n 3, 1) := by decide +kernel
theorem dX11_ask_13 : decode cX11_ask 13 = .ok (.invokevirtual 147, 3) := by decide +kernel
theorem dX11_ask_16 : decode cX11_ask 16 = .ok (.ireturn, 1) := by decide +kernel
theorem dX11_ask_17 : decode cX11_ask 17 = .ok (.aload_n 0, 1) := by decide +kernel
theorem dX11_ask_18 : decode cX11_ask 18 = .ok (.getfield 82, 3) := by decide +kernel
theorem dX11_ask_21 : decode cX11_ask 21 = .ok (.getfield 366, 3) := by decide +kernel
theorem dX11_ask_24 : decode cX11_ask 24 = .ok (.iconst 2, 1) := by decide +kernel
theorem dX11_ask_25 : decode cX11_ask 25 = .ok (.if_icmp .ge 12, 3) := by decide +kernel
theorem dX11_ask_28 : decode cX11_ask 28 = .ok (.aload_n 0, 1) := by decide +kernel
theorem dX11_ask_29 : decode cX11_ask 29 = .ok (.bipush 8, 2) := by decide +kernel
theorem dX11_ask_31 : decode cX11_ask 31 = .ok (.invokevirtual 147, 3) := by decide +kernel
theorem dX11_ask_34 : decode cX11_ask 34 = .ok (.goto 18, 3) := by decide +kernel
theorem dX11_ask_37 : decode cX11_ask 37 = .ok (.aload_n 0, 1) := by decide +kernel
theorem dX11_ask_38 : decode cX11_ask 38 = .ok (.aload_n 0, 1) := by decide +kernel
theorem dX11_ask_39 : decode cX11_ask 39 = .ok (.getfield 82, 3) := by decide +kernel
theorem dX11_ask_42 : decode cX11_ask 42 = .ok (.aload_n 0, 1) := by decide +kernel
theorem dX11_ask_43 : decode cX11_ask 43 = .ok (.getfield 43, 3) := by decide +kernel
theorem dX11_ask_46 : decode cX11_ask 46 = .ok (.invokevirtual 372, 3) := by decide +kernel
theorem dX11_ask_49 : decode cX11_ask 49 = .ok (.invokevirtual 194, 3) := by decide +kernel
theorem dX11_ask_52 : decode cX11_ask 52 = .ok (.ireturn, 1) := by decide +kernel
theorem mw_X11_ask : MW yX11_ask cX11_ask 4 0 2 false := ⟨tm 1318 (by decide +kernel) rfl, tm 235 (by decide +kernel) rfl, by decide, by decide, (by rw [if_neg (by decide)]; exact ⟨tm 1316 (by decide +kernel) rfl, tm 1317 (by decide +kernel) rfl⟩)⟩
theorem lk_RX11_147 : LK RX11 147 yX11_fail := Or.inl (tm 759 (by decide +kernel) rfl)
theorem lk_RX11_194 : LK RX11 194 yX11_give := Or.inl (tm 964 (by decide +kernel) rfl)
theorem lk_RX11_363 : LK RX11 363 yX11_gather := Or.inl (tm 1284 (by decide +kernel) rfl)
theorem lk_RX11_372 : LK RX11 372 yX1_tellingDays := Or.inr ⟨"HairProvince", tm 1319 (by decide +kernel) rfl⟩
theorem fl_RX11_366 : FL RX11 366 1 1 := ⟨_, _, _, _, cw_1, by decide, Or.inl (by decide), Or.inr (by decide), Or.inr ⟨"HairProvince", tm 564 (by decide +kernel) rfl⟩⟩
def H_ask (a1 : Int) (a2 : Int) (σ : Sg) : Rs := (bd (H_gather a1 a2 σ) (fun r1 s2 => (if r1 = 0 then (if (s2 99 1) < 2 then (bd (H_fail 8 s2) (fun r3 s4 => (some (r3, s4)))) else (bd (Fi_tellingDays 8 s2) (fun r5 s6 => (bd (H_give r5 s6) (fun r7 s8 => (some (r7, s8))))))) else (bd (H_fail r1 s2) (fun r9 s10 => (some (r9, s10)))))))
theorem ok_H_ask (a1 : Int) (a2 : Int) (σ : Sg) : MC l Kh Ph yX11_ask cX11_ask 4 0 6 [.inr (.inr 0), .inl a1, .inl a2] σ (H_ask a1 a2 σ) := by
  refine mc_of (by decide) (Nat.le_of_ble_eq_true rfl) ?_
  change G l Kh Ph RX11 cX11_ask 4 0 6 0 [some (.inr (.inr 0)), some (.inl a1), some (.inl a2), none] [] σ (H_ask a1 a2 σ)
  unfold H_ask
  refine g_aload_n dX11_ask_0 rfl rfl ?_
  refine g_iload_n dX11_ask_1 rfl rfl ?_
  refine g_iload_n dX11_ask_2 rfl rfl ?_
  refine g_callv0 (st := []) 9 mw_X11_gather lk_RX11_363 rfl kh_0 (ok_H_gather a1 a2 σ) (Nat.le_of_ble_eq_true rfl) rfl rfl (Nat.le_of_ble_eq_true rfl) dX11_ask_3 ?_
  intro r1 s2
  refine g_istore_n (lv' := [some (.inr (.inr 0)), some (.inl a1), some (.inl a2), some (.inl r1)]) dX11_ask_6 rfl (Nat.le_of_ble_eq_true rfl) rfl ?_
  refine g_iload_n dX11_ask_7 rfl rfl ?_
  refine g_ifeq (tgt := 17) dX11_ask_8 (by decide) ?_ ?_
  · refine g_aload_n dX11_ask_17 rfl rfl ?_
    refine g_getr' (q := 99) fl_RX11_82 kh_0 (by decide) rfl dX11_ask_18 ?_
    refine g_geti fl_RX11_366 kh_99 (by decide) dX11_ask_21 ?_
    refine g_iconst dX11_ask_24 (by decide) ?_
    refine g_icmpge (tgt := 37) dX11_ask_25 (by decide) ?_ ?_
    · refine g_aload_n dX11_ask_28 rfl rfl ?_
      refine g_bipush dX11_ask_29 (by decide) ?_
      refine g_callv0 (st := []) 9 mw_X11_fail lk_RX11_147 rfl kh_0 (ok_H_fail 8 s2) (Nat.le_of_ble_eq_true rfl) rfl rfl (Nat.le_of_ble_eq_true rfl) dX11_ask_31 ?_
      intro r3 s4
      refine g_goto (tgt := 52) dX11_ask_34 (by decide) ?_
      exact g_iret dX11_ask_52
    · refine g_aload_n dX11_ask_37 rfl rfl ?_
      refine g_aload_n dX11_ask_38 rfl rfl ?_
      refine g_getr' (q := 99) fl_RX11_82 kh_0 (by decide) rfl dX11_ask_39 ?_
      refine g_aload_n dX11_ask_42 rfl rfl ?_
      refine g_getr' (q := 8) fl_RX11_43 kh_0 (by decide) rfl dX11_ask_43 ?_
      refine g_callv0 (st := [.inr (.inr 0)]) 1 mw_X1_tellingDays lk_RX11_372 rfl kh_99 (ok_Fi_tellingDays 8 kh_8 s2) (Nat.le_of_ble_eq_true rfl) rfl rfl (Nat.le_of_ble_eq_true rfl) dX11_ask_46 ?_
      intro r5 s6
      refine g_callv0 (st := []) 9 mw_X11_give lk_RX11_194 rfl kh_0 (ok_H_give r5 s6) (Nat.le_of_ble_eq_true rfl) rfl rfl (Nat.le_of_ble_eq_true rfl) dX11_ask_49 ?_
      intro r7 s8
      exact g_iret dX11_ask_52
  · refine g_aload_n dX11_ask_11 rfl rfl ?_
    refine g_iload_n dX11_ask_12 rfl rfl ?_
    refine g_callv0 (st := []) 9 mw_X11_fail lk_RX11_147 rfl kh_0 (ok_H_fail r1 s2) (Nat.le_of_ble_eq_true rfl) rfl rfl (Nat.le_of_ble_eq_true rfl) dX11_ask_13 ?_
    intro r9 s10
    exact g_iret dX11_ask_16
theorem dX4_copyFrom_0 : decode cX4_copyFrom 0 = .ok (.aload_n 1, 1) := by decide +kernel
theorem dX4_copyFrom_1 : decode cX4_copyFrom 1 = .ok (.getfield 9, 3) := by decide +kernel
theorem dX4_copyFrom_4 : decode cX4_copyFrom 4 = .ok (.iconst 0, 1) := by decide +kernel
theorem dX4_copyFrom_5 : decode cX4_copyFrom 5 = .ok (.aload_n 0, 1) := by decide +kernel
theorem dX4_copyFrom_6 : decode cX4_copyFrom 6 = .ok (.getfield 9, 3) := by decide +kernel
theorem dX4_copyFrom_9 : decode cX4_copyFrom 9 = .ok (.iconst 0, 1) := by decide +kernel
theorem dX4_copyFrom_10 : decode cX4_copyFrom 10 = .ok (.bipush 14, 2) := by decide +kernel
theorem dX4_copyFrom_12 : decode cX4_copyFrom 12 = .ok (.invokestatic 74, 3) := by decide +kernel
theorem dX4_copyFrom_15 : decode cX4_copyFrom 15 = .ok (.aload_n 1, 1) := by decide +kernel
theorem dX4_copyFrom_16 : decode cX4_copyFrom 16 = .ok (.getfield 15, 3) := by decide +kernel
theorem dX4_copyFrom_19 : decode cX4_copyFrom 19 = .ok (.iconst 0, 1) := by decide +kernel
theorem dX4_copyFrom_20 : decode cX4_copyFrom 20 = .ok (.aload_n 0, 1) := by decide +kernel
theorem dX4_copyFrom_21 : decode cX4_copyFrom 21 = .ok (.getfield 15, 3) := by decide +kernel
theorem dX4_copyFrom_24 : decode cX4_copyFrom 24 = .ok (.iconst 0, 1) := by decide +kernel
theorem dX4_copyFrom_25 : decode cX4_copyFrom 25 = .ok (.bipush 8, 2) := by decide +kernel
theorem dX4_copyFrom_27 : decode cX4_copyFrom 27 = .ok (.invokestatic 74, 3) := by decide +kernel
theorem dX4_copyFrom_30 : decode cX4_copyFrom 30 = .ok (.aload_n 1, 1) := by decide +kernel
theorem dX4_copyFrom_31 : decode cX4_copyFrom 31 = .ok (.getfield 19, 3) := by decide +kernel
theorem dX4_copyFrom_34 : decode cX4_copyFrom 34 = .ok (.iconst 0, 1) := by decide +kernel
theorem dX4_copyFrom_35 : decode cX4_copyFrom 35 = .ok (.aload_n 0, 1) := by decide +kernel
theorem dX4_copyFrom_36 : decode cX4_copyFrom 36 = .ok (.getfield 19, 3) := by decide +kernel
theorem dX4_copyFrom_39 : decode cX4_copyFrom 39 = .ok (.iconst 0, 1) := by decide +kernel
theorem dX4_copyFrom_40 : decode cX4_copyFrom 40 = .ok (.bipush 8, 2) := by decide +kernel
theorem dX4_copyFrom_42 : decode cX4_copyFrom 42 = .ok (.invokestatic 74, 3) := by decide +kernel
theorem dX4_copyFrom_45 : decode cX4_copyFrom 45 = .ok (.aload_n 1, 1) := by decide +kernel
theorem dX4_copyFrom_46 : decode cX4_copyFrom 46 = .ok (.getfield 22, 3) := by decide +kernel
theorem dX4_copyFrom_49 : decode cX4_copyFrom 49 = .ok (.iconst 0, 1) := by decide +kernel
theorem dX4_copyFrom_50 : decode cX4_copyFrom 50 = .ok (.aload_n 0, 1) := by decide +kernel
theorem dX4_copyFrom_51 : decode cX4_copyFrom 51 = .ok (.getfield 22, 3) := by decide +kernel
theorem dX4_copyFrom_54 : decode cX4_copyFrom 54 = .ok (.iconst 0, 1) := by decide +kernel
theorem dX4_copyFrom_55 : decode cX4_copyFrom 55 = .ok (.bipush 8, 2) := by decide +kernel
theorem dX4_copyFrom_57 : decode cX4_copyFrom 57 = .ok (.invokestatic 74, 3) := by decide +kernel
theorem dX4_copyFrom_60 : decode cX4_copyFrom 60 = .ok (.aload_n 1, 1) := by decide +kernel
theorem dX4_copyFrom_61 : decode cX4_copyFrom 61 = .ok (.getfield 25, 3) := by decide +kernel
theorem dX4_copyFrom_64 : decode cX4_copyFrom 64 = .ok (.iconst 0, 1) := by decide +kernel
theorem dX4_copyFrom_65 : decode cX4_copyFrom 65 = .ok (.aload_n 0, 1) := by decide +kernel
theorem dX4_copyFrom_66 : decode cX4_copyFrom 66 = .ok (.getfield 25, 3) := by decide +kernel
theorem dX4_copyFrom_69 : decode cX4_copyFrom 69 = .ok (.iconst 0, 1) := by decide +kernel
theorem dX4_copyFrom_70 : decode cX4_copyFrom 70 = .ok (.bipush 6, 2) := by decide +kernel
theorem dX4_copyFrom_72 : decode cX4_copyFrom 72 = .ok (.invokestatic 74, 3) := by decide +kernel
theorem dX4_copyFrom_75 : decode cX4_copyFrom 75 = .ok (.aload_n 1, 1) := by decide +kernel
theorem dX4_copyFrom_76 : decode cX4_copyFrom 76 = .ok (.getfield 28, 3) := by decide +kernel
theorem dX4_copyFrom_79 : decode cX4_copyFrom 79 = .ok (.iconst 0, 1) := by decide +kernel
theorem dX4_copyFrom_80 : decode cX4_copyFrom 80 = .ok (.aload_n 0, 1) := by decide +kernel
theorem dX4_copyFrom_81 : decode cX4_copyFrom 81 = .ok (.getfield 28, 3) := by decide +kernel
theorem dX4_copyFrom_84 : decode cX4_copyFrom 84 = .ok (.iconst 0, 1) := by decide +kernel
theorem dX4_copyFrom_85 : decode cX4_copyFrom 85 = .ok (.bipush 6, 2) := by decide +kernel
theorem dX4_copyFrom_87 : decode cX4_copyFrom 87 = .ok (.invokestatic 74, 3) := by decide +kernel
theorem dX4_copyFrom_90 : decode cX4_copyFrom 90 = .ok (.aload_n 1, 1) := by decide +kernel
theorem dX4_copyFrom_91 : decode cX4_copyFrom 91 = .ok (.getfield 31, 3) := by decide +kernel
theorem dX4_copyFrom_94 : decode cX4_copyFrom 94 = .ok (.iconst 0, 1) := by decide +kernel
theorem dX4_copyFrom_95 : decode cX4_copyFrom 95 = .ok (.aload_n 0, 1) := by decide +kernel
theorem dX4_copyFrom_96 : decode cX4_copyFrom 96 = .ok (.getfield 31, 3) := by decide +kernel
theorem dX4_copyFrom_99 : decode cX4_copyFrom 99 = .ok (.iconst 0, 1) := by decide +kernel
theorem dX4_copyFrom_100 : decode cX4_copyFrom 100 = .ok (.bipush 6, 2) := by decide +kernel
theorem dX4_copyFrom_102 : decode cX4_copyFrom 102 = .ok (.invokestatic 74, 3) := by decide +kernel
theorem dX4_copyFrom_105 : decode cX4_copyFrom 105 = .ok (.aload_n 1, 1) := by decide +kernel
theorem dX4_copyFrom_106 : decode cX4_copyFrom 106 = .ok (.getfield 34, 3) := by decide +kernel
theorem dX4_copyFrom_109 : decode cX4_copyFrom 109 = .ok (.iconst 0, 1) := by decide +kernel
theorem dX4_copyFrom_110 : decode cX4_copyFrom 110 = .ok (.aload_n 0, 1) := by decide +kernel
theorem dX4_copyFrom_111 : decode cX4_copyFrom 111 = .ok (.getfield 34, 3) := by decide +kernel
theorem dX4_copyFrom_114 : decode cX4_copyFrom 114 = .ok (.iconst 0, 1) := by decide +kernel
theorem dX4_copyFrom_115 : decode cX4_copyFrom 115 = .ok (.bipush 48, 2) := by decide +kernel
theorem dX4_copyFrom_117 : decode cX4_copyFrom 117 = .ok (.invokestatic 74, 3) := by decide +kernel
theorem dX4_copyFrom_120 : decode cX4_copyFrom 120 = .ok (.aload_n 1, 1) := by decide +kernel
theorem dX4_copyFrom_121 : decode cX4_copyFrom 121 = .ok (.getfield 37, 3) := by decide +kernel
theorem dX4_copyFrom_124 : decode cX4_copyFrom 124 = .ok (.iconst 0, 1) := by decide +kernel
theorem dX4_copyFrom_125 : decode cX4_copyFrom 125 = .ok (.aload_n 0, 1) := by decide +kernel
theorem dX4_copyFrom_126 : decode cX4_copyFrom 126 = .ok (.getfield 37, 3) := by decide +kernel
theorem dX4_copyFrom_129 : decode cX4_copyFrom 129 = .ok (.iconst 0, 1) := by decide +kernel
theorem dX4_copyFrom_130 : decode cX4_copyFrom 130 = .ok (.bipush 48, 2) := by decide +kernel
theorem dX4_copyFrom_132 : decode cX4_copyFrom 132 = .ok (.invokestatic 74, 3) := by decide +kernel
theorem dX4_copyFrom_135 : decode cX4_copyFrom 135 = .ok (.aload_n 1, 1) := by decide +kernel
theorem dX4_copyFrom_136 : decode cX4_copyFrom 136 = .ok (.getfield 40, 3) := by decide +kernel
theorem dX4_copyFrom_139 : decode cX4_copyFrom 139 = .ok (.iconst 0, 1) := by decide +kernel
theorem dX4_copyFrom_140 : decode cX4_copyFrom 140 = .ok (.aload_n 0, 1) := by decide +kernel
theorem dX4_copyFrom_141 : decode cX4_copyFrom 141 = .ok (.getfield 40, 3) := by decide +kernel
theorem dX4_copyFrom_144 : decode cX4_copyFrom 144 = .ok (.iconst 0, 1) := by decide +kernel
theorem dX4_copyFrom_145 : decode cX4_copyFrom 145 = .ok (.bipush 18, 2) := by decide +kernel
theorem dX4_copyFrom_147 : decode cX4_copyFrom 147 = .ok (.invokestatic 74, 3) := by decide +kernel
theorem dX4_copyFrom_150 : decode cX4_copyFrom 150 = .ok (.aload_n 0, 1) := by decide +kernel
theorem dX4_copyFrom_151 : decode cX4_copyFrom 151 = .ok (.aload_n 1, 1) := by decide +kernel
theorem dX4_copyFrom_152 : decode cX4_copyFrom 152 = .ok (.getfield 50, 3) := by decide +kernel
theorem dX4_copyFrom_155 : decode cX4_copyFrom 155 = .ok (.putfield 50, 3) := by decide +kernel
theorem dX4_copyFrom_158 : decode cX4_copyFrom 158 = .ok (.aload_n 0, 1) := by decide +kernel
theorem dX4_copyFrom_159 : decode cX4_copyFrom 159 = .ok (.aload_n 1, 1) := by decide +kernel
theorem dX4_copyFrom_160 : decode cX4_copyFrom 160 = .ok (.getfield 53, 3) := by decide +kernel
theorem dX4_copyFrom_163 : decode cX4_copyFrom 163 = .ok (.putfield 53, 3) := by decide +kernel
theorem dX4_copyFrom_166 : decode cX4_copyFrom 166 = .ok (.aload_n 0, 1) := by decide +kernel
theorem dX4_copyFrom_167 : decode cX4_copyFrom 167 = .ok (.aload_n 1, 1) := by decide +kernel
theorem dX4_copyFrom_168 : decode cX4_copyFrom 168 = .ok (.getfield 56, 3) := by decide +kernel
theorem dX4_copyFrom_171 : decode cX4_copyFrom 171 = .ok (.putfield 56, 3) := by decide +kernel
theorem dX4_copyFrom_174 : decode cX4_copyFrom 174 = .ok (.aload_n 0, 1) := by decide +kernel
theorem dX4_copyFrom_175 : decode cX4_copyFrom 175 = .ok (.aload_n 1, 1) := by decide +kernel
theorem dX4_copyFrom_176 : decode cX4_copyFrom 176 = .ok (.getfield 59, 3) := by decide +kernel
theorem dX4_copyFrom_179 : decode cX4_copyFrom 179 = .ok (.putfield 59, 3) := by decide +kernel
theorem dX4_copyFrom_182 : decode cX4_copyFrom 182 = .ok (.aload_n 0, 1) := by decide +kernel
theorem dX4_copyFrom_183 : decode cX4_copyFrom 183 = .ok (.aload_n 1, 1) := by decide +kernel
theorem dX4_copyFrom_184 : decode cX4_copyFrom 184 = .ok (.getfield 43, 3) := by decide +kernel
theorem dX4_copyFrom_187 : decode cX4_copyFrom 187 = .ok (.putfield 43, 3) := by decide +kernel
theorem dX4_copyFrom_190 : decode cX4_copyFrom 190 = .ok (.aload_n 0, 1) := by decide +kernel
theorem dX4_copyFrom_191 : decode cX4_copyFrom 191 = .ok (.aload_n 1, 1) := by decide +kernel
theorem dX4_copyFrom_192 : decode cX4_copyFrom 192 = .ok (.getfield 47, 3) := by decide +kernel
theorem dX4_copyFrom_195 : decode cX4_copyFrom 195 = .ok (.putfield 47, 3) := by decide +kernel
theorem dX4_copyFrom_198 : decode cX4_copyFrom 198 = .ok (.aload_n 0, 1) := by decide +kernel
theorem dX4_copyFrom_199 : decode cX4_copyFrom 199 = .ok (.aload_n 1, 1) := by decide +kernel
theorem dX4_copyFrom_200 : decode cX4_copyFrom 200 = .ok (.getfield 62, 3) := by decide +kernel
theorem dX4_copyFrom_203 : decode cX4_copyFrom 203 = .ok (.putfield 62, 3) := by decide +kernel
theorem dX4_copyFrom_206 : decode cX4_copyFrom 206 = .ok (.aload_n 0, 1) := by decide +kernel
theorem dX4_copyFrom_207 : decode cX4_copyFrom 207 = .ok (.aload_n 1, 1) := by decide +kernel
theorem dX4_copyFrom_208 : decode cX4_copyFrom 208 = .ok (.getfield 65, 3) := by decide +kernel
theorem dX4_copyFrom_211 : decode cX4_copyFrom 211 = .ok (.putfield 65, 3) := by decide +kernel
theorem dX4_copyFrom_214 : decode cX4_copyFrom 214 = .ok (.aload_n 0, 1) := by decide +kernel
theorem dX4_copyFrom_215 : decode cX4_copyFrom 215 = .ok (.aload_n 1, 1) := by decide +kernel
theorem dX4_copyFrom_216 : decode cX4_copyFrom 216 = .ok (.getfield 68, 3) := by decide +kernel
theorem dX4_copyFrom_219 : decode cX4_copyFrom 219 = .ok (.putfield 68, 3) := by decide +kernel
theorem dX4_copyFrom_222 : decode cX4_copyFrom 222 = .ok (.aload_n 0, 1) := by decide +kernel
theorem dX4_copyFrom_223 : decode cX4_copyFrom 223 = .ok (.aload_n 1, 1) := by decide +kernel
theorem dX4_copyFrom_224 : decode cX4_copyFrom 224 = .ok (.getfield 71, 3) := by decide +kernel
theorem dX4_copyFrom_227 : decode cX4_copyFrom 227 = .ok (.putfield 71, 3) := by decide +kernel
theorem dX4_copyFrom_230 : decode cX4_copyFrom 230 = .ok (.return_, 1) := by decide +kernel
theorem mw_X4_copyFrom : MW yX4_copyFrom cX4_copyFrom 2 2 1 false := ⟨tm 958 (by decide +kernel) rfl, tm 242 (by decide +kernel) rfl, by decide, by decide, (by rw [if_neg (by decide)]; exact ⟨tm 957 (by decide +kernel) rfl, tm 44 (by decide +kernel) rfl⟩)⟩
theorem fl_RX4_9 : FL RX4 9 4 0 := ⟨_, _, _, _, cw_4, by decide, Or.inr (Or.inr (Or.inr (by decide))), Or.inl (by decide), Or.inl (tm 396 (by decide +kernel) rfl)⟩
theorem fl_RX4_22 : FL RX4 22 4 3 := ⟨_, _, _, _, cw_4, by decide, Or.inr (Or.inr (Or.inr (by decide))), Or.inl (by decide), Or.inl (tm 401 (by decide +kernel) rfl)⟩
theorem fl_RX4_25 : FL RX4 25 4 4 := ⟨_, _, _, _, cw_4, by decide, Or.inr (Or.inr (Or.inr (by decide))), Or.inl (by decide), Or.inl (tm 404 (by decide +kernel) rfl)⟩
theorem fl_RX4_28 : FL RX4 28 4 5 := ⟨_, _, _, _, cw_4, by decide, Or.inr (Or.inr (Or.inr (by decide))), Or.inl (by decide), Or.inl (tm 406 (by decide +kernel) rfl)⟩
theorem fl_RX4_31 : FL RX4 31 4 6 := ⟨_, _, _, _, cw_4, by decide, Or.inr (Or.inr (Or.inr (by decide))), Or.inl (by decide), Or.inl (tm 409 (by decide +kernel) rfl)⟩
theorem fl_RX4_34 : FL RX4 34 4 7 := ⟨_, _, _, _, cw_4, by decide, Or.inr (Or.inr (Or.inr (by decide))), Or.inl (by decide), Or.inl (tm 413 (by decide +kernel) rfl)⟩
theorem fl_RX4_37 : FL RX4 37 4 8 := ⟨_, _, _, _, cw_4, by decide, Or.inr (Or.inr (Or.inr (by decide))), Or.inl (by decide), Or.inl (tm 415 (by decide +kernel) rfl)⟩
theorem fl_RX4_40 : FL RX4 40 4 9 := ⟨_, _, _, _, cw_4, by decide, Or.inr (Or.inr (Or.inr (by decide))), Or.inl (by decide), Or.inl (tm 417 (by decide +kernel) rfl)⟩
theorem fl_RX4_43 : FL RX4 43 4 14 := ⟨_, _, _, _, cw_4, by decide, Or.inl (by decide), Or.inr (by decide), Or.inl (tm 435 (by decide +kernel) rfl)⟩
theorem fl_RX4_47 : FL RX4 47 4 15 := ⟨_, _, _, _, cw_4, by decide, Or.inl (by decide), Or.inr (by decide), Or.inl (tm 438 (by decide +kernel) rfl)⟩
theorem fl_RX4_50 : FL RX4 50 4 10 := ⟨_, _, _, _, cw_4, by decide, Or.inl (by decide), Or.inr (by decide), Or.inl (tm 418 (by decide +kernel) rfl)⟩
theorem fl_RX4_56 : FL RX4 56 4 12 := ⟨_, _, _, _, cw_4, by decide, Or.inl (by decide), Or.inr (by decide), Or.inl (tm 429 (by decide +kernel) rfl)⟩
theorem fl_RX4_59 : FL RX4 59 4 13 := ⟨_, _, _, _, cw_4, by decide, Or.inl (by decide), Or.inr (by decide), Or.inl (tm 432 (by decide +kernel) rfl)⟩
theorem fl_RX4_62 : FL RX4 62 4 16 := ⟨_, _, _, _, cw_4, by decide, Or.inl (by decide), Or.inr (by decide), Or.inl (tm 441 (by decide +kernel) rfl)⟩
theorem fl_RX4_65 : FL RX4 65 4 17 := ⟨_, _, _, _, cw_4, by decide, Or.inl (by decide), Or.inr (by decide), Or.inl (tm 445 (by decide +kernel) rfl)⟩
theorem fl_RX4_68 : FL RX4 68 4 18 := ⟨_, _, _, _, cw_4, by decide, Or.inl (by decide), Or.inr (by decide), Or.inl (tm 447 (by decide +kernel) rfl)⟩
theorem fl_RX4_71 : FL RX4 71 4 19 := ⟨_, _, _, _, cw_4, by decide, Or.inl (by decide), Or.inr (by decide), Or.inl (tm 449 (by decide +kernel) rfl)⟩
theorem cy_RX4_74 : CY RX4 74 := ⟨tm 959 (by decide +kernel) rfl, tm 782 (by decide +kernel) rfl, tm 781 (by decide +kernel) rfl, tm 250 (by decide +kernel) rfl⟩
def Pr_copyFrom (pr0 : Nat) (pr1 : Nat) (σ : Sg) : Rs := (cpw 14 14 0 0 14 (cp_s σ (pr1 + 1) (pr0 + 1) (Int.toNat 0) (Int.toNat 0) (Int.toNat 14)) (fun s1 => (cpw 8 8 0 0 8 (cp_s s1 (pr1 + 2) (pr0 + 2) (Int.toNat 0) (Int.toNat 0) (Int.toNat 8)) (fun s2 => (cpw 8 8 0 0 8 (cp_s s2 (pr1 + 3) (pr0 + 3) (Int.toNat 0) (Int.toNat 0) (Int.toNat 8)) (fun s3 => (cpw 8 8 0 0 8 (cp_s s3 (pr1 + 4) (pr0 + 4) (Int.toNat 0) (Int.toNat 0) (Int.toNat 8)) (fun s4 => (cpw 6 6 0 0 6 (cp_s s4 (pr1 + 5) (pr0 + 5) (Int.toNat 0) (Int.toNat 0) (Int.toNat 6)) (fun s5 => (cpw 6 6 0 0 6 (cp_s s5 (pr1 + 6) (pr0 + 6) (Int.toNat 0) (Int.toNat 0) (Int.toNat 6)) (fun s6 => (cpw 6 6 0 0 6 (cp_s s6 (pr1 + 7) (pr0 + 7) (Int.toNat 0) (Int.toNat 0) (Int.toNat 6)) (fun s7 => (cpw 48 48 0 0 48 (cp_s s7 (pr1 + 8) (pr0 + 8) (Int.toNat 0) (Int.toNat 0) (Int.toNat 48)) (fun s8 => (cpw 48 48 0 0 48 (cp_s s8 (pr1 + 9) (pr0 + 9) (Int.toNat 0) (Int.toNat 0) (Int.toNat 48)) (fun s9 => (cpw 18 18 0 0 18 (cp_s s9 (pr1 + 10) (pr0 + 10) (Int.toNat 0) (Int.toNat 0) (Int.toNat 18)) (fun s10 => (nm (up_s s10 pr0 10 (s10 pr1 10)) (fun s11 => (nm (up_s s11 pr0 11 (s11 pr1 11)) (fun s12 => (nm (up_s s12 pr0 12 (s12 pr1 12)) (fun s13 => (nm (up_s s13 pr0 13 (s13 pr1 13)) (fun s14 => (nm (up_s s14 pr0 14 (s14 pr1 14)) (fun s15 => (nm (up_s s15 pr0 15 (s15 pr1 15)) (fun s16 => (nm (up_s s16 pr0 16 (s16 pr1 16)) (fun s17 => (nm (up_s s17 pr0 17 (s17 pr1 17)) (fun s18 => (nm (up_s s18 pr0 18 (s18 pr1 18)) (fun s19 => (nm (up_s s19 pr0 19 (s19 pr1 19)) (fun s20 => (some (0, s20))))))))))))))))))))))))))))))))))))))))))
theorem ok_Pr_copyFrom (pr0 : Nat) (pr1 : Nat) (hpr0 : Kh[pr0]? = some (.inl 4)) (hpr1 : Kh[pr1]? = some (.inl 4)) (σ : Sg) : MC l Kh Ph yX4_copyFrom cX4_copyFrom 2 2 1 [.inr (.inr pr0), .inr (.inr pr1)] σ (Pr_copyFrom pr0 pr1 σ) := by
  refine mc_of (by decide) (Nat.le_of_ble_eq_true rfl) ?_
  change G l Kh Ph RX4 cX4_copyFrom 2 2 1 0 [some (.inr (.inr pr0)), some (.inr (.inr pr1))] [] σ (Pr_copyFrom pr0 pr1 σ)
  unfold Pr_copyFrom
  refine g_aload_n dX4_copyFrom_0 rfl rfl ?_
  refine g_getr' (q := (pr1 + 1)) fl_RX4_9 hpr1 (by decide) (qp0 hpr1) dX4_copyFrom_1 ?_
  refine g_iconst dX4_copyFrom_4 (by decide) ?_
  refine g_aload_n dX4_copyFrom_5 rfl rfl ?_
  refine g_getr' (q := (pr0 + 1)) fl_RX4_9 hpr0 (by decide) (qp0 hpr0) dX4_copyFrom_6 ?_
  refine g_iconst dX4_copyFrom_9 (by decide) ?_
  refine g_bipush dX4_copyFrom_10 (by decide) ?_
  refine g_copyl cy_RX4_74 (kp0 hpr1) (kp0 hpr0) (Nat.le_of_ble_eq_true rfl) (Nat.le_of_ble_eq_true rfl) dX4_copyFrom_12 ?_
  intro s1
  refine g_aload_n dX4_copyFrom_15 rfl rfl ?_
  refine g_getr' (q := (pr1 + 2)) fl_RX4_15 hpr1 (by decide) (qp1 hpr1) dX4_copyFrom_16 ?_
  refine g_iconst dX4_copyFrom_19 (by decide) ?_
  refine g_aload_n dX4_copyFrom_20 rfl rfl ?_
  refine g_getr' (q := (pr0 + 2)) fl_RX4_15 hpr0 (by decide) (qp1 hpr0) dX4_copyFrom_21 ?_
  refine g_iconst dX4_copyFrom_24 (by decide) ?_
  refine g_bipush dX4_copyFrom_25 (by decide) ?_
  refine g_copyi cy_RX4_74 (kp1 hpr1) (kp1 hpr0) (Nat.le_of_ble_eq_true rfl) (Nat.le_of_ble_eq_true rfl) dX4_copyFrom_27 ?_
  intro s2
  refine g_aload_n dX4_copyFrom_30 rfl rfl ?_
  refine g_getr' (q := (pr1 + 3)) fl_RX4_19 hpr1 (by decide) (qp2 hpr1) dX4_copyFrom_31 ?_
  refine g_iconst dX4_copyFrom_34 (by decide) ?_
  refine g_aload_n dX4_copyFrom_35 rfl rfl ?_
  refine g_getr' (q := (pr0 + 3)) fl_RX4_19 hpr0 (by decide) (qp2 hpr0) dX4_copyFrom_36 ?_
  refine g_iconst dX4_copyFrom_39 (by decide) ?_
  refine g_bipush dX4_copyFrom_40 (by decide) ?_
  refine g_copyi cy_RX4_74 (kp2 hpr1) (kp2 hpr0) (Nat.le_of_ble_eq_true rfl) (Nat.le_of_ble_eq_true rfl) dX4_copyFrom_42 ?_
  intro s3
  refine g_aload_n dX4_copyFrom_45 rfl rfl ?_
  refine g_getr' (q := (pr1 + 4)) fl_RX4_22 hpr1 (by decide) (qp3 hpr1) dX4_copyFrom_46 ?_
  refine g_iconst dX4_copyFrom_49 (by decide) ?_
  refine g_aload_n dX4_copyFrom_50 rfl rfl ?_
  refine g_getr' (q := (pr0 + 4)) fl_RX4_22 hpr0 (by decide) (qp3 hpr0) dX4_copyFrom_51 ?_
  refine g_iconst dX4_copyFrom_54 (by decide) ?_
  refine g_bipush dX4_copyFrom_55 (by decide) ?_
  refine g_copyi cy_RX4_74 (kp3 hpr1) (kp3 hpr0) (Nat.le_of_ble_eq_true rfl) (Nat.le_of_ble_eq_true rfl) dX4_copyFrom_57 ?_
  intro s4
  refine g_aload_n dX4_copyFrom_60 rfl rfl ?_
  refine g_getr' (q := (pr1 + 5)) fl_RX4_25 hpr1 (by decide) (qp4 hpr1) dX4_copyFrom_61 ?_
  refine g_iconst dX4_copyFrom_64 (by decide) ?_
  refine g_aload_n dX4_copyFrom_65 rfl rfl ?_
  refine g_getr' (q := (pr0 + 5)) fl_RX4_25 hpr0 (by decide) (qp4 hpr0) dX4_copyFrom_66 ?_
  refine g_iconst dX4_copyFrom_69 (by decide) ?_
  refine g_bipush dX4_copyFrom_70 (by decide) ?_
  refine g_copyi cy_RX4_74 (kp4 hpr1) (kp4 hpr0) (Nat.le_of_ble_eq_true rfl) (Nat.le_of_ble_eq_true rfl) dX4_copyFrom_72 ?_
  intro s5
  refine g_aload_n dX4_copyFrom_75 rfl rfl ?_
  refine g_getr' (q := (pr1 + 6)) fl_RX4_28 hpr1 (by decide) (qp5 hpr1) dX4_copyFrom_76 ?_
  refine g_iconst dX4_copyFrom_79 (by decide) ?_
  refine g_aload_n dX4_copyFrom_80 rfl rfl ?_
  refine g_getr' (q := (pr0 + 6)) fl_RX4_28 hpr0 (by decide) (qp5 hpr0) dX4_copyFrom_81 ?_
  refine g_iconst dX4_copyFrom_84 (by decide) ?_
  refine g_bipush dX4_copyFrom_85 (by decide) ?_
  refine g_copyi cy_RX4_74 (kp5 hpr1) (kp5 hpr0) (Nat.le_of_ble_eq_true rfl) (Nat.le_of_ble_eq_true rfl) dX4_copyFrom_87 ?_
  intro s6
  refine g_aload_n dX4_copyFrom_90 rfl rfl ?_
  refine g_getr' (q := (pr1 + 7)) fl_RX4_31 hpr1 (by decide) (qp6 hpr1) dX4_copyFrom_91 ?_
  refine g_iconst dX4_copyFrom_94 (by decide) ?_
  refine g_aload_n dX4_copyFrom_95 rfl rfl ?_
  refine g_getr' (q := (pr0 + 7)) fl_RX4_31 hpr0 (by decide) (qp6 hpr0) dX4_copyFrom_96 ?_
  refine g_iconst dX4_copyFrom_99 (by decide) ?_
  refine g_bipush dX4_copyFrom_100 (by decide) ?_
  refine g_copyi cy_RX4_74 (kp6 hpr1) (kp6 hpr0) (Nat.le_of_ble_eq_true rfl) (Nat.le_of_ble_eq_true rfl) dX4_copyFrom_102 ?_
  intro s7
  refine g_aload_n dX4_copyFrom_105 rfl rfl ?_
  refine g_getr' (q := (pr1 + 8)) fl_RX4_34 hpr1 (by decide) (qp7 hpr1) dX4_copyFrom_106 ?_
  refine g_iconst dX4_copyFrom_109 (by decide) ?_
  refine g_aload_n dX4_copyFrom_110 rfl rfl ?_
  refine g_getr' (q := (pr0 + 8)) fl_RX4_34 hpr0 (by decide) (qp7 hpr0) dX4_copyFrom_111 ?_
  refine g_iconst dX4_copyFrom_114 (by decide) ?_
  refine g_bipush dX4_copyFrom_115 (by decide) ?_
  refine g_copyi cy_RX4_74 (kp7 hpr1) (kp7 hpr0) (Nat.le_of_ble_eq_true rfl) (Nat.le_of_ble_eq_true rfl) dX4_copyFrom_117 ?_
  intro s8
  refine g_aload_n dX4_copyFrom_120 rfl rfl ?_
  refine g_getr' (q := (pr1 + 9)) fl_RX4_37 hpr1 (by decide) (qp8 hpr1) dX4_copyFrom_121 ?_
  refine g_iconst dX4_copyFrom_124 (by decide) ?_
  refine g_aload_n dX4_copyFrom_125 rfl rfl ?_
  refine g_getr' (q := (pr0 + 9)) fl_RX4_37 hpr0 (by decide) (qp8 hpr0) dX4_copyFrom_126 ?_
  refine g_iconst dX4_copyFrom_129 (by decide) ?_
  refine g_bipush dX4_copyFrom_130 (by decide) ?_
  refine g_copyi cy_RX4_74 (kp8 hpr1) (kp8 hpr0) (Nat.le_of_ble_eq_true rfl) (Nat.le_of_ble_eq_true rfl) dX4_copyFrom_132 ?_
  intro s9
  refine g_aload_n dX4_copyFrom_135 rfl rfl ?_
  refine g_getr' (q := (pr1 + 10)) fl_RX4_40 hpr1 (by decide) (qp9 hpr1) dX4_copyFrom_136 ?_
  refine g_iconst dX4_copyFrom_139 (by decide) ?_
  refine g_aload_n dX4_copyFrom_140 rfl rfl ?_
  refine g_getr' (q := (pr0 + 10)) fl_RX4_40 hpr0 (by decide) (qp9 hpr0) dX4_copyFrom_141 ?_
  refine g_iconst dX4_copyFrom_144 (by decide) ?_
  refine g_bipush dX4_copyFrom_145 (by decide) ?_
  refine g_copyi cy_RX4_74 (kp9 hpr1) (kp9 hpr0) (Nat.le_of_ble_eq_true rfl) (Nat.le_of_ble_eq_true rfl) dX4_copyFrom_147 ?_
  intro s10
  refine g_aload_n dX4_copyFrom_150 rfl rfl ?_
  refine g_aload_n dX4_copyFrom_151 rfl rfl ?_
  refine g_geti fl_RX4_50 hpr1 (by decide) dX4_copyFrom_152 ?_
  refine g_puti fl_RX4_50 hpr0 (by decide) dX4_copyFrom_155 ?_
  intro s11
  refine g_aload_n dX4_copyFrom_158 rfl rfl ?_
  refine g_aload_n dX4_copyFrom_159 rfl rfl ?_
  refine g_geti fl_RX4_53 hpr1 (by decide) dX4_copyFrom_160 ?_
  refine g_puti fl_RX4_53 hpr0 (by decide) dX4_copyFrom_163 ?_
  intro s12
  refine g_aload_n dX4_copyFrom_166 rfl rfl ?_
  refine g_aload_n dX4_copyFrom_167 rfl rfl ?_
  refine g_geti fl_RX4_56 hpr1 (by decide) dX4_copyFrom_168 ?_
  refine g_puti fl_RX4_56 hpr0 (by decide) dX4_copyFrom_171 ?_
  intro s13
  refine g_aload_n dX4_copyFrom_174 rfl rfl ?_
  refine g_aload_n dX4_copyFrom_175 rfl rfl ?_
  refine g_geti fl_RX4_59 hpr1 (by decide) dX4_copyFrom_176 ?_
  refine g_puti fl_RX4_59 hpr0 (by decide) dX4_copyFrom_179 ?_
  intro s14
  refine g_aload_n dX4_copyFrom_182 rfl rfl ?_
  refine g_aload_n dX4_copyFrom_183 rfl rfl ?_
  refine g_geti fl_RX4_43 hpr1 (by decide) dX4_copyFrom_184 ?_
  refine g_puti fl_RX4_43 hpr0 (by decide) dX4_copyFrom_187 ?_
  intro s15
  refine g_aload_n dX4_copyFrom_190 rfl rfl ?_
  refine g_aload_n dX4_copyFrom_191 rfl rfl ?_
  refine g_geti fl_RX4_47 hpr1 (by decide) dX4_copyFrom_192 ?_
  refine g_puti fl_RX4_47 hpr0 (by decide) dX4_copyFrom_195 ?_
  intro s16
  refine g_aload_n dX4_copyFrom_198 rfl rfl ?_
  refine g_aload_n dX4_copyFrom_199 rfl rfl ?_
  refine g_geti fl_RX4_62 hpr1 (by decide) dX4_copyFrom_200 ?_
  refine g_puti fl_RX4_62 hpr0 (by decide) dX4_copyFrom_203 ?_
  intro s17
  refine g_aload_n dX4_copyFrom_206 rfl rfl ?_
  refine g_aload_n dX4_copyFrom_207 rfl rfl ?_
  refine g_geti fl_RX4_65 hpr1 (by decide) dX4_copyFrom_208 ?_
  refine g_puti fl_RX4_65 hpr0 (by decide) dX4_copyFrom_211 ?_
  intro s18
  refine g_aload_n dX4_copyFrom_214 rfl rfl ?_
  refine g_aload_n dX4_copyFrom_215 rfl rfl ?_
  refine g_geti fl_RX4_68 hpr1 (by decide) dX4_copyFrom_216 ?_
  refine g_puti fl_RX4_68 hpr0 (by decide) dX4_copyFrom_219 ?_
  intro s19
  refine g_aload_n dX4_copyFrom_222 rfl rfl ?_
  refine g_aload_n dX4_copyFrom_223 rfl rfl ?_
  refine g_geti fl_RX4_71 hpr1 (by decide) dX4_copyFrom_224 ?_
  refine g_puti fl_RX4_71 hpr0 (by decide) dX4_copyFrom_227 ?_
  intro s20
  exact g_vret dX4_copyFrom_230
end WK
