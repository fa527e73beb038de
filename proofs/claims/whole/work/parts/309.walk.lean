section WK
variable {l : Launch}
theorem dX12_trade_0 : decode cX12_trade 0 = .ok (.aload_n 0, 1) := by decide +kernel
theorem dX12_trade_1 : decode cX12_trade 1 = .ok (.iconst 0, 1) := by decide +kernel
theorem dX12_trade_2 : decode cX12_trade 2 = .ok (.putfield 67, 3) := by decide +kernel
theorem dX12_trade_5 : decode cX12_trade 5 = .ok (.aload_n 0, 1) := by decide +kernel
theorem dX12_trade_6 : decode cX12_trade 6 = .ok (.iconst 0, 1) := by decide +kernel
theorem dX12_trade_7 : decode cX12_trade 7 = .ok (.putfield 70, 3) := by decide +kernel
theorem dX12_trade_10 : decode cX12_trade 10 = .ok (.aload_n 0, 1) := by decide +kernel
theorem dX12_trade_11 : decode cX12_trade 11 = .ok (.iload_n 1, 1) := by decide +kernel
theorem dX12_trade_12 : decode cX12_trade 12 = .ok (.invokevirtual 345, 3) := by decide +kernel
theorem dX12_trade_15 : decode cX12_trade 15 = .ok (.ifCond .ne 9, 3) := by decide +kernel
theorem dX12_trade_18 : decode cX12_trade 18 = .ok (.aload_n 0, 1) := by decide +kernel
theorem dX12_trade_19 : decode cX12_trade 19 = .ok (.iconst 2, 1) := by decide +kernel
theorem dX12_trade_20 : decode cX12_trade 20 = .ok (.invokevirtual 82, 3) := by decide +kernel
theorem dX12_trade_23 : decode cX12_trade 23 = .ok (.ireturn, 1) := by decide +kernel
theorem dX12_trade_24 : decode cX12_trade 24 = .ok (.aload_n 0, 1) := by decide +kernel
theorem dX12_trade_25 : decode cX12_trade 25 = .ok (.getfield 35, 3) := by decide +kernel
theorem dX12_trade_28 : decode cX12_trade 28 = .ok (.bipush 31, 2) := by decide +kernel
theorem dX12_trade_30 : decode cX12_trade 30 = .ok (.iload_n 1, 1) := by decide +kernel
theorem dX12_trade_31 : decode cX12_trade 31 = .ok (.iadd, 1) := by decide +kernel
theorem dX12_trade_32 : decode cX12_trade 32 = .ok (.iaload, 1) := by decide +kernel
theorem dX12_trade_33 : decode cX12_trade 33 = .ok (.iconst 1, 1) := by decide +kernel
theorem dX12_trade_34 : decode cX12_trade 34 = .ok (.if_icmp .ne 7, 3) := by decide +kernel
theorem dX12_trade_37 : decode cX12_trade 37 = .ok (.iconst 1, 1) := by decide +kernel
theorem dX12_trade_38 : decode cX12_trade 38 = .ok (.goto 4, 3) := by decide +kernel
theorem dX12_trade_41 : decode cX12_trade 41 = .ok (.iconst 0, 1) := by decide +kernel
theorem dX12_trade_42 : decode cX12_trade 42 = .ok (.iload_n 2, 1) := by decide +kernel
theorem dX12_trade_43 : decode cX12_trade 43 = .ok (.if_icmp .ne 10, 3) := by decide +kernel
theorem dX12_trade_46 : decode cX12_trade 46 = .ok (.aload_n 0, 1) := by decide +kernel
theorem dX12_trade_47 : decode cX12_trade 47 = .ok (.bipush 9, 2) := by decide +kernel
theorem dX12_trade_49 : decode cX12_trade 49 = .ok (.invokevirtual 82, 3) := by decide +kernel
theorem dX12_trade_52 : decode cX12_trade 52 = .ok (.ireturn, 1) := by decide +kernel
theorem dX12_trade_53 : decode cX12_trade 53 = .ok (.aload_n 0, 1) := by decide +kernel
theorem dX12_trade_54 : decode cX12_trade 54 = .ok (.getfield 35, 3) := by decide +kernel
theorem dX12_trade_57 : decode cX12_trade 57 = .ok (.bipush 31, 2) := by decide +kernel
theorem dX12_trade_59 : decode cX12_trade 59 = .ok (.iload_n 1, 1) := by decide +kernel
theorem dX12_trade_60 : decode cX12_trade 60 = .ok (.iadd, 1) := by decide +kernel
theorem dX12_trade_61 : decode cX12_trade 61 = .ok (.iload_n 2, 1) := by decide +kernel
theorem dX12_trade_62 : decode cX12_trade 62 = .ok (.ifCond .eq 7, 3) := by decide +kernel
theorem dX12_trade_65 : decode cX12_trade 65 = .ok (.iconst 1, 1) := by decide +kernel
theorem dX12_trade_66 : decode cX12_trade 66 = .ok (.goto 4, 3) := by decide +kernel
theorem dX12_trade_69 : decode cX12_trade 69 = .ok (.iconst 0, 1) := by decide +kernel
theorem dX12_trade_70 : decode cX12_trade 70 = .ok (.iastore, 1) := by decide +kernel
theorem dX12_trade_71 : decode cX12_trade 71 = .ok (.iconst 1, 1) := by decide +kernel
theorem dX12_trade_72 : decode cX12_trade 72 = .ok (.ireturn, 1) := by decide +kernel
theorem mw_X12_trade : MW yX12_trade cX12_trade 3 3 2 false := ⟨tm 2122 (by decide +kernel) rfl, tm 249 (by decide +kernel) rfl, by decide, by decide, (by rw [if_neg (by decide)]; exact ⟨tm 2120 (by decide +kernel) rfl, tm 2121 (by decide +kernel) rfl⟩)⟩
def M_trade_J42 (a1 : Int) (a2 : Int) (t0 : Int) (σ : Sg) : Rs := (if t0 = a2 then (bd (M_no 9 σ) (fun r8 s9 => (zb r8 (some (r8, s9))))) else (if a2 = 0 then (wr 2235 (w32 (31 + a1)) (up_s σ 5 (Int.toNat (w32 (31 + a1))) 0) (fun s10 => (some (1, s10)))) else (wr 2235 (w32 (31 + a1)) (up_s σ 5 (Int.toNat (w32 (31 + a1))) 1) (fun s11 => (some (1, s11))))))
theorem ok_M_trade_J42 (a1 : Int) (a2 : Int) : ∀ (t0 : Int) (σ : Sg), G l Km Pm RX12 cX12_trade 3 3 3 42 [some (.inr (.inr 0)), some (.inl a1), some (.inl a2)] [.inl t0] σ (M_trade_J42 a1 a2 t0 σ) := by
  intro t0 σ
  unfold M_trade_J42
  refine g_iload_n dX12_trade_42 rfl rfl ?_
  refine g_icmpne (tgt := 53) dX12_trade_43 (by decide) ?_ ?_
  · refine g_aload_n dX12_trade_46 rfl rfl ?_
    refine g_bipush dX12_trade_47 (by decide) ?_
    refine g_callv3 (st := []) 10 mw_X12_no lk_RX12_82 rfl km_0 (ok_M_no 9 σ) (Nat.le_of_ble_eq_true rfl) rfl rfl (Nat.le_of_ble_eq_true rfl) dX12_trade_49 ?_
    intro r8 s9
    exact g_zret dX12_trade_52
  · refine g_aload_n dX12_trade_53 rfl rfl ?_
    refine g_getr' (q := 5) fl_RX12_35 km_0 (by decide) rfl dX12_trade_54 ?_
    refine g_bipush dX12_trade_57 (by decide) ?_
    refine g_iload_n dX12_trade_59 rfl rfl ?_
    refine g_iadd dX12_trade_60 ?_
    refine g_iload_n dX12_trade_61 rfl rfl ?_
    refine g_ifeq (tgt := 69) dX12_trade_62 (by decide) ?_ ?_
    · refine g_iconst dX12_trade_69 (by decide) ?_
      refine g_iast km_5 dX12_trade_70 ?_
      intro s10
      refine g_iconst dX12_trade_71 (by decide) ?_
      exact g_zret1 dX12_trade_72
    · refine g_iconst dX12_trade_65 (by decide) ?_
      refine g_goto (tgt := 70) dX12_trade_66 (by decide) ?_
      refine g_iast km_5 dX12_trade_70 ?_
      intro s11
      refine g_iconst dX12_trade_71 (by decide) ?_
      exact g_zret1 dX12_trade_72
def M_trade (a1 : Int) (a2 : Int) (σ : Sg) : Rs := (nm (up_s σ 0 1 0) (fun s1 => (nm (up_s s1 0 0 0) (fun s2 => (bd (M_isPersonAt a1 s2) (fun r3 s4 => (if r3 = 0 then (bd (M_no 2 s4) (fun r5 s6 => (zb r5 (some (r5, s6))))) else (rd 2235 (w32 (31 + a1)) (s4 5 (Int.toNat (w32 (31 + a1)))) (fun x7 => (if x7 = 1 then (M_trade_J42 a1 a2 1 s4) else (M_trade_J42 a1 a2 0 s4)))))))))))
theorem ok_M_trade (a1 : Int) (a2 : Int) (σ : Sg) : MC l Km Pm yX12_trade cX12_trade 3 3 3 [.inr (.inr 0), .inl a1, .inl a2] σ (M_trade a1 a2 σ) := by
  refine mc_of (by decide) (Nat.le_of_ble_eq_true rfl) ?_
  change G l Km Pm RX12 cX12_trade 3 3 3 0 [some (.inr (.inr 0)), some (.inl a1), some (.inl a2)] [] σ (M_trade a1 a2 σ)
  unfold M_trade
  refine g_aload_n dX12_trade_0 rfl rfl ?_
  refine g_iconst dX12_trade_1 (by decide) ?_
  refine g_puti fl_RX12_67 km_0 (by decide) dX12_trade_2 ?_
  intro s1
  refine g_aload_n dX12_trade_5 rfl rfl ?_
  refine g_iconst dX12_trade_6 (by decide) ?_
  refine g_puti fl_RX12_70 km_0 (by decide) dX12_trade_7 ?_
  intro s2
  refine g_aload_n dX12_trade_10 rfl rfl ?_
  refine g_iload_n dX12_trade_11 rfl rfl ?_
  refine g_callv3 (st := []) 10 mw_X12_isPersonAt lk_RX12_345 rfl km_0 (ok_M_isPersonAt a1 s2) (Nat.le_of_ble_eq_true rfl) rfl rfl (Nat.le_of_ble_eq_true rfl) dX12_trade_12 ?_
  intro r3 s4
  refine g_ifne (tgt := 24) dX12_trade_15 (by decide) ?_ ?_
  · refine g_aload_n dX12_trade_18 rfl rfl ?_
    refine g_iconst dX12_trade_19 (by decide) ?_
    refine g_callv3 (st := []) 10 mw_X12_no lk_RX12_82 rfl km_0 (ok_M_no 2 s4) (Nat.le_of_ble_eq_true rfl) rfl rfl (Nat.le_of_ble_eq_true rfl) dX12_trade_20 ?_
    intro r5 s6
    exact g_zret dX12_trade_23
  · refine g_aload_n dX12_trade_24 rfl rfl ?_
    refine g_getr' (q := 5) fl_RX12_35 km_0 (by decide) rfl dX12_trade_25 ?_
    refine g_bipush dX12_trade_28 (by decide) ?_
    refine g_iload_n dX12_trade_30 rfl rfl ?_
    refine g_iadd dX12_trade_31 ?_
    refine g_iald km_5 dX12_trade_32 ?_
    intro x7
    refine g_iconst dX12_trade_33 (by decide) ?_
    refine g_icmpne (tgt := 41) dX12_trade_34 (by decide) ?_ ?_
    · refine g_iconst dX12_trade_37 (by decide) ?_
      refine g_goto (tgt := 42) dX12_trade_38 (by decide) ?_
      refine (ok_M_trade_J42 a1 a2 1 s4)
    · refine g_iconst dX12_trade_41 (by decide) ?_
      refine (ok_M_trade_J42 a1 a2 0 s4)
theorem dX12_train_0 : decode cX12_train 0 = .ok (.aload_n 0, 1) := by decide +kernel
theorem dX12_train_1 : decode cX12_train 1 = .ok (.iconst 0, 1) := by decide +kernel
theorem dX12_train_2 : decode cX12_train 2 = .ok (.putfield 67, 3) := by decide +kernel
theorem dX12_train_5 : decode cX12_train 5 = .ok (.aload_n 0, 1) := by decide +kernel
theorem dX12_train_6 : decode cX12_train 6 = .ok (.iconst 0, 1) := by decide +kernel
theorem dX12_train_7 : decode cX12_train 7 = .ok (.putfield 70, 3) := by decide +kernel
theorem dX12_train_10 : decode cX12_train 10 = .ok (.aload_n 0, 1) := by decide +kernel
theorem dX12_train_11 : decode cX12_train 11 = .ok (.iload_n 1, 1) := by decide +kernel
theorem dX12_train_12 : decode cX12_train 12 = .ok (.invokevirtual 345, 3) := by decide +kernel
theorem dX12_train_15 : decode cX12_train 15 = .ok (.ifCond .ne 9, 3) := by decide +kernel
theorem dX12_train_18 : decode cX12_train 18 = .ok (.aload_n 0, 1) := by decide +kernel
theorem dX12_train_19 : decode cX12_train 19 = .ok (.iconst 2, 1) := by decide +kernel
theorem dX12_train_20 : decode cX12_train 20 = .ok (.invokevirtual 82, 3) := by decide +kernel
theorem dX12_train_23 : decode cX12_train 23 = .ok (.ireturn, 1) := by decide +kernel
theorem dX12_train_24 : decode cX12_train 24 = .ok (.iload_n 2, 1) := by decide +kernel
theorem dX12_train_25 : decode cX12_train 25 = .ok (.i2l, 1) := by decide +kernel
theorem dX12_train_26 : decode cX12_train 26 = .ok (.lconst 0, 1) := by decide +kernel
theorem dX12_train_27 : decode cX12_train 27 = .ok (.ldc2_w 396, 3) := by decide +kernel
theorem dX12_train_30 : decode cX12_train 30 = .ok (.invokestatic 102, 3) := by decide +kernel
theorem dX12_train_33 : decode cX12_train 33 = .ok (.ifCond .ne 9, 3) := by decide +kernel
theorem dX12_train_36 : decode cX12_train 36 = .ok (.aload_n 0, 1) := by decide +kernel
theorem dX12_train_37 : decode cX12_train 37 = .ok (.iconst 5, 1) := by decide +kernel
theorem dX12_train_38 : decode cX12_train 38 = .ok (.invokevirtual 82, 3) := by decide +kernel
theorem dX12_train_41 : decode cX12_train 41 = .ok (.ireturn, 1) := by decide +kernel
theorem dX12_train_42 : decode cX12_train 42 = .ok (.aload_n 0, 1) := by decide +kernel
theorem dX12_train_43 : decode cX12_train 43 = .ok (.getfield 35, 3) := by decide +kernel
theorem dX12_train_46 : decode cX12_train 46 = .ok (.bipush 25, 2) := by decide +kernel
theorem dX12_train_48 : decode cX12_train 48 = .ok (.iload_n 1, 1) := by decide +kernel
theorem dX12_train_49 : decode cX12_train 49 = .ok (.iadd, 1) := by decide +kernel
theorem dX12_train_50 : decode cX12_train 50 = .ok (.iload_n 2, 1) := by decide +kernel
theorem dX12_train_51 : decode cX12_train 51 = .ok (.iastore, 1) := by decide +kernel
theorem dX12_train_52 : decode cX12_train 52 = .ok (.iconst 1, 1) := by decide +kernel
theorem dX12_train_53 : decode cX12_train 53 = .ok (.ireturn, 1) := by decide +kernel
theorem mw_X12_train : MW yX12_train cX12_train 3 3 2 false := ⟨tm 2117 (by decide +kernel) rfl, tm 249 (by decide +kernel) rfl, by decide, by decide, (by rw [if_neg (by decide)]; exact ⟨tm 2115 (by decide +kernel) rfl, tm 2116 (by decide +kernel) rfl⟩)⟩
def M_train (a1 : Int) (a2 : Int) (σ : Sg) : Rs := (nm (up_s σ 0 1 0) (fun s1 => (nm (up_s s1 0 0 0) (fun s2 => (bd (M_isPersonAt a1 s2) (fun r3 s4 => (if r3 = 0 then (bd (M_no 2 s4) (fun r5 s6 => (zb r5 (some (r5, s6))))) else (bd (M_isIn a2 0 999 s4) (fun r7 s8 => (if r7 = 0 then (bd (M_no 5 s8) (fun r9 s10 => (zb r9 (some (r9, s10))))) else (wr 2235 (w32 (25 + a1)) (up_s s8 5 (Int.toNat (w32 (25 + a1))) a2) (fun s11 => (some (1, s11))))))))))))))
theorem ok_M_train (a1 : Int) (a2 : Int) (σ : Sg) : MC l Km Pm yX12_train cX12_train 3 3 3 [.inr (.inr 0), .inl a1, .inl a2] σ (M_train a1 a2 σ) := by
  refine mc_of (by decide) (Nat.le_of_ble_eq_true rfl) ?_
  change G l Km Pm RX12 cX12_train 3 3 3 0 [some (.inr (.inr 0)), some (.inl a1), some (.inl a2)] [] σ (M_train a1 a2 σ)
  unfold M_train
  refine g_aload_n dX12_train_0 rfl rfl ?_
  refine g_iconst dX12_train_1 (by decide) ?_
  refine g_puti fl_RX12_67 km_0 (by decide) dX12_train_2 ?_
  intro s1
  refine g_aload_n dX12_train_5 rfl rfl ?_
  refine g_iconst dX12_train_6 (by decide) ?_
  refine g_puti fl_RX12_70 km_0 (by decide) dX12_train_7 ?_
  intro s2
  refine g_aload_n dX12_train_10 rfl rfl ?_
  refine g_iload_n dX12_train_11 rfl rfl ?_
  refine g_callv3 (st := []) 10 mw_X12_isPersonAt lk_RX12_345 rfl km_0 (ok_M_isPersonAt a1 s2) (Nat.le_of_ble_eq_true rfl) rfl rfl (Nat.le_of_ble_eq_true rfl) dX12_train_12 ?_
  intro r3 s4
  refine g_ifne (tgt := 24) dX12_train_15 (by decide) ?_ ?_
  · refine g_aload_n dX12_train_18 rfl rfl ?_
    refine g_iconst dX12_train_19 (by decide) ?_
    refine g_callv3 (st := []) 10 mw_X12_no lk_RX12_82 rfl km_0 (ok_M_no 2 s4) (Nat.le_of_ble_eq_true rfl) rfl rfl (Nat.le_of_ble_eq_true rfl) dX12_train_20 ?_
    intro r5 s6
    exact g_zret dX12_train_23
  · refine g_iload_n dX12_train_24 rfl rfl ?_
    refine g_i2l dX12_train_25 ?_
    refine g_lconst (v := 0) dX12_train_26 (by decide) ?_
    refine g_ldc2 (n := 999) (tm 2118 (by decide +kernel) rfl) (by decide) dX12_train_27 ?_
    refine g_calls3 (st := []) mw_X12_isIn lk_RX12_102 (ok_M_isIn a2 0 999 s4) (Nat.le_of_ble_eq_true rfl) rfl rfl (Nat.le_of_ble_eq_true rfl) dX12_train_30 ?_
    intro r7 s8
    refine g_ifne (tgt := 42) dX12_train_33 (by decide) ?_ ?_
    · refine g_aload_n dX12_train_36 rfl rfl ?_
      refine g_iconst dX12_train_37 (by decide) ?_
      refine g_callv3 (st := []) 10 mw_X12_no lk_RX12_82 rfl km_0 (ok_M_no 5 s8) (Nat.le_of_ble_eq_true rfl) rfl rfl (Nat.le_of_ble_eq_true rfl) dX12_train_38 ?_
      intro r9 s10
      exact g_zret dX12_train_41
    · refine g_aload_n dX12_train_42 rfl rfl ?_
      refine g_getr' (q := 5) fl_RX12_35 km_0 (by decide) rfl dX12_train_43 ?_
      refine g_bipush dX12_train_46 (by decide) ?_
      refine g_iload_n dX12_train_48 rfl rfl ?_
      refine g_iadd dX12_train_49 ?_
      refine g_iload_n dX12_train_50 rfl rfl ?_
      refine g_iast km_5 dX12_train_51 ?_
      intro s11
      refine g_iconst dX12_train_52 (by decide) ?_
      exact g_zret1 dX12_train_53
theorem dX12_tray_0 : decode cX12_tray 0 = .ok (.aload_n 0, 1) := by decide +kernel
theorem dX12_tray_1 : decode cX12_tray 1 = .ok (.iconst 0, 1) := by decide +kernel
theorem dX12_tray_2 : decode cX12_tray 2 = .ok (.putfield 67, 3) := by decide +kernel
theorem dX12_tray_5 : decode cX12_tray 5 = .ok (.aload_n 0, 1) := by decide +kernel
theorem dX12_tray_6 : decode cX12_tray 6 = .ok (.iconst 0, 1) := by decide +kernel
theorem dX12_tray_7 : decode cX12_tray 7 = .ok (.putfield 70, 3) := by decide +kernel
theorem dX12_tray_10 : decode cX12_tray 10 = .ok (.iload_n 1, 1) := by decide +kernel
theorem dX12_tray_11 : decode cX12_tray 11 = .ok (.ifCond .lt 17, 3) := by decide +kernel
theorem dX12_tray_14 : decode cX12_tray 14 = .ok (.iload_n 1, 1) := by decide +kernel
theorem dX12_tray_15 : decode cX12_tray 15 = .ok (.iconst 4, 1) := by decide +kernel
theorem dX12_tray_16 : decode cX12_tray 16 = .ok (.if_icmp .ge 12, 3) := by decide +kernel
theorem dX12_tray_19 : decode cX12_tray 19 = .ok (.iload_n 2, 1) := by decide +kernel
theorem dX12_tray_20 : decode cX12_tray 20 = .ok (.ifCond .lt 8, 3) := by decide +kernel
theorem dX12_tray_23 : decode cX12_tray 23 = .ok (.iload_n 2, 1) := by decide +kernel
theorem dX12_tray_24 : decode cX12_tray 24 = .ok (.iconst 3, 1) := by decide +kernel
theorem dX12_tray_25 : decode cX12_tray 25 = .ok (.if_icmp .le 9, 3) := by decide +kernel
theorem dX12_tray_28 : decode cX12_tray 28 = .ok (.aload_n 0, 1) := by decide +kernel
theorem dX12_tray_29 : decode cX12_tray 29 = .ok (.iconst 1, 1) := by decide +kernel
theorem dX12_tray_30 : decode cX12_tray 30 = .ok (.invokevirtual 82, 3) := by decide +kernel
theorem dX12_tray_33 : decode cX12_tray 33 = .ok (.ireturn, 1) := by decide +kernel
theorem dX12_tray_34 : decode cX12_tray 34 = .ok (.iload_n 3, 1) := by decide +kernel
theorem dX12_tray_35 : decode cX12_tray 35 = .ok (.bipush 60, 2) := by decide +kernel
theorem dX12_tray_37 : decode cX12_tray 37 = .ok (.if_icmp .le 9, 3) := by decide +kernel
theorem dX12_tray_40 : decode cX12_tray 40 = .ok (.aload_n 0, 1) := by decide +kernel
theorem dX12_tray_41 : decode cX12_tray 41 = .ok (.iconst 5, 1) := by decide +kernel
theorem dX12_tray_42 : decode cX12_tray 42 = .ok (.invokevirtual 82, 3) := by decide +kernel
theorem dX12_tray_45 : decode cX12_tray 45 = .ok (.ireturn, 1) := by decide +kernel
theorem dX12_tray_46 : decode cX12_tray 46 = .ok (.iload_n 3, 1) := by decide +kernel
theorem dX12_tray_47 : decode cX12_tray 47 = .ok (.ifCond .ge 10, 3) := by decide +kernel
theorem dX12_tray_50 : decode cX12_tray 50 = .ok (.aload_n 0, 1) := by decide +kernel
theorem dX12_tray_51 : decode cX12_tray 51 = .ok (.bipush 6, 2) := by decide +kernel
theorem dX12_tray_53 : decode cX12_tray 53 = .ok (.invokevirtual 82, 3) := by decide +kernel
theorem dX12_tray_56 : decode cX12_tray 56 = .ok (.ireturn, 1) := by decide +kernel
theorem dX12_tray_57 : decode cX12_tray 57 = .ok (.aload_n 0, 1) := by decide +kernel
theorem dX12_tray_58 : decode cX12_tray 58 = .ok (.getfield 13, 3) := by decide +kernel
theorem dX12_tray_61 : decode cX12_tray 61 = .ok (.iload_n 1, 1) := by decide +kernel
theorem dX12_tray_62 : decode cX12_tray 62 = .ok (.iload_n 2, 1) := by decide +kernel
theorem dX12_tray_63 : decode cX12_tray 63 = .ok (.iastore, 1) := by decide +kernel
theorem dX12_tray_64 : decode cX12_tray 64 = .ok (.aload_n 0, 1) := by decide +kernel
theorem dX12_tray_65 : decode cX12_tray 65 = .ok (.getfield 17, 3) := by decide +kernel
theorem dX12_tray_68 : decode cX12_tray 68 = .ok (.iload_n 1, 1) := by decide +kernel
theorem dX12_tray_69 : decode cX12_tray 69 = .ok (.iload_n 3, 1) := by decide +kernel
theorem dX12_tray_70 : decode cX12_tray 70 = .ok (.iastore, 1) := by decide +kernel
theorem dX12_tray_71 : decode cX12_tray 71 = .ok (.iconst 0, 1) := by decide +kernel
theorem dX12_tray_72 : decode cX12_tray 72 = .ok (.istore 4, 2) := by decide +kernel
theorem dX12_tray_74 : decode cX12_tray 74 = .ok (.iload 4, 2) := by decide +kernel
theorem dX12_tray_76 : decode cX12_tray 76 = .ok (.iload_n 3, 1) := by decide +kernel
theorem dX12_tray_77 : decode cX12_tray 77 = .ok (.if_icmp .ge 22, 3) := by decide +kernel
theorem dX12_tray_80 : decode cX12_tray 80 = .ok (.aload_n 0, 1) := by decide +kernel
theorem dX12_tray_81 : decode cX12_tray 81 = .ok (.getfield 20, 3) := by decide +kernel
theorem dX12_tray_84 : decode cX12_tray 84 = .ok (.bipush 60, 2) := by decide +kernel
theorem dX12_tray_86 : decode cX12_tray 86 = .ok (.iload_n 1, 1) := by decide +kernel
theorem dX12_tray_87 : decode cX12_tray 87 = .ok (.imul, 1) := by decide +kernel
theorem dX12_tray_88 : decode cX12_tray 88 = .ok (.iload 4, 2) := by decide +kernel
theorem dX12_tray_90 : decode cX12_tray 90 = .ok (.iadd, 1) := by decide +kernel
theorem dX12_tray_91 : decode cX12_tray 91 = .ok (.lconst 0, 1) := by decide +kernel
theorem dX12_tray_92 : decode cX12_tray 92 = .ok (.lastore, 1) := by decide +kernel
theorem dX12_tray_93 : decode cX12_tray 93 = .ok (.iinc 4 1, 3) := by decide +kernel
theorem dX12_tray_96 : decode cX12_tray 96 = .ok (.goto (-22), 3) := by decide +kernel
theorem dX12_tray_99 : decode cX12_tray 99 = .ok (.iconst 1, 1) := by decide +kernel
theorem dX12_tray_100 : decode cX12_tray 100 = .ok (.ireturn, 1) := by decide +kernel
theorem mw_X12_tray : MW yX12_tray cX12_tray 5 3 3 false := ⟨tm 1717 (by decide +kernel) rfl, tm 249 (by decide +kernel) rfl, by decide, by decide, (by rw [if_neg (by decide)]; exact ⟨tm 1715 (by decide +kernel) rfl, tm 1716 (by decide +kernel) rfl⟩)⟩
def M_tray_L74 (a1 : Int) (a3 : Int) : Nat → Int → Sg → Rs
  | 0, _, _ => none
  | n + 1, v4, σ => (if v4 < a3 then (wr 240 (w32 ((w32 (60 * a1)) + v4)) (up_s σ 3 (Int.toNat (w32 ((w32 (60 * a1)) + v4))) 0) (fun s15 => (nm (w32 (v4 + 1)) (fun x16 => (M_tray_L74 a1 a3 n x16 s15))))) else (some (1, σ)))
theorem ok_M_tray_L74 (a1 : Int) (a3 : Int) : ∀ (n : Nat) (v4 : Int) (σ : Sg), G l Km Pm RX12 cX12_tray 5 3 2 74 [some (.inr (.inr 0)), some (.inl a1), none, some (.inl a3), some (.inl v4)] [] σ (M_tray_L74 a1 a3 n v4 σ) := by
  intro n
  induction n with
  | zero => intros; exact G.none_
  | succ n ih =>
    intro v4 σ
    rw [M_tray_L74]
    refine g_iload dX12_tray_74 rfl ?_
    refine g_iload_n dX12_tray_76 rfl rfl ?_
    refine g_icmpge (tgt := 99) dX12_tray_77 (by decide) ?_ ?_
    · refine g_aload_n dX12_tray_80 rfl rfl ?_
      refine g_getr' (q := 3) fl_RX12_20 km_0 (by decide) rfl dX12_tray_81 ?_
      refine g_bipush dX12_tray_84 (by decide) ?_
      refine g_iload_n dX12_tray_86 rfl rfl ?_
      refine g_imul dX12_tray_87 ?_
      refine g_iload dX12_tray_88 rfl ?_
      refine g_iadd dX12_tray_90 ?_
      refine g_lconst (v := 0) dX12_tray_91 (by decide) ?_
      refine g_last km_3 dX12_tray_92 ?_
      intro s15
      refine n_iinc (fun x16 => [some (.inr (.inr 0)), some (.inl a1), none, some (.inl a3), some (.inl x16)]) dX12_tray_93 rfl (Nat.le_of_ble_eq_true rfl) (fun _ => rfl) ?_
      intro x16
      refine g_goto (tgt := 74) dX12_tray_96 (by decide) ?_
      exact (ih x16 s15)
    · refine g_iconst dX12_tray_99 (by decide) ?_
      exact g_zret1 dX12_tray_100
def M_tray (a1 : Int) (a2 : Int) (a3 : Int) (σ : Sg) : Rs := (nm (up_s σ 0 1 0) (fun s1 => (nm (up_s s1 0 0 0) (fun s2 => (if a1 < 0 then (bd (M_no 1 s2) (fun r3 s4 => (zb r3 (some (r3, s4))))) else (if a1 < 4 then (if a2 < 0 then (bd (M_no 1 s2) (fun r5 s6 => (zb r5 (some (r5, s6))))) else (if 3 < a2 then (bd (M_no 1 s2) (fun r7 s8 => (zb r7 (some (r7, s8))))) else (if 60 < a3 then (bd (M_no 5 s2) (fun r9 s10 => (zb r9 (some (r9, s10))))) else (if a3 < 0 then (bd (M_no 6 s2) (fun r11 s12 => (zb r11 (some (r11, s12))))) else (wr 4 a1 (up_s s2 1 (Int.toNat a1) a2) (fun s13 => (wr 4 a1 (up_s s13 2 (Int.toNat a1) a3) (fun s14 => (M_tray_L74 a1 a3 fu 0 s14))))))))) else (bd (M_no 1 s2) (fun r17 s18 => (zb r17 (some (r17, s18)))))))))))
theorem ok_M_tray (a1 : Int) (a2 : Int) (a3 : Int) (σ : Sg) : MC l Km Pm yX12_tray cX12_tray 5 3 2 [.inr (.inr 0), .inl a1, .inl a2, .inl a3] σ (M_tray a1 a2 a3 σ) := by
  refine mc_of (by decide) (Nat.le_of_ble_eq_true rfl) ?_
  change G l Km Pm RX12 cX12_tray 5 3 2 0 [some (.inr (.inr 0)), some (.inl a1), some (.inl a2), some (.inl a3), none] [] σ (M_tray a1 a2 a3 σ)
  unfold M_tray
  refine g_aload_n dX12_tray_0 rfl rfl ?_
  refine g_iconst dX12_tray_1 (by decide) ?_
  refine g_puti fl_RX12_67 km_0 (by decide) dX12_tray_2 ?_
  intro s1
  refine g_aload_n dX12_tray_5 rfl rfl ?_
  refine g_iconst dX12_tray_6 (by decide) ?_
  refine g_puti fl_RX12_70 km_0 (by decide) dX12_tray_7 ?_
  intro s2
  refine g_iload_n dX12_tray_10 rfl rfl ?_
  refine g_iflt (tgt := 28) dX12_tray_11 (by decide) ?_ ?_
  · refine g_aload_n dX12_tray_28 rfl rfl ?_
    refine g_iconst dX12_tray_29 (by decide) ?_
    refine g_callv3 (st := []) 10 mw_X12_no lk_RX12_82 rfl km_0 (ok_M_no 1 s2) (Nat.le_of_ble_eq_true rfl) rfl rfl (Nat.le_of_ble_eq_true rfl) dX12_tray_30 ?_
    intro r3 s4
    exact g_zret dX12_tray_33
  · refine g_iload_n dX12_tray_14 rfl rfl ?_
    refine g_iconst dX12_tray_15 (by decide) ?_
    refine g_icmpge (tgt := 28) dX12_tray_16 (by decide) ?_ ?_
    · refine g_iload_n dX12_tray_19 rfl rfl ?_
      refine g_iflt (tgt := 28) dX12_tray_20 (by decide) ?_ ?_
      · refine g_aload_n dX12_tray_28 rfl rfl ?_
        refine g_iconst dX12_tray_29 (by decide) ?_
        refine g_callv3 (st := []) 10 mw_X12_no lk_RX12_82 rfl km_0 (ok_M_no 1 s2) (Nat.le_of_ble_eq_true rfl) rfl rfl (Nat.le_of_ble_eq_true rfl) dX12_tray_30 ?_
        intro r5 s6
        exact g_zret dX12_tray_33
      · refine g_iload_n dX12_tray_23 rfl rfl ?_
        refine g_iconst dX12_tray_24 (by decide) ?_
        refine g_icmple (tgt := 34) dX12_tray_25 (by decide) ?_ ?_
        · refine g_aload_n dX12_tray_28 rfl rfl ?_
          refine g_iconst dX12_tray_29 (by decide) ?_
          refine g_callv3 (st := []) 10 mw_X12_no lk_RX12_82 rfl km_0 (ok_M_no 1 s2) (Nat.le_of_ble_eq_true rfl) rfl rfl (Nat.le_of_ble_eq_true rfl) dX12_tray_30 ?_
          intro r7 s8
          exact g_zret dX12_tray_33
        · refine g_iload_n dX12_tray_34 rfl rfl ?_
          refine g_bipush dX12_tray_35 (by decide) ?_
          refine g_icmple (tgt := 46) dX12_tray_37 (by decide) ?_ ?_
          · refine g_aload_n dX12_tray_40 rfl rfl ?_
            refine g_iconst dX12_tray_41 (by decide) ?_
            refine g_callv3 (st := []) 10 mw_X12_no lk_RX12_82 rfl km_0 (ok_M_no 5 s2) (Nat.le_of_ble_eq_true rfl) rfl rfl (Nat.le_of_ble_eq_true rfl) dX12_tray_42 ?_
            intro r9 s10
            exact g_zret dX12_tray_45
          · refine g_iload_n dX12_tray_46 rfl rfl ?_
            refine g_ifge (tgt := 57) dX12_tray_47 (by decide) ?_ ?_
            · refine g_aload_n dX12_tray_50 rfl rfl ?_
              refine g_bipush dX12_tray_51 (by decide) ?_
              refine g_callv3 (st := []) 10 mw_X12_no lk_RX12_82 rfl km_0 (ok_M_no 6 s2) (Nat.le_of_ble_eq_true rfl) rfl rfl (Nat.le_of_ble_eq_true rfl) dX12_tray_53 ?_
              intro r11 s12
              exact g_zret dX12_tray_56
            · refine g_aload_n dX12_tray_57 rfl rfl ?_
              refine g_getr' (q := 1) fl_RX12_13 km_0 (by decide) rfl dX12_tray_58 ?_
              refine g_iload_n dX12_tray_61 rfl rfl ?_
              refine g_iload_n dX12_tray_62 rfl rfl ?_
              refine g_iast km_1 dX12_tray_63 ?_
              intro s13
              refine g_aload_n dX12_tray_64 rfl rfl ?_
              refine g_getr' (q := 2) fl_RX12_17 km_0 (by decide) rfl dX12_tray_65 ?_
              refine g_iload_n dX12_tray_68 rfl rfl ?_
              refine g_iload_n dX12_tray_69 rfl rfl ?_
              refine g_iast km_2 dX12_tray_70 ?_
              intro s14
              refine g_iconst dX12_tray_71 (by decide) ?_
              refine g_istore (lv' := [some (.inr (.inr 0)), some (.inl a1), some (.inl a2), some (.inl a3), some (.inl 0)]) dX12_tray_72 (Nat.le_of_ble_eq_true rfl) rfl ?_
              refine (g_weak [true, true, false, true, true] (ok_M_tray_L74 a1 a3 fu 0 s14))
    · refine g_aload_n dX12_tray_28 rfl rfl ?_
      refine g_iconst dX12_tray_29 (by decide) ?_
      refine g_callv3 (st := []) 10 mw_X12_no lk_RX12_82 rfl km_0 (ok_M_no 1 s2) (Nat.le_of_ble_eq_true rfl) rfl rfl (Nat.le_of_ble_eq_true rfl) dX12_tray_30 ?_
      intro r17 s18
      exact g_zret dX12_tray_33
theorem dX12_unsaid_0 : decode cX12_unsaid 0 = .ok (.aload_n 0, 1) := by decide +kernel
theorem dX12_unsaid_1 : decode cX12_unsaid 1 = .ok (.iconst 0, 1) := by decide +kernel
theorem dX12_unsaid_2 : decode cX12_unsaid 2 = .ok (.putfield 67, 3) := by decide +kernel
theorem dX12_unsaid_5 : decode cX12_unsaid 5 = .ok (.aload_n 0, 1) := by decide +kernel
theorem dX12_unsaid_6 : decode cX12_unsaid 6 = .ok (.aload_n 0, 1) := by decide +kernel
theorem dX12_unsaid_7 : decode cX12_unsaid 7 = .ok (.iload_n 1, 1) := by decide +kernel
theorem dX12_unsaid_8 : decode cX12_unsaid 8 = .ok (.iload_n 2, 1) := by decide +kernel
theorem dX12_unsaid_9 : decode cX12_unsaid 9 = .ok (.invokevirtual 455, 3) := by decide +kernel
theorem dX12_unsaid_12 : decode cX12_unsaid 12 = .ok (.putfield 70, 3) := by decide +kernel
theorem dX12_unsaid_15 : decode cX12_unsaid 15 = .ok (.aload_n 0, 1) := by decide +kernel
theorem dX12_unsaid_16 : decode cX12_unsaid 16 = .ok (.getfield 70, 3) := by decide +kernel
theorem dX12_unsaid_19 : decode cX12_unsaid 19 = .ok (.ifCond .le 5, 3) := by decide +kernel
theorem dX12_unsaid_22 : decode cX12_unsaid 22 = .ok (.iconst (-1), 1) := by decide +kernel
theorem dX12_unsaid_23 : decode cX12_unsaid 23 = .ok (.ireturn, 1) := by decide +kernel
theorem dX12_unsaid_24 : decode cX12_unsaid 24 = .ok (.aload_n 0, 1) := by decide +kernel
theorem dX12_unsaid_25 : decode cX12_unsaid 25 = .ok (.iload_n 1, 1) := by decide +kernel
theorem dX12_unsaid_26 : decode cX12_unsaid 26 = .ok (.iload_n 2, 1) := by decide +kernel
theorem dX12_unsaid_27 : decode cX12_unsaid 27 = .ok (.invokevirtual 458, 3) := by decide +kernel
theorem dX12_unsaid_30 : decode cX12_unsaid 30 = .ok (.aload_n 0, 1) := by decide +kernel
theorem dX12_unsaid_31 : decode cX12_unsaid 31 = .ok (.getfield 446, 3) := by decide +kernel
theorem dX12_unsaid_34 : decode cX12_unsaid 34 = .ok (.ireturn, 1) := by decide +kernel
theorem mw_X12_unsaid : MW yX12_unsaid cX12_unsaid 3 0 2 false := ⟨tm 2205 (by decide +kernel) rfl, tm 249 (by decide +kernel) rfl, by decide, by decide, (by rw [if_neg (by decide)]; exact ⟨tm 2203 (by decide +kernel) rfl, tm 2204 (by decide +kernel) rfl⟩)⟩
def M_unsaid (a1 : Int) (a2 : Int) (σ : Sg) : Rs := (nm (up_s σ 0 1 0) (fun s1 => (bd (M_whyNotUnsaid a1 a2 s1) (fun r2 s3 => (nm (up_s s3 0 0 r2) (fun s4 => (if 0 < (s4 0 0) then (some ((-1), s4)) else (bd (M_laysUnsaid a1 a2 s4) (fun r5 s6 => (some ((s6 0 27), s6)))))))))))
theorem ok_M_unsaid (a1 : Int) (a2 : Int) (σ : Sg) : MC l Km Pm yX12_unsaid cX12_unsaid 3 0 5 [.inr (.inr 0), .inl a1, .inl a2] σ (M_unsaid a1 a2 σ) := by
  refine mc_of (by decide) (Nat.le_of_ble_eq_true rfl) ?_
  change G l Km Pm RX12 cX12_unsaid 3 0 5 0 [some (.inr (.inr 0)), some (.inl a1), some (.inl a2)] [] σ (M_unsaid a1 a2 σ)
  unfold M_unsaid
  refine g_aload_n dX12_unsaid_0 rfl rfl ?_
  refine g_iconst dX12_unsaid_1 (by decide) ?_
  refine g_puti fl_RX12_67 km_0 (by decide) dX12_unsaid_2 ?_
  intro s1
  refine g_aload_n dX12_unsaid_5 rfl rfl ?_
  refine g_aload_n dX12_unsaid_6 rfl rfl ?_
  refine g_iload_n dX12_unsaid_7 rfl rfl ?_
  refine g_iload_n dX12_unsaid_8 rfl rfl ?_
  refine g_callv0 (st := [.inr (.inr 0)]) 10 mw_X12_whyNotUnsaid lk_RX12_455 rfl km_0 (ok_M_whyNotUnsaid a1 a2 s1) (Nat.le_of_ble_eq_true rfl) rfl rfl (Nat.le_of_ble_eq_true rfl) dX12_unsaid_9 ?_
  intro r2 s3
  refine g_puti fl_RX12_70 km_0 (by decide) dX12_unsaid_12 ?_
  intro s4
  refine g_aload_n dX12_unsaid_15 rfl rfl ?_
  refine g_geti fl_RX12_70 km_0 (by decide) dX12_unsaid_16 ?_
  refine g_ifle (tgt := 24) dX12_unsaid_19 (by decide) ?_ ?_
  · refine g_iconst dX12_unsaid_22 (by decide) ?_
    exact g_iret dX12_unsaid_23
  · refine g_aload_n dX12_unsaid_24 rfl rfl ?_
    refine g_iload_n dX12_unsaid_25 rfl rfl ?_
    refine g_iload_n dX12_unsaid_26 rfl rfl ?_
    refine g_callv2 (st := []) 10 mw_X12_laysUnsaid lk_RX12_458 rfl km_0 (ok_M_laysUnsaid a1 a2 s4) (Nat.le_of_ble_eq_true rfl) rfl rfl (Nat.le_of_ble_eq_true rfl) dX12_unsaid_27 ?_
    intro r5 s6
    refine g_aload_n dX12_unsaid_30 rfl rfl ?_
    refine g_geti fl_RX12_446 km_0 (by decide) dX12_unsaid_31 ?_
    exact g_iret dX12_unsaid_34
theorem dX12_wildIn_0 : decode cX12_wildIn 0 = .ok (.aload_n 0, 1) := by decide +kernel
theorem dX12_wildIn_1 : decode cX12_wildIn 1 = .ok (.iconst 0, 1) := by decide +kernel
theorem dX12_wildIn_2 : decode cX12_wildIn 2 = .ok (.putfield 67, 3) := by decide +kernel
theorem dX12_wildIn_5 : decode cX12_wildIn 5 = .ok (.aload_n 0, 1) := by decide +kernel
theorem dX12_wildIn_6 : decode cX12_wildIn 6 = .ok (.iconst 0, 1) := by decide +kernel
theorem dX12_wildIn_7 : decode cX12_wildIn 7 = .ok (.putfield 70, 3) := by decide +kernel
theorem dX12_wildIn_10 : decode cX12_wildIn 10 = .ok (.aload_n 0, 1) := by decide +kernel
theorem dX12_wildIn_11 : decode cX12_wildIn 11 = .ok (.iload_n 1, 1) := by decide +kernel
theorem dX12_wildIn_12 : decode cX12_wildIn 12 = .ok (.invokevirtual 345, 3) := by decide +kernel
theorem dX12_wildIn_15 : decode cX12_wildIn 15 = .ok (.ifCond .ne 9, 3) := by decide +kernel
theorem dX12_wildIn_18 : decode cX12_wildIn 18 = .ok (.aload_n 0, 1) := by decide +kernel
theorem dX12_wildIn_19 : decode cX12_wildIn 19 = .ok (.iconst 2, 1) := by decide +kernel
theorem dX12_wildIn_20 : decode cX12_wildIn 20 = .ok (.invokevirtual 325, 3) := by decide +kernel
theorem dX12_wildIn_23 : decode cX12_wildIn 23 = .ok (.ireturn, 1) := by decide +kernel
theorem dX12_wildIn_24 : decode cX12_wildIn 24 = .ok (.iconst (-1), 1) := by decide +kernel
theorem dX12_wildIn_25 : decode cX12_wildIn 25 = .ok (.istore_n 2, 1) := by decide +kernel
theorem dX12_wildIn_26 : decode cX12_wildIn 26 = .ok (.aload_n 0, 1) := by decide +kernel
theorem dX12_wildIn_27 : decode cX12_wildIn 27 = .ok (.invokevirtual 406, 3) := by decide +kernel
theorem dX12_wildIn_30 : decode cX12_wildIn 30 = .ok (.iconst 0, 1) := by decide +kernel
theorem dX12_wildIn_31 : decode cX12_wildIn 31 = .ok (.istore_n 3, 1) := by decide +kernel
theorem dX12_wildIn_32 : decode cX12_wildIn 32 = .ok (.iload_n 3, 1) := by decide +kernel
theorem dX12_wildIn_33 : decode cX12_wildIn 33 = .ok (.sipush 200, 3) := by decide +kernel
theorem dX12_wildIn_36 : decode cX12_wildIn 36 = .ok (.if_icmp .gt 37, 3) := by decide +kernel
theorem dX12_wildIn_39 : decode cX12_wildIn 39 = .ok (.iload_n 2, 1) := by decide +kernel
theorem dX12_wildIn_40 : decode cX12_wildIn 40 = .ok (.ifCond .ge 33, 3) := by decide +kernel
theorem dX12_wildIn_43 : decode cX12_wildIn 43 = .ok (.aload_n 0, 1) := by decide +kernel
theorem dX12_wildIn_44 : decode cX12_wildIn 44 = .ok (.iload_n 1, 1) := by decide +kernel
theorem dX12_wildIn_45 : decode cX12_wildIn 45 = .ok (.invokevirtual 320, 3) := by decide +kernel
theorem dX12_wildIn_48 : decode cX12_wildIn 48 = .ok (.aload_n 0, 1) := by decide +kernel
theorem dX12_wildIn_49 : decode cX12_wildIn 49 = .ok (.getfield 35, 3) := by decide +kernel
theorem dX12_wildIn_52 : decode cX12_wildIn 52 = .ok (.bipush 25, 2) := by decide +kernel
theorem dX12_wildIn_54 : decode cX12_wildIn 54 = .ok (.iload_n 1, 1) := by decide +kernel
theorem dX12_wildIn_55 : decode cX12_wildIn 55 = .ok (.iadd, 1) := by decide +kernel
theorem dX12_wildIn_56 : decode cX12_wildIn 56 = .ok (.iaload, 1) := by decide +kernel
theorem dX12_wildIn_57 : decode cX12_wildIn 57 = .ok (.if_icmp .le 5, 3) := by decide +kernel
theorem dX12_wildIn_60 : decode cX12_wildIn 60 = .ok (.iload_n 3, 1) := by decide +kernel
theorem dX12_wildIn_61 : decode cX12_wildIn 61 = .ok (.istore_n 2, 1) := by decide +kernel
theorem dX12_wildIn_62 : decode cX12_wildIn 62 = .ok (.aload_n 0, 1) := by decide +kernel
theorem dX12_wildIn_63 : decode cX12_wildIn 63 = .ok (.invokevirtual 381, 3) := by decide +kernel
theorem dX12_wildIn_66 : decode cX12_wildIn 66 = .ok (.pop, 1) := by decide +kernel
theorem dX12_wildIn_67 : decode cX12_wildIn 67 = .ok (.iinc 3 1, 3) := by decide +kernel
theorem dX12_wildIn_70 : decode cX12_wildIn 70 = .ok (.goto (-38), 3) := by decide +kernel
theorem dX12_wildIn_73 : decode cX12_wildIn 73 = .ok (.aload_n 0, 1) := by decide +kernel
theorem dX12_wildIn_74 : decode cX12_wildIn 74 = .ok (.invokevirtual 415, 3) := by decide +kernel
theorem dX12_wildIn_77 : decode cX12_wildIn 77 = .ok (.iload_n 2, 1) := by decide +kernel
theorem dX12_wildIn_78 : decode cX12_wildIn 78 = .ok (.ifCond .ge 12, 3) := by decide +kernel
theorem dX12_wildIn_81 : decode cX12_wildIn 81 = .ok (.aload_n 0, 1) := by decide +kernel
theorem dX12_wildIn_82 : decode cX12_wildIn 82 = .ok (.bipush 8, 2) := by decide +kernel
theorem dX12_wildIn_84 : decode cX12_wildIn 84 = .ok (.invokevirtual 325, 3) := by decide +kernel
theorem dX12_wildIn_87 : decode cX12_wildIn 87 = .ok (.goto 4, 3) := by decide +kernel
theorem dX12_wildIn_90 : decode cX12_wildIn 90 = .ok (.iload_n 2, 1) := by decide +kernel
theorem dX12_wildIn_91 : decode cX12_wildIn 91 = .ok (.ireturn, 1) := by decide +kernel
theorem mw_X12_wildIn : MW yX12_wildIn cX12_wildIn 4 0 1 false := ⟨tm 2173 (by decide +kernel) rfl, tm 249 (by decide +kernel) rfl, by decide, by decide, (by rw [if_neg (by decide)]; exact ⟨tm 2171 (by decide +kernel) rfl, tm 2172 (by decide +kernel) rfl⟩)⟩
def M_wildIn_L32 (a1 : Int) (k73 : Int → Sg → Rs) : Nat → Int → Int → Sg → Rs
  | 0, _, _, _ => none
  | n + 1, v2, v3, σ => (if 200 < v3 then (k73 v2 σ) else (if v2 < 0 then (bd (M_hairOf a1 σ) (fun r9 s10 => (rd 2235 (w32 (25 + a1)) (s10 5 (Int.toNat (w32 (25 + a1)))) (fun x11 => (if x11 < r9 then (bd (M_goesDay s10) (fun r12 s13 => (nm (w32 (v3 + 1)) (fun x14 => (M_wildIn_L32 a1 k73 n v3 x14 s13))))) else (bd (M_goesDay s10) (fun r15 s16 => (nm (w32 (v3 + 1)) (fun x17 => (M_wildIn_L32 a1 k73 n v2 x17 s16)))))))))) else (k73 v2 σ)))
theorem ok_M_wildIn_L32 (a1 : Int) (k73 : Int → Sg → Rs) (hk73 : ∀ (y2 : Int) (σ : Sg), G l Km Pm RX12 cX12_wildIn 4 0 6 73 [some (.inr (.inr 0)), none, some (.inl y2), none] [] σ (k73 y2 σ)) : ∀ (n : Nat) (v2 v3 : Int) (σ : Sg), G l Km Pm RX12 cX12_wildIn 4 0 6 32 [some (.inr (.inr 0)), some (.inl a1), some (.inl v2), some (.inl v3)] [] σ (M_wildIn_L32 a1 k73 n v2 v3 σ) := by
  intro n
  induction n with
  | zero => intros; exact G.none_
  | succ n ih =>
    intro v2 v3 σ
    rw [M_wildIn_L32]
    refine g_iload_n dX12_wildIn_32 rfl rfl ?_
    refine g_sipush dX12_wildIn_33 (by decide) ?_
    refine g_icmpgt (tgt := 73) dX12_wildIn_36 (by decide) ?_ ?_
    · exact (g_weak [true, false, true, false] (hk73 v2 σ))
    · refine g_iload_n dX12_wildIn_39 rfl rfl ?_
      refine g_ifge (tgt := 73) dX12_wildIn_40 (by decide) ?_ ?_
      · refine g_aload_n dX12_wildIn_43 rfl rfl ?_
        refine g_iload_n dX12_wildIn_44 rfl rfl ?_
        refine g_callv0 (st := []) 10 mw_X12_hairOf lk_RX12_320 rfl km_0 (ok_M_hairOf a1 σ) (Nat.le_of_ble_eq_true rfl) rfl rfl (Nat.le_of_ble_eq_true rfl) dX12_wildIn_45 ?_
        intro r9 s10
        refine g_aload_n dX12_wildIn_48 rfl rfl ?_
        refine g_getr' (q := 5) fl_RX12_35 km_0 (by decide) rfl dX12_wildIn_49 ?_
        refine g_bipush dX12_wildIn_52 (by decide) ?_
        refine g_iload_n dX12_wildIn_54 rfl rfl ?_
        refine g_iadd dX12_wildIn_55 ?_
        refine g_iald km_5 dX12_wildIn_56 ?_
        intro x11
        refine g_icmple (tgt := 62) dX12_wildIn_57 (by decide) ?_ ?_
        · refine g_iload_n dX12_wildIn_60 rfl rfl ?_
          refine g_istore_n (lv' := [some (.inr (.inr 0)), some (.inl a1), some (.inl v3), some (.inl v3)]) dX12_wildIn_61 rfl (Nat.le_of_ble_eq_true rfl) rfl ?_
          refine g_aload_n dX12_wildIn_62 rfl rfl ?_
          refine g_callv0 (st := []) 10 mw_X12_goesDay lk_RX12_381 rfl km_0 (ok_M_goesDay s10) (Nat.le_of_ble_eq_true rfl) rfl rfl (Nat.le_of_ble_eq_true rfl) dX12_wildIn_63 ?_
          intro r12 s13
          refine g_pop dX12_wildIn_66 rfl ?_
          refine n_iinc (fun x14 => [some (.inr (.inr 0)), some (.inl a1), some (.inl v3), some (.inl x14)]) dX12_wildIn_67 rfl (Nat.le_of_ble_eq_true rfl) (fun _ => rfl) ?_
          intro x14
          refine g_goto (tgt := 32) dX12_wildIn_70 (by decide) ?_
          exact (ih v3 x14 s13)
        · refine g_aload_n dX12_wildIn_62 rfl rfl ?_
          refine g_callv0 (st := []) 10 mw_X12_goesDay lk_RX12_381 rfl km_0 (ok_M_goesDay s10) (Nat.le_of_ble_eq_true rfl) rfl rfl (Nat.le_of_ble_eq_true rfl) dX12_wildIn_63 ?_
          intro r15 s16
          refine g_pop dX12_wildIn_66 rfl ?_
          refine n_iinc (fun x17 => [some (.inr (.inr 0)), some (.inl a1), some (.inl v2), some (.inl x17)]) dX12_wildIn_67 rfl (Nat.le_of_ble_eq_true rfl) (fun _ => rfl) ?_
          intro x17
          refine g_goto (tgt := 32) dX12_wildIn_70 (by decide) ?_
          exact (ih v2 x17 s16)
      · exact (g_weak [true, false, true, false] (hk73 v2 σ))
def M_wildIn_J73 (v2 : Int) (σ : Sg) : Rs := (bd (M_gives σ) (fun r20 s21 => (if v2 < 0 then (bd (M_refuse 8 s21) (fun r22 s23 => (some (r22, s23)))) else (some (v2, s21)))))
theorem ok_M_wildIn_J73 (v2 : Int) : ∀ (σ : Sg), G l Km Pm RX12 cX12_wildIn 4 0 6 73 [some (.inr (.inr 0)), none, some (.inl v2), none] [] σ (M_wildIn_J73 v2  σ) := by
  intro σ
  unfold M_wildIn_J73
  refine g_aload_n dX12_wildIn_73 rfl rfl ?_
  refine g_callv2 (st := []) 10 mw_X12_gives lk_RX12_415 rfl km_0 (ok_M_gives σ) (Nat.le_of_ble_eq_true rfl) rfl rfl (Nat.le_of_ble_eq_true rfl) dX12_wildIn_74 ?_
  intro r20 s21
  refine g_iload_n dX12_wildIn_77 rfl rfl ?_
  refine g_ifge (tgt := 90) dX12_wildIn_78 (by decide) ?_ ?_
  · refine g_aload_n dX12_wildIn_81 rfl rfl ?_
    refine g_bipush dX12_wildIn_82 (by decide) ?_
    refine g_callv0 (st := []) 10 mw_X12_refuse lk_RX12_325 rfl km_0 (ok_M_refuse 8 s21) (Nat.le_of_ble_eq_true rfl) rfl rfl (Nat.le_of_ble_eq_true rfl) dX12_wildIn_84 ?_
    intro r22 s23
    refine g_goto (tgt := 91) dX12_wildIn_87 (by decide) ?_
    exact g_iret dX12_wildIn_91
  · refine g_iload_n dX12_wildIn_90 rfl rfl ?_
    exact g_iret dX12_wildIn_91
def M_wildIn (a1 : Int) (σ : Sg) : Rs := (nm (up_s σ 0 1 0) (fun s1 => (nm (up_s s1 0 0 0) (fun s2 => (bd (M_isPersonAt a1 s2) (fun r3 s4 => (if r3 = 0 then (bd (M_refuse 2 s4) (fun r5 s6 => (some (r5, s6)))) else (bd (M_puts s4) (fun r7 s8 => (M_wildIn_L32 a1 (fun x18 s19 => (M_wildIn_J73 x18 s19)) fu (-1) 0 s8))))))))))
theorem ok_M_wildIn (a1 : Int) (σ : Sg) : MC l Km Pm yX12_wildIn cX12_wildIn 4 0 6 [.inr (.inr 0), .inl a1] σ (M_wildIn a1 σ) := by
  refine mc_of (by decide) (Nat.le_of_ble_eq_true rfl) ?_
  change G l Km Pm RX12 cX12_wildIn 4 0 6 0 [some (.inr (.inr 0)), some (.inl a1), none, none] [] σ (M_wildIn a1 σ)
  unfold M_wildIn
  refine g_aload_n dX12_wildIn_0 rfl rfl ?_
  refine g_iconst dX12_wildIn_1 (by decide) ?_
  refine g_puti fl_RX12_67 km_0 (by decide) dX12_wildIn_2 ?_
  intro s1
  refine g_aload_n dX12_wildIn_5 rfl rfl ?_
  refine g_iconst dX12_wildIn_6 (by decide) ?_
  refine g_puti fl_RX12_70 km_0 (by decide) dX12_wildIn_7 ?_
  intro s2
  refine g_aload_n dX12_wildIn_10 rfl rfl ?_
  refine g_iload_n dX12_wildIn_11 rfl rfl ?_
  refine g_callv3 (st := []) 10 mw_X12_isPersonAt lk_RX12_345 rfl km_0 (ok_M_isPersonAt a1 s2) (Nat.le_of_ble_eq_true rfl) rfl rfl (Nat.le_of_ble_eq_true rfl) dX12_wildIn_12 ?_
  intro r3 s4
  refine g_ifne (tgt := 24) dX12_wildIn_15 (by decide) ?_ ?_
  · refine g_aload_n dX12_wildIn_18 rfl rfl ?_
    refine g_iconst dX12_wildIn_19 (by decide) ?_
    refine g_callv0 (st := []) 10 mw_X12_refuse lk_RX12_325 rfl km_0 (ok_M_refuse 2 s4) (Nat.le_of_ble_eq_true rfl) rfl rfl (Nat.le_of_ble_eq_true rfl) dX12_wildIn_20 ?_
    intro r5 s6
    exact g_iret dX12_wildIn_23
  · refine g_iconst dX12_wildIn_24 (by decide) ?_
    refine g_istore_n (lv' := [some (.inr (.inr 0)), some (.inl a1), some (.inl (-1)), none]) dX12_wildIn_25 rfl (Nat.le_of_ble_eq_true rfl) rfl ?_
    refine g_aload_n dX12_wildIn_26 rfl rfl ?_
    refine g_callv2 (st := []) 10 mw_X12_puts lk_RX12_406 rfl km_0 (ok_M_puts s4) (Nat.le_of_ble_eq_true rfl) rfl rfl (Nat.le_of_ble_eq_true rfl) dX12_wildIn_27 ?_
    intro r7 s8
    refine g_iconst dX12_wildIn_30 (by decide) ?_
    refine g_istore_n (lv' := [some (.inr (.inr 0)), some (.inl a1), some (.inl (-1)), some (.inl 0)]) dX12_wildIn_31 rfl (Nat.le_of_ble_eq_true rfl) rfl ?_
    refine (ok_M_wildIn_L32 a1 _ ?_ fu (-1) 0 s8)
    · intro x18 s19
      refine (ok_M_wildIn_J73 x18 s19)
theorem dX12_word_0 : decode cX12_word 0 = .ok (.aload_n 0, 1) := by decide +kernel
theorem dX12_word_1 : decode cX12_word 1 = .ok (.iconst 0, 1) := by decide +kernel
theorem dX12_word_2 : decode cX12_word 2 = .ok (.putfield 67, 3) := by decide +kernel
theorem dX12_word_5 : decode cX12_word 5 = .ok (.aload_n 0, 1) := by decide +kernel
theorem dX12_word_6 : decode cX12_word 6 = .ok (.iconst 0, 1) := by decide +kernel
theorem dX12_word_7 : decode cX12_word 7 = .ok (.putfield 70, 3) := by decide +kernel
theorem dX12_word_10 : decode cX12_word 10 = .ok (.aload_n 0, 1) := by decide +kernel
theorem dX12_word_11 : decode cX12_word 11 = .ok (.iload_n 1, 1) := by decide +kernel
theorem dX12_word_12 : decode cX12_word 12 = .ok (.i2l, 1) := by decide +kernel
theorem dX12_word_13 : decode cX12_word 13 = .ok (.invokevirtual 334, 3) := by decide +kernel
theorem dX12_word_16 : decode cX12_word 16 = .ok (.ifCond .ne 9, 3) := by decide +kernel
theorem dX12_word_19 : decode cX12_word 19 = .ok (.aload_n 0, 1) := by decide +kernel
theorem dX12_word_20 : decode cX12_word 20 = .ok (.iconst 2, 1) := by decide +kernel
theorem dX12_word_21 : decode cX12_word 21 = .ok (.invokevirtual 325, 3) := by decide +kernel
theorem dX12_word_24 : decode cX12_word 24 = .ok (.ireturn, 1) := by decide +kernel
theorem dX12_word_25 : decode cX12_word 25 = .ok (.iload_n 2, 1) := by decide +kernel
theorem dX12_word_26 : decode cX12_word 26 = .ok (.i2l, 1) := by decide +kernel
theorem dX12_word_27 : decode cX12_word 27 = .ok (.lconst 0, 1) := by decide +kernel
theorem dX12_word_28 : decode cX12_word 28 = .ok (.ldc2_w 337, 3) := by decide +kernel
theorem dX12_word_31 : decode cX12_word 31 = .ok (.invokestatic 102, 3) := by decide +kernel
theorem dX12_word_34 : decode cX12_word 34 = .ok (.ifCond .ne 9, 3) := by decide +kernel
theorem dX12_word_37 : decode cX12_word 37 = .ok (.aload_n 0, 1) := by decide +kernel
theorem dX12_word_38 : decode cX12_word 38 = .ok (.iconst 5, 1) := by decide +kernel
theorem dX12_word_39 : decode cX12_word 39 = .ok (.invokevirtual 325, 3) := by decide +kernel
theorem dX12_word_42 : decode cX12_word 42 = .ok (.ireturn, 1) := by decide +kernel
theorem dX12_word_43 : decode cX12_word 43 = .ok (.iload_n 2, 1) := by decide +kernel
theorem dX12_word_44 : decode cX12_word 44 = .ok (.iconst 2, 1) := by decide +kernel
theorem dX12_word_45 : decode cX12_word 45 = .ok (.if_icmp .ge 18, 3) := by decide +kernel
theorem dX12_word_48 : decode cX12_word 48 = .ok (.aload_n 0, 1) := by decide +kernel
theorem dX12_word_49 : decode cX12_word 49 = .ok (.getfield 35, 3) := by decide +kernel
theorem dX12_word_52 : decode cX12_word 52 = .ok (.bipush 9, 2) := by decide +kernel
theorem dX12_word_54 : decode cX12_word 54 = .ok (.bipush 8, 2) := by decide +kernel
theorem dX12_word_56 : decode cX12_word 56 = .ok (.iload_n 2, 1) := by decide +kernel
theorem dX12_word_57 : decode cX12_word 57 = .ok (.imul, 1) := by decide +kernel
theorem dX12_word_58 : decode cX12_word 58 = .ok (.iadd, 1) := by decide +kernel
theorem dX12_word_59 : decode cX12_word 59 = .ok (.iload_n 1, 1) := by decide +kernel
theorem dX12_word_60 : decode cX12_word 60 = .ok (.iadd, 1) := by decide +kernel
theorem dX12_word_61 : decode cX12_word 61 = .ok (.iaload, 1) := by decide +kernel
theorem dX12_word_62 : decode cX12_word 62 = .ok (.ireturn, 1) := by decide +kernel
theorem dX12_word_63 : decode cX12_word 63 = .ok (.iload_n 2, 1) := by decide +kernel
theorem dX12_word_64 : decode cX12_word 64 = .ok (.iconst 2, 1) := by decide +kernel
theorem dX12_word_65 : decode cX12_word 65 = .ok (.if_icmp .ne 13, 3) := by decide +kernel
theorem dX12_word_68 : decode cX12_word 68 = .ok (.aload_n 0, 1) := by decide +kernel
theorem dX12_word_69 : decode cX12_word 69 = .ok (.bipush 37, 2) := by decide +kernel
theorem dX12_word_71 : decode cX12_word 71 = .ok (.iload_n 1, 1) := by decide +kernel
theorem dX12_word_72 : decode cX12_word 72 = .ok (.invokevirtual 339, 3) := by decide +kernel
theorem dX12_word_75 : decode cX12_word 75 = .ok (.goto 23, 3) := by decide +kernel
theorem dX12_word_78 : decode cX12_word 78 = .ok (.iload_n 2, 1) := by decide +kernel
theorem dX12_word_79 : decode cX12_word 79 = .ok (.iconst 3, 1) := by decide +kernel
theorem dX12_word_80 : decode cX12_word 80 = .ok (.if_icmp .ne 13, 3) := by decide +kernel
theorem dX12_word_83 : decode cX12_word 83 = .ok (.aload_n 0, 1) := by decide +kernel
theorem dX12_word_84 : decode cX12_word 84 = .ok (.bipush 43, 2) := by decide +kernel
theorem dX12_word_86 : decode cX12_word 86 = .ok (.iload_n 1, 1) := by decide +kernel
theorem dX12_word_87 : decode cX12_word 87 = .ok (.invokevirtual 339, 3) := by decide +kernel
theorem dX12_word_90 : decode cX12_word 90 = .ok (.goto 8, 3) := by decide +kernel
theorem dX12_word_93 : decode cX12_word 93 = .ok (.aload_n 0, 1) := by decide +kernel
theorem dX12_word_94 : decode cX12_word 94 = .ok (.iload_n 1, 1) := by decide +kernel
theorem dX12_word_95 : decode cX12_word 95 = .ok (.invokevirtual 342, 3) := by decide +kernel
theorem dX12_word_98 : decode cX12_word 98 = .ok (.ireturn, 1) := by decide +kernel
theorem mw_X12_word : MW yX12_word cX12_word 3 0 2 false := ⟨tm 2004 (by decide +kernel) rfl, tm 249 (by decide +kernel) rfl, by decide, by decide, (by rw [if_neg (by decide)]; exact ⟨tm 2002 (by decide +kernel) rfl, tm 2003 (by decide +kernel) rfl⟩)⟩
theorem lk_RX12_342 : LK RX12 342 yX12_halvesOf := Or.inl (tm 2014 (by decide +kernel) rfl)
def M_word (a1 : Int) (a2 : Int) (σ : Sg) : Rs := (nm (up_s σ 0 1 0) (fun s1 => (nm (up_s s1 0 0 0) (fun s2 => (bd (M_isWordAt a1 s2) (fun r3 s4 => (if r3 = 0 then (bd (M_refuse 2 s4) (fun r5 s6 => (some (r5, s6)))) else (bd (M_isIn a2 0 4 s4) (fun r7 s8 => (if r7 = 0 then (bd (M_refuse 5 s8) (fun r9 s10 => (some (r9, s10)))) else (if a2 < 2 then (rd 2235 (w32 ((w32 (9 + (w32 (8 * a2)))) + a1)) (s8 5 (Int.toNat (w32 ((w32 (9 + (w32 (8 * a2)))) + a1)))) (fun x11 => (some (x11, s8)))) else (if a2 = 2 then (bd (M_peopleWith 37 a1 s8) (fun r12 s13 => (some (r12, s13)))) else (if a2 = 3 then (bd (M_peopleWith 43 a1 s8) (fun r14 s15 => (some (r14, s15)))) else (bd (M_halvesOf a1 s8) (fun r16 s17 => (some (r16, s17)))))))))))))))))
theorem ok_M_word (a1 : Int) (a2 : Int) (σ : Sg) : MC l Km Pm yX12_word cX12_word 3 0 3 [.inr (.inr 0), .inl a1, .inl a2] σ (M_word a1 a2 σ) := by
  refine mc_of (by decide) (Nat.le_of_ble_eq_true rfl) ?_
  change G l Km Pm RX12 cX12_word 3 0 3 0 [some (.inr (.inr 0)), some (.inl a1), some (.inl a2)] [] σ (M_word a1 a2 σ)
  unfold M_word
  refine g_aload_n dX12_word_0 rfl rfl ?_
  refine g_iconst dX12_word_1 (by decide) ?_
  refine g_puti fl_RX12_67 km_0 (by decide) dX12_word_2 ?_
  intro s1
  refine g_aload_n dX12_word_5 rfl rfl ?_
  refine g_iconst dX12_word_6 (by decide) ?_
  refine g_puti fl_RX12_70 km_0 (by decide) dX12_word_7 ?_
  intro s2
  refine g_aload_n dX12_word_10 rfl rfl ?_
  refine g_iload_n dX12_word_11 rfl rfl ?_
  refine g_i2l dX12_word_12 ?_
  refine g_callv3 (st := []) 10 mw_X12_isWordAt lk_RX12_334 rfl km_0 (ok_M_isWordAt a1 s2) (Nat.le_of_ble_eq_true rfl) rfl rfl (Nat.le_of_ble_eq_true rfl) dX12_word_13 ?_
  intro r3 s4
  refine g_ifne (tgt := 25) dX12_word_16 (by decide) ?_ ?_
  · refine g_aload_n dX12_word_19 rfl rfl ?_
    refine g_iconst dX12_word_20 (by decide) ?_
    refine g_callv0 (st := []) 10 mw_X12_refuse lk_RX12_325 rfl km_0 (ok_M_refuse 2 s4) (Nat.le_of_ble_eq_true rfl) rfl rfl (Nat.le_of_ble_eq_true rfl) dX12_word_21 ?_
    intro r5 s6
    exact g_iret dX12_word_24
  · refine g_iload_n dX12_word_25 rfl rfl ?_
    refine g_i2l dX12_word_26 ?_
    refine g_lconst (v := 0) dX12_word_27 (by decide) ?_
    refine g_ldc2 (n := 4) (tm 2009 (by decide +kernel) rfl) (by decide) dX12_word_28 ?_
    refine g_calls3 (st := []) mw_X12_isIn lk_RX12_102 (ok_M_isIn a2 0 4 s4) (Nat.le_of_ble_eq_true rfl) rfl rfl (Nat.le_of_ble_eq_true rfl) dX12_word_31 ?_
    intro r7 s8
    refine g_ifne (tgt := 43) dX12_word_34 (by decide) ?_ ?_
    · refine g_aload_n dX12_word_37 rfl rfl ?_
      refine g_iconst dX12_word_38 (by decide) ?_
      refine g_callv0 (st := []) 10 mw_X12_refuse lk_RX12_325 rfl km_0 (ok_M_refuse 5 s8) (Nat.le_of_ble_eq_true rfl) rfl rfl (Nat.le_of_ble_eq_true rfl) dX12_word_39 ?_
      intro r9 s10
      exact g_iret dX12_word_42
    · refine g_iload_n dX12_word_43 rfl rfl ?_
      refine g_iconst dX12_word_44 (by decide) ?_
      refine g_icmpge (tgt := 63) dX12_word_45 (by decide) ?_ ?_
      · refine g_aload_n dX12_word_48 rfl rfl ?_
        refine g_getr' (q := 5) fl_RX12_35 km_0 (by decide) rfl dX12_word_49 ?_
        refine g_bipush dX12_word_52 (by decide) ?_
        refine g_bipush dX12_word_54 (by decide) ?_
        refine g_iload_n dX12_word_56 rfl rfl ?_
        refine g_imul dX12_word_57 ?_
        refine g_iadd dX12_word_58 ?_
        refine g_iload_n dX12_word_59 rfl rfl ?_
        refine g_iadd dX12_word_60 ?_
        refine g_iald km_5 dX12_word_61 ?_
        intro x11
        exact g_iret dX12_word_62
      · refine g_iload_n dX12_word_63 rfl rfl ?_
        refine g_iconst dX12_word_64 (by decide) ?_
        refine g_icmpne (tgt := 78) dX12_word_65 (by decide) ?_ ?_
        · refine g_aload_n dX12_word_68 rfl rfl ?_
          refine g_bipush dX12_word_69 (by decide) ?_
          refine g_iload_n dX12_word_71 rfl rfl ?_
          refine g_callv0 (st := []) 10 mw_X12_peopleWith lk_RX12_339 rfl km_0 (ok_M_peopleWith 37 a1 s8) (Nat.le_of_ble_eq_true rfl) rfl rfl (Nat.le_of_ble_eq_true rfl) dX12_word_72 ?_
          intro r12 s13
          refine g_goto (tgt := 98) dX12_word_75 (by decide) ?_
          exact g_iret dX12_word_98
        · refine g_iload_n dX12_word_78 rfl rfl ?_
          refine g_iconst dX12_word_79 (by decide) ?_
          refine g_icmpne (tgt := 93) dX12_word_80 (by decide) ?_ ?_
          · refine g_aload_n dX12_word_83 rfl rfl ?_
            refine g_bipush dX12_word_84 (by decide) ?_
            refine g_iload_n dX12_word_86 rfl rfl ?_
            refine g_callv0 (st := []) 10 mw_X12_peopleWith lk_RX12_339 rfl km_0 (ok_M_peopleWith 43 a1 s8) (Nat.le_of_ble_eq_true rfl) rfl rfl (Nat.le_of_ble_eq_true rfl) dX12_word_87 ?_
            intro r14 s15
            refine g_goto (tgt := 98) dX12_word_90 (by decide) ?_
            exact g_iret dX12_word_98
          · refine g_aload_n dX12_word_93 rfl rfl ?_
            refine g_iload_n dX12_word_94 rfl rfl ?_
            refine g_callv0 (st := []) 10 mw_X12_halvesOf lk_RX12_342 rfl km_0 (ok_M_halvesOf a1 s8) (Nat.le_of_ble_eq_true rfl) rfl rfl (Nat.le_of_ble_eq_true rfl) dX12_word_95 ?_
            intro r16 s17
            exact g_iret dX12_word_98
theorem dX12_years_0 : decode cX12_years 0 = .ok (.aload_n 0, 1) := by decide +kernel
theorem dX12_years_1 : decode cX12_years 1 = .ok (.iconst 0, 1) := by decide +kernel
theorem dX12_years_2 : decode cX12_years 2 = .ok (.putfield 67, 3) := by decide +kernel
theorem dX12_years_5 : decode cX12_years 5 = .ok (.aload_n 0, 1) := by decide +kernel
theorem dX12_years_6 : decode cX12_years 6 = .ok (.iconst 0, 1) := by decide +kernel
theorem dX12_years_7 : decode cX12_years 7 = .ok (.putfield 70, 3) := by decide +kernel
theorem dX12_years_10 : decode cX12_years 10 = .ok (.aload_n 0, 1) := by decide +kernel
theorem dX12_years_11 : decode cX12_years 11 = .ok (.iload_n 1, 1) := by decide +kernel
theorem dX12_years_12 : decode cX12_years 12 = .ok (.sipush 300, 3) := by decide +kernel
theorem dX12_years_15 : decode cX12_years 15 = .ok (.invokevirtual 290, 3) := by decide +kernel
theorem dX12_years_18 : decode cX12_years 18 = .ok (.ifCond .ne 5, 3) := by decide +kernel
theorem dX12_years_21 : decode cX12_years 21 = .ok (.iconst (-1), 1) := by decide +kernel
theorem dX12_years_22 : decode cX12_years 22 = .ok (.ireturn, 1) := by decide +kernel
theorem dX12_years_23 : decode cX12_years 23 = .ok (.aload_n 0, 1) := by decide +kernel
theorem dX12_years_24 : decode cX12_years 24 = .ok (.iconst 0, 1) := by decide +kernel
theorem dX12_years_25 : decode cX12_years 25 = .ok (.putfield 308, 3) := by decide +kernel
theorem dX12_years_28 : decode cX12_years 28 = .ok (.aload_n 0, 1) := by decide +kernel
theorem dX12_years_29 : decode cX12_years 29 = .ok (.getfield 211, 3) := by decide +kernel
theorem dX12_years_32 : decode cX12_years 32 = .ok (.ifCond .ne 18, 3) := by decide +kernel
theorem dX12_years_35 : decode cX12_years 35 = .ok (.aload_n 0, 1) := by decide +kernel
theorem dX12_years_36 : decode cX12_years 36 = .ok (.getfield 122, 3) := by decide +kernel
theorem dX12_years_39 : decode cX12_years 39 = .ok (.ifCond .eq 11, 3) := by decide +kernel
theorem dX12_years_42 : decode cX12_years 42 = .ok (.aload_n 0, 1) := by decide +kernel
theorem dX12_years_43 : decode cX12_years 43 = .ok (.iconst 0, 1) := by decide +kernel
theorem dX12_years_44 : decode cX12_years 44 = .ok (.invokevirtual 314, 3) := by decide +kernel
theorem dX12_years_47 : decode cX12_years 47 = .ok (.goto (-19), 3) := by decide +kernel
theorem dX12_years_50 : decode cX12_years 50 = .ok (.aload_n 0, 1) := by decide +kernel
theorem dX12_years_51 : decode cX12_years 51 = .ok (.invokevirtual 299, 3) := by decide +kernel
theorem dX12_years_54 : decode cX12_years 54 = .ok (.ifCond .ne 5, 3) := by decide +kernel
theorem dX12_years_57 : decode cX12_years 57 = .ok (.iconst (-1), 1) := by decide +kernel
theorem dX12_years_58 : decode cX12_years 58 = .ok (.ireturn, 1) := by decide +kernel
theorem dX12_years_59 : decode cX12_years 59 = .ok (.aload_n 0, 1) := by decide +kernel
theorem dX12_years_60 : decode cX12_years 60 = .ok (.getfield 35, 3) := by decide +kernel
theorem dX12_years_63 : decode cX12_years 63 = .ok (.sipush 175, 3) := by decide +kernel
theorem dX12_years_66 : decode cX12_years 66 = .ok (.iconst 1, 1) := by decide +kernel
theorem dX12_years_67 : decode cX12_years 67 = .ok (.iastore, 1) := by decide +kernel
theorem dX12_years_68 : decode cX12_years 68 = .ok (.aload_n 0, 1) := by decide +kernel
theorem dX12_years_69 : decode cX12_years 69 = .ok (.getfield 35, 3) := by decide +kernel
theorem dX12_years_72 : decode cX12_years 72 = .ok (.sipush 176, 3) := by decide +kernel
theorem dX12_years_75 : decode cX12_years 75 = .ok (.aload_n 0, 1) := by decide +kernel
theorem dX12_years_76 : decode cX12_years 76 = .ok (.getfield 308, 3) := by decide +kernel
theorem dX12_years_79 : decode cX12_years 79 = .ok (.iastore, 1) := by decide +kernel
theorem dX12_years_80 : decode cX12_years 80 = .ok (.iconst 0, 1) := by decide +kernel
theorem dX12_years_81 : decode cX12_years 81 = .ok (.istore_n 2, 1) := by decide +kernel
theorem dX12_years_82 : decode cX12_years 82 = .ok (.iload_n 2, 1) := by decide +kernel
theorem dX12_years_83 : decode cX12_years 83 = .ok (.bipush 9, 2) := by decide +kernel
theorem dX12_years_85 : decode cX12_years 85 = .ok (.aload_n 0, 1) := by decide +kernel
theorem dX12_years_86 : decode cX12_years 86 = .ok (.getfield 308, 3) := by decide +kernel
theorem dX12_years_89 : decode cX12_years 89 = .ok (.imul, 1) := by decide +kernel
theorem dX12_years_90 : decode cX12_years 90 = .ok (.if_icmp .ge 29, 3) := by decide +kernel
theorem dX12_years_93 : decode cX12_years 93 = .ok (.aload_n 0, 1) := by decide +kernel
theorem dX12_years_94 : decode cX12_years 94 = .ok (.getfield 35, 3) := by decide +kernel
theorem dX12_years_97 : decode cX12_years 97 = .ok (.sipush 177, 3) := by decide +kernel
theorem dX12_years_100 : decode cX12_years 100 = .ok (.iload_n 2, 1) := by decide +kernel
theorem dX12_years_101 : decode cX12_years 101 = .ok (.iadd, 1) := by decide +kernel
theorem dX12_years_102 : decode cX12_years 102 = .ok (.aload_n 0, 1) := by decide +kernel
theorem dX12_years_103 : decode cX12_years 103 = .ok (.getfield 35, 3) := by decide +kernel
theorem dX12_years_106 : decode cX12_years 106 = .ok (.sipush 1965, 3) := by decide +kernel
theorem dX12_years_109 : decode cX12_years 109 = .ok (.iload_n 2, 1) := by decide +kernel
theorem dX12_years_110 : decode cX12_years 110 = .ok (.iadd, 1) := by decide +kernel
theorem dX12_years_111 : decode cX12_years 111 = .ok (.iaload, 1) := by decide +kernel
theorem dX12_years_112 : decode cX12_years 112 = .ok (.iastore, 1) := by decide +kernel
theorem dX12_years_113 : decode cX12_years 113 = .ok (.iinc 2 1, 3) := by decide +kernel
theorem dX12_years_116 : decode cX12_years 116 = .ok (.goto (-34), 3) := by decide +kernel
theorem dX12_years_119 : decode cX12_years 119 = .ok (.aload_n 0, 1) := by decide +kernel
theorem dX12_years_120 : decode cX12_years 120 = .ok (.getfield 308, 3) := by decide +kernel
theorem dX12_years_123 : decode cX12_years 123 = .ok (.ireturn, 1) := by decide +kernel
theorem mw_X12_years : MW yX12_years cX12_years 3 0 1 false := ⟨tm 1963 (by decide +kernel) rfl, tm 249 (by decide +kernel) rfl, by decide, by decide, (by rw [if_neg (by decide)]; exact ⟨tm 1961 (by decide +kernel) rfl, tm 1962 (by decide +kernel) rfl⟩)⟩
def M_years_L28 (k50 : Sg → Rs) : Nat → Sg → Rs
  | 0, _ => none
  | n + 1, σ => (if (σ 0 12) = 0 then (if (σ 0 14) = 0 then (k50 σ) else (bd (M_readStep 20 0 σ) (fun r6 s7 => (M_years_L28 k50 n s7)))) else (k50 σ))
theorem ok_M_years_L28 (k50 : Sg → Rs) (hk50 : ∀ (σ : Sg), G l Km Pm RX12 cX12_years 3 0 30 50 [some (.inr (.inr 0)), none, none] [] σ (k50 σ)) : ∀ (n : Nat) (σ : Sg), G l Km Pm RX12 cX12_years 3 0 30 28 [some (.inr (.inr 0)), none, none] [] σ (M_years_L28 k50 n  σ) := by
  intro n
  induction n with
  | zero => intros; exact G.none_
  | succ n ih =>
    intro σ
    rw [M_years_L28]
    refine g_aload_n dX12_years_28 rfl rfl ?_
    refine g_geti fl_RX12_211 km_0 (by decide) dX12_years_29 ?_
    refine g_ifne (tgt := 50) dX12_years_32 (by decide) ?_ ?_
    · refine g_aload_n dX12_years_35 rfl rfl ?_
      refine g_geti fl_RX12_122 km_0 (by decide) dX12_years_36 ?_
      refine g_ifeq (tgt := 50) dX12_years_39 (by decide) ?_ ?_
      · exact (hk50 σ)
      · refine g_aload_n dX12_years_42 rfl rfl ?_
        refine g_iconst dX12_years_43 (by decide) ?_
        refine g_callv2 (st := []) 10 mw_X12_readStep lk_RX12_314 rfl km_0 (ok_M_readStep 20 0 σ) (Nat.le_of_ble_eq_true rfl) rfl rfl (Nat.le_of_ble_eq_true rfl) dX12_years_44 ?_
        intro r6 s7
        refine g_goto (tgt := 28) dX12_years_47 (by decide) ?_
        exact (ih s7)
    · exact (hk50 σ)
def M_years_L82  : Nat → Int → Sg → Rs
  | 0, _, _ => none
  | n + 1, v2, σ => (if v2 < (w32 (9 * (σ 0 26))) then (rd 2235 (w32 (1965 + v2)) (σ 5 (Int.toNat (w32 (1965 + v2)))) (fun x13 => (wr 2235 (w32 (177 + v2)) (up_s σ 5 (Int.toNat (w32 (177 + v2))) x13) (fun s14 => (nm (w32 (v2 + 1)) (fun x15 => (M_years_L82 n x15 s14))))))) else (some ((σ 0 26), σ)))
theorem ok_M_years_L82 : ∀ (n : Nat) (v2 : Int) (σ : Sg), G l Km Pm RX12 cX12_years 3 0 30 82 [some (.inr (.inr 0)), none, some (.inl v2)] [] σ (M_years_L82  n v2 σ) := by
  intro n
  induction n with
  | zero => intros; exact G.none_
  | succ n ih =>
    intro v2 σ
    rw [M_years_L82]
    refine g_iload_n dX12_years_82 rfl rfl ?_
    refine g_bipush dX12_years_83 (by decide) ?_
    refine g_aload_n dX12_years_85 rfl rfl ?_
    refine g_geti fl_RX12_308 km_0 (by decide) dX12_years_86 ?_
    refine g_imul dX12_years_89 ?_
    refine g_icmpge (tgt := 119) dX12_years_90 (by decide) ?_ ?_
    · refine g_aload_n dX12_years_93 rfl rfl ?_
      refine g_getr' (q := 5) fl_RX12_35 km_0 (by decide) rfl dX12_years_94 ?_
      refine g_sipush dX12_years_97 (by decide) ?_
      refine g_iload_n dX12_years_100 rfl rfl ?_
      refine g_iadd dX12_years_101 ?_
      refine g_aload_n dX12_years_102 rfl rfl ?_
      refine g_getr' (q := 5) fl_RX12_35 km_0 (by decide) rfl dX12_years_103 ?_
      refine g_sipush dX12_years_106 (by decide) ?_
      refine g_iload_n dX12_years_109 rfl rfl ?_
      refine g_iadd dX12_years_110 ?_
      refine g_iald km_5 dX12_years_111 ?_
      intro x13
      refine g_iast km_5 dX12_years_112 ?_
      intro s14
      refine n_iinc (fun x15 => [some (.inr (.inr 0)), none, some (.inl x15)]) dX12_years_113 rfl (Nat.le_of_ble_eq_true rfl) (fun _ => rfl) ?_
      intro x15
      refine g_goto (tgt := 82) dX12_years_116 (by decide) ?_
      exact (ih x15 s14)
    · refine g_aload_n dX12_years_119 rfl rfl ?_
      refine g_geti fl_RX12_308 km_0 (by decide) dX12_years_120 ?_
      exact g_iret dX12_years_123
def M_years_J50  (σ : Sg) : Rs := (bd (M_isWell σ) (fun r9 s10 => (if r9 = 0 then (some ((-1), s10)) else (wr 2235 175 (up_s s10 5 (Int.toNat 175) 1) (fun s11 => (wr 2235 176 (up_s s11 5 (Int.toNat 176) (s11 0 26)) (fun s12 => (M_years_L82 fu 0 s12))))))))
theorem ok_M_years_J50 : ∀ (σ : Sg), G l Km Pm RX12 cX12_years 3 0 30 50 [some (.inr (.inr 0)), none, none] [] σ (M_years_J50   σ) := by
  intro σ
  unfold M_years_J50
  refine g_aload_n dX12_years_50 rfl rfl ?_
  refine g_callv3 (st := []) 10 mw_X12_isWell lk_RX12_299 rfl km_0 (ok_M_isWell σ) (Nat.le_of_ble_eq_true rfl) rfl rfl (Nat.le_of_ble_eq_true rfl) dX12_years_51 ?_
  intro r9 s10
  refine g_ifne (tgt := 59) dX12_years_54 (by decide) ?_ ?_
  · refine g_iconst dX12_years_57 (by decide) ?_
    exact g_iret dX12_years_58
  · refine g_aload_n dX12_years_59 rfl rfl ?_
    refine g_getr' (q := 5) fl_RX12_35 km_0 (by decide) rfl dX12_years_60 ?_
    refine g_sipush dX12_years_63 (by decide) ?_
    refine g_iconst dX12_years_66 (by decide) ?_
    refine g_iast km_5 dX12_years_67 ?_
    intro s11
    refine g_aload_n dX12_years_68 rfl rfl ?_
    refine g_getr' (q := 5) fl_RX12_35 km_0 (by decide) rfl dX12_years_69 ?_
    refine g_sipush dX12_years_72 (by decide) ?_
    refine g_aload_n dX12_years_75 rfl rfl ?_
    refine g_geti fl_RX12_308 km_0 (by decide) dX12_years_76 ?_
    refine g_iast km_5 dX12_years_79 ?_
    intro s12
    refine g_iconst dX12_years_80 (by decide) ?_
    refine g_istore_n (lv' := [some (.inr (.inr 0)), none, some (.inl 0)]) dX12_years_81 rfl (Nat.le_of_ble_eq_true rfl) rfl ?_
    refine (ok_M_years_L82 fu 0 s12)
def M_years (a1 : Int) (σ : Sg) : Rs := (nm (up_s σ 0 1 0) (fun s1 => (nm (up_s s1 0 0 0) (fun s2 => (bd (M_starts a1 300 s2) (fun r3 s4 => (if r3 = 0 then (some ((-1), s4)) else (nm (up_s s4 0 26 0) (fun s5 => (M_years_L28 (fun s8 => (M_years_J50 s8)) fu s5))))))))))
theorem ok_M_years (a1 : Int) (σ : Sg) : MC l Km Pm yX12_years cX12_years 3 0 30 [.inr (.inr 0), .inl a1] σ (M_years a1 σ) := by
  refine mc_of (by decide) (Nat.le_of_ble_eq_true rfl) ?_
  change G l Km Pm RX12 cX12_years 3 0 30 0 [some (.inr (.inr 0)), some (.inl a1), none] [] σ (M_years a1 σ)
  unfold M_years
  refine g_aload_n dX12_years_0 rfl rfl ?_
  refine g_iconst dX12_years_1 (by decide) ?_
  refine g_puti fl_RX12_67 km_0 (by decide) dX12_years_2 ?_
  intro s1
  refine g_aload_n dX12_years_5 rfl rfl ?_
  refine g_iconst dX12_years_6 (by decide) ?_
  refine g_puti fl_RX12_70 km_0 (by decide) dX12_years_7 ?_
  intro s2
  refine g_aload_n dX12_years_10 rfl rfl ?_
  refine g_iload_n dX12_years_11 rfl rfl ?_
  refine g_sipush dX12_years_12 (by decide) ?_
  refine g_callv3 (st := []) 10 mw_X12_starts lk_RX12_290 rfl km_0 (ok_M_starts a1 300 s2) (Nat.le_of_ble_eq_true rfl) rfl rfl (Nat.le_of_ble_eq_true rfl) dX12_years_15 ?_
  intro r3 s4
  refine g_ifne (tgt := 23) dX12_years_18 (by decide) ?_ ?_
  · refine g_iconst dX12_years_21 (by decide) ?_
    exact g_iret dX12_years_22
  · refine g_aload_n dX12_years_23 rfl rfl ?_
    refine g_iconst dX12_years_24 (by decide) ?_
    refine g_puti fl_RX12_308 km_0 (by decide) dX12_years_25 ?_
    intro s5
    refine (g_weak [true, false, false] (ok_M_years_L28 _ ?_ fu s5))
    · intro s8
      refine (ok_M_years_J50 s8)
end WK
