section WK
variable {l : Launch}
theorem dX12_copyHair_0 : decode cX12_copyHair 0 = .ok (.aload_n 0, 1) := by decide +kernel
theorem dX12_copyHair_1 : decode cX12_copyHair 1 = .ok (.iconst 0, 1) := by decide +kernel
theorem dX12_copyHair_2 : decode cX12_copyHair 2 = .ok (.putfield 67, 3) := by decide +kernel
theorem dX12_copyHair_5 : decode cX12_copyHair 5 = .ok (.aload_n 0, 1) := by decide +kernel
theorem dX12_copyHair_6 : decode cX12_copyHair 6 = .ok (.iconst 0, 1) := by decide +kernel
theorem dX12_copyHair_7 : decode cX12_copyHair 7 = .ok (.putfield 70, 3) := by decide +kernel
theorem dX12_copyHair_10 : decode cX12_copyHair 10 = .ok (.aload_n 0, 1) := by decide +kernel
theorem dX12_copyHair_11 : decode cX12_copyHair 11 = .ok (.iload_n 1, 1) := by decide +kernel
theorem dX12_copyHair_12 : decode cX12_copyHair 12 = .ok (.invokevirtual 356, 3) := by decide +kernel
theorem dX12_copyHair_15 : decode cX12_copyHair 15 = .ok (.ifCond .ne 9, 3) := by decide +kernel
theorem dX12_copyHair_18 : decode cX12_copyHair 18 = .ok (.aload_n 0, 1) := by decide +kernel
theorem dX12_copyHair_19 : decode cX12_copyHair 19 = .ok (.iconst 1, 1) := by decide +kernel
theorem dX12_copyHair_20 : decode cX12_copyHair 20 = .ok (.invokevirtual 325, 3) := by decide +kernel
theorem dX12_copyHair_23 : decode cX12_copyHair 23 = .ok (.ireturn, 1) := by decide +kernel
theorem dX12_copyHair_24 : decode cX12_copyHair 24 = .ok (.aload_n 0, 1) := by decide +kernel
theorem dX12_copyHair_25 : decode cX12_copyHair 25 = .ok (.getfield 17, 3) := by decide +kernel
theorem dX12_copyHair_28 : decode cX12_copyHair 28 = .ok (.iload_n 1, 1) := by decide +kernel
theorem dX12_copyHair_29 : decode cX12_copyHair 29 = .ok (.iaload, 1) := by decide +kernel
theorem dX12_copyHair_30 : decode cX12_copyHair 30 = .ok (.ifCond .ge 9, 3) := by decide +kernel
theorem dX12_copyHair_33 : decode cX12_copyHair 33 = .ok (.aload_n 0, 1) := by decide +kernel
theorem dX12_copyHair_34 : decode cX12_copyHair 34 = .ok (.iconst 3, 1) := by decide +kernel
theorem dX12_copyHair_35 : decode cX12_copyHair 35 = .ok (.invokevirtual 325, 3) := by decide +kernel
theorem dX12_copyHair_38 : decode cX12_copyHair 38 = .ok (.ireturn, 1) := by decide +kernel
theorem dX12_copyHair_39 : decode cX12_copyHair 39 = .ok (.aload_n 0, 1) := by decide +kernel
theorem dX12_copyHair_40 : decode cX12_copyHair 40 = .ok (.getfield 17, 3) := by decide +kernel
theorem dX12_copyHair_43 : decode cX12_copyHair 43 = .ok (.iload_n 1, 1) := by decide +kernel
theorem dX12_copyHair_44 : decode cX12_copyHair 44 = .ok (.iaload, 1) := by decide +kernel
theorem dX12_copyHair_45 : decode cX12_copyHair 45 = .ok (.aload_n 0, 1) := by decide +kernel
theorem dX12_copyHair_46 : decode cX12_copyHair 46 = .ok (.getfield 35, 3) := by decide +kernel
theorem dX12_copyHair_49 : decode cX12_copyHair 49 = .ok (.iconst 1, 1) := by decide +kernel
theorem dX12_copyHair_50 : decode cX12_copyHair 50 = .ok (.iaload, 1) := by decide +kernel
theorem dX12_copyHair_51 : decode cX12_copyHair 51 = .ok (.if_icmp .ge 9, 3) := by decide +kernel
theorem dX12_copyHair_54 : decode cX12_copyHair 54 = .ok (.aload_n 0, 1) := by decide +kernel
theorem dX12_copyHair_55 : decode cX12_copyHair 55 = .ok (.iconst 4, 1) := by decide +kernel
theorem dX12_copyHair_56 : decode cX12_copyHair 56 = .ok (.invokevirtual 325, 3) := by decide +kernel
theorem dX12_copyHair_59 : decode cX12_copyHair 59 = .ok (.ireturn, 1) := by decide +kernel
theorem dX12_copyHair_60 : decode cX12_copyHair 60 = .ok (.iconst 0, 1) := by decide +kernel
theorem dX12_copyHair_61 : decode cX12_copyHair 61 = .ok (.istore_n 2, 1) := by decide +kernel
theorem dX12_copyHair_62 : decode cX12_copyHair 62 = .ok (.iload_n 2, 1) := by decide +kernel
theorem dX12_copyHair_63 : decode cX12_copyHair 63 = .ok (.aload_n 0, 1) := by decide +kernel
theorem dX12_copyHair_64 : decode cX12_copyHair 64 = .ok (.getfield 35, 3) := by decide +kernel
theorem dX12_copyHair_67 : decode cX12_copyHair 67 = .ok (.iconst 1, 1) := by decide +kernel
theorem dX12_copyHair_68 : decode cX12_copyHair 68 = .ok (.iaload, 1) := by decide +kernel
theorem dX12_copyHair_69 : decode cX12_copyHair 69 = .ok (.if_icmp .ge 22, 3) := by decide +kernel
theorem dX12_copyHair_72 : decode cX12_copyHair 72 = .ok (.aload_n 0, 1) := by decide +kernel
theorem dX12_copyHair_73 : decode cX12_copyHair 73 = .ok (.iload_n 1, 1) := by decide +kernel
theorem dX12_copyHair_74 : decode cX12_copyHair 74 = .ok (.iload_n 2, 1) := by decide +kernel
theorem dX12_copyHair_75 : decode cX12_copyHair 75 = .ok (.aload_n 0, 1) := by decide +kernel
theorem dX12_copyHair_76 : decode cX12_copyHair 76 = .ok (.iload_n 2, 1) := by decide +kernel
theorem dX12_copyHair_77 : decode cX12_copyHair 77 = .ok (.invokevirtual 320, 3) := by decide +kernel
theorem dX12_copyHair_80 : decode cX12_copyHair 80 = .ok (.i2l, 1) := by decide +kernel
theorem dX12_copyHair_81 : decode cX12_copyHair 81 = .ok (.invokevirtual 359, 3) := by decide +kernel
theorem dX12_copyHair_84 : decode cX12_copyHair 84 = .ok (.pop, 1) := by decide +kernel
theorem dX12_copyHair_85 : decode cX12_copyHair 85 = .ok (.iinc 2 1, 3) := by decide +kernel
theorem dX12_copyHair_88 : decode cX12_copyHair 88 = .ok (.goto (-26), 3) := by decide +kernel
theorem dX12_copyHair_91 : decode cX12_copyHair 91 = .ok (.aload_n 0, 1) := by decide +kernel
theorem dX12_copyHair_92 : decode cX12_copyHair 92 = .ok (.getfield 35, 3) := by decide +kernel
theorem dX12_copyHair_95 : decode cX12_copyHair 95 = .ok (.iconst 1, 1) := by decide +kernel
theorem dX12_copyHair_96 : decode cX12_copyHair 96 = .ok (.iaload, 1) := by decide +kernel
theorem dX12_copyHair_97 : decode cX12_copyHair 97 = .ok (.ireturn, 1) := by decide +kernel
theorem mw_X12_copyHair : MW yX12_copyHair cX12_copyHair 3 0 1 false := ⟨tm 2050 (by decide +kernel) rfl, tm 249 (by decide +kernel) rfl, by decide, by decide, (by rw [if_neg (by decide)]; exact ⟨tm 2048 (by decide +kernel) rfl, tm 2049 (by decide +kernel) rfl⟩)⟩
theorem lk_RX12_359 : LK RX12 359 yX12_write := Or.inl (tm 2056 (by decide +kernel) rfl)
def M_copyHair_L62 (a1 : Int) : Nat → Int → Sg → Rs
  | 0, _, _ => none
  | n + 1, v2, σ => (rd 2235 1 (σ 5 (Int.toNat 1)) (fun x14 => (if v2 < x14 then (bd (M_hairOf v2 σ) (fun r15 s16 => (bd (M_write a1 v2 r15 s16) (fun r17 s18 => (nm (w32 (v2 + 1)) (fun x19 => (M_copyHair_L62 a1 n x19 s18))))))) else (rd 2235 1 (σ 5 (Int.toNat 1)) (fun x20 => (some (x20, σ)))))))
theorem ok_M_copyHair_L62 (a1 : Int) : ∀ (n : Nat) (v2 : Int) (σ : Sg), G l Km Pm RX12 cX12_copyHair 3 0 4 62 [some (.inr (.inr 0)), some (.inl a1), some (.inl v2)] [] σ (M_copyHair_L62 a1 n v2 σ) := by
  intro n
  induction n with
  | zero => intros; exact G.none_
  | succ n ih =>
    intro v2 σ
    rw [M_copyHair_L62]
    refine g_iload_n dX12_copyHair_62 rfl rfl ?_
    refine g_aload_n dX12_copyHair_63 rfl rfl ?_
    refine g_getr' (q := 5) fl_RX12_35 km_0 (by decide) rfl dX12_copyHair_64 ?_
    refine g_iconst dX12_copyHair_67 (by decide) ?_
    refine g_iald km_5 dX12_copyHair_68 ?_
    intro x14
    refine g_icmpge (tgt := 91) dX12_copyHair_69 (by decide) ?_ ?_
    · refine g_aload_n dX12_copyHair_72 rfl rfl ?_
      refine g_iload_n dX12_copyHair_73 rfl rfl ?_
      refine g_iload_n dX12_copyHair_74 rfl rfl ?_
      refine g_aload_n dX12_copyHair_75 rfl rfl ?_
      refine g_iload_n dX12_copyHair_76 rfl rfl ?_
      refine g_callv0 (st := [.inl v2, .inl a1, .inr (.inr 0)]) 10 mw_X12_hairOf lk_RX12_320 rfl km_0 (ok_M_hairOf v2 σ) (Nat.le_of_ble_eq_true rfl) rfl rfl (Nat.le_of_ble_eq_true rfl) dX12_copyHair_77 ?_
      intro r15 s16
      refine g_i2l dX12_copyHair_80 ?_
      refine g_callv3 (st := []) 10 mw_X12_write lk_RX12_359 rfl km_0 (ok_M_write a1 v2 r15 s16) (Nat.le_of_ble_eq_true rfl) rfl rfl (Nat.le_of_ble_eq_true rfl) dX12_copyHair_81 ?_
      intro r17 s18
      refine g_pop dX12_copyHair_84 rfl ?_
      refine n_iinc (fun x19 => [some (.inr (.inr 0)), some (.inl a1), some (.inl x19)]) dX12_copyHair_85 rfl (Nat.le_of_ble_eq_true rfl) (fun _ => rfl) ?_
      intro x19
      refine g_goto (tgt := 62) dX12_copyHair_88 (by decide) ?_
      exact (ih x19 s18)
    · refine g_aload_n dX12_copyHair_91 rfl rfl ?_
      refine g_getr' (q := 5) fl_RX12_35 km_0 (by decide) rfl dX12_copyHair_92 ?_
      refine g_iconst dX12_copyHair_95 (by decide) ?_
      refine g_iald km_5 dX12_copyHair_96 ?_
      intro x20
      exact g_iret dX12_copyHair_97
def M_copyHair (a1 : Int) (σ : Sg) : Rs := (nm (up_s σ 0 1 0) (fun s1 => (nm (up_s s1 0 0 0) (fun s2 => (bd (M_isTray a1 s2) (fun r3 s4 => (if r3 = 0 then (bd (M_refuse 1 s4) (fun r5 s6 => (some (r5, s6)))) else (rd 4 a1 (s4 2 (Int.toNat a1)) (fun x7 => (if x7 < 0 then (bd (M_refuse 3 s4) (fun r8 s9 => (some (r8, s9)))) else (rd 4 a1 (s4 2 (Int.toNat a1)) (fun x10 => (rd 2235 1 (s4 5 (Int.toNat 1)) (fun x11 => (if x10 < x11 then (bd (M_refuse 4 s4) (fun r12 s13 => (some (r12, s13)))) else (M_copyHair_L62 a1 fu 0 s4))))))))))))))))
theorem ok_M_copyHair (a1 : Int) (σ : Sg) : MC l Km Pm yX12_copyHair cX12_copyHair 3 0 4 [.inr (.inr 0), .inl a1] σ (M_copyHair a1 σ) := by
  refine mc_of (by decide) (Nat.le_of_ble_eq_true rfl) ?_
  change G l Km Pm RX12 cX12_copyHair 3 0 4 0 [some (.inr (.inr 0)), some (.inl a1), none] [] σ (M_copyHair a1 σ)
  unfold M_copyHair
  refine g_aload_n dX12_copyHair_0 rfl rfl ?_
  refine g_iconst dX12_copyHair_1 (by decide) ?_
  refine g_puti fl_RX12_67 km_0 (by decide) dX12_copyHair_2 ?_
  intro s1
  refine g_aload_n dX12_copyHair_5 rfl rfl ?_
  refine g_iconst dX12_copyHair_6 (by decide) ?_
  refine g_puti fl_RX12_70 km_0 (by decide) dX12_copyHair_7 ?_
  intro s2
  refine g_aload_n dX12_copyHair_10 rfl rfl ?_
  refine g_iload_n dX12_copyHair_11 rfl rfl ?_
  refine g_callv3 (st := []) 10 mw_X12_isTray lk_RX12_356 rfl km_0 (ok_M_isTray a1 s2) (Nat.le_of_ble_eq_true rfl) rfl rfl (Nat.le_of_ble_eq_true rfl) dX12_copyHair_12 ?_
  intro r3 s4
  refine g_ifne (tgt := 24) dX12_copyHair_15 (by decide) ?_ ?_
  · refine g_aload_n dX12_copyHair_18 rfl rfl ?_
    refine g_iconst dX12_copyHair_19 (by decide) ?_
    refine g_callv0 (st := []) 10 mw_X12_refuse lk_RX12_325 rfl km_0 (ok_M_refuse 1 s4) (Nat.le_of_ble_eq_true rfl) rfl rfl (Nat.le_of_ble_eq_true rfl) dX12_copyHair_20 ?_
    intro r5 s6
    exact g_iret dX12_copyHair_23
  · refine g_aload_n dX12_copyHair_24 rfl rfl ?_
    refine g_getr' (q := 2) fl_RX12_17 km_0 (by decide) rfl dX12_copyHair_25 ?_
    refine g_iload_n dX12_copyHair_28 rfl rfl ?_
    refine g_iald km_2 dX12_copyHair_29 ?_
    intro x7
    refine g_ifge (tgt := 39) dX12_copyHair_30 (by decide) ?_ ?_
    · refine g_aload_n dX12_copyHair_33 rfl rfl ?_
      refine g_iconst dX12_copyHair_34 (by decide) ?_
      refine g_callv0 (st := []) 10 mw_X12_refuse lk_RX12_325 rfl km_0 (ok_M_refuse 3 s4) (Nat.le_of_ble_eq_true rfl) rfl rfl (Nat.le_of_ble_eq_true rfl) dX12_copyHair_35 ?_
      intro r8 s9
      exact g_iret dX12_copyHair_38
    · refine g_aload_n dX12_copyHair_39 rfl rfl ?_
      refine g_getr' (q := 2) fl_RX12_17 km_0 (by decide) rfl dX12_copyHair_40 ?_
      refine g_iload_n dX12_copyHair_43 rfl rfl ?_
      refine g_iald km_2 dX12_copyHair_44 ?_
      intro x10
      refine g_aload_n dX12_copyHair_45 rfl rfl ?_
      refine g_getr' (q := 5) fl_RX12_35 km_0 (by decide) rfl dX12_copyHair_46 ?_
      refine g_iconst dX12_copyHair_49 (by decide) ?_
      refine g_iald km_5 dX12_copyHair_50 ?_
      intro x11
      refine g_icmpge (tgt := 60) dX12_copyHair_51 (by decide) ?_ ?_
      · refine g_aload_n dX12_copyHair_54 rfl rfl ?_
        refine g_iconst dX12_copyHair_55 (by decide) ?_
        refine g_callv0 (st := []) 10 mw_X12_refuse lk_RX12_325 rfl km_0 (ok_M_refuse 4 s4) (Nat.le_of_ble_eq_true rfl) rfl rfl (Nat.le_of_ble_eq_true rfl) dX12_copyHair_56 ?_
        intro r12 s13
        exact g_iret dX12_copyHair_59
      · refine g_iconst dX12_copyHair_60 (by decide) ?_
        refine g_istore_n (lv' := [some (.inr (.inr 0)), some (.inl a1), some (.inl 0)]) dX12_copyHair_61 rfl (Nat.le_of_ble_eq_true rfl) rfl ?_
        refine (ok_M_copyHair_L62 a1 fu 0 s4)
theorem dX12_strandIs_0 : decode cX12_strandIs 0 = .ok (.aload_n 0, 1) := by decide +kernel
theorem dX12_strandIs_1 : decode cX12_strandIs 1 = .ok (.getfield 35, 3) := by decide +kernel
theorem dX12_strandIs_4 : decode cX12_strandIs 4 = .ok (.bipush 43, 2) := by decide +kernel
theorem dX12_strandIs_6 : decode cX12_strandIs 6 = .ok (.iload_n 1, 1) := by decide +kernel
theorem dX12_strandIs_7 : decode cX12_strandIs 7 = .ok (.iadd, 1) := by decide +kernel
theorem dX12_strandIs_8 : decode cX12_strandIs 8 = .ok (.dup2, 1) := by decide +kernel
theorem dX12_strandIs_9 : decode cX12_strandIs 9 = .ok (.iaload, 1) := by decide +kernel
theorem dX12_strandIs_10 : decode cX12_strandIs 10 = .ok (.iconst 1, 1) := by decide +kernel
theorem dX12_strandIs_11 : decode cX12_strandIs 11 = .ok (.iload_n 2, 1) := by decide +kernel
theorem dX12_strandIs_12 : decode cX12_strandIs 12 = .ok (.ishl, 1) := by decide +kernel
theorem dX12_strandIs_13 : decode cX12_strandIs 13 = .ok (.ior, 1) := by decide +kernel
theorem dX12_strandIs_14 : decode cX12_strandIs 14 = .ok (.iastore, 1) := by decide +kernel
theorem dX12_strandIs_15 : decode cX12_strandIs 15 = .ok (.aload_n 0, 1) := by decide +kernel
theorem dX12_strandIs_16 : decode cX12_strandIs 16 = .ok (.getfield 35, 3) := by decide +kernel
theorem dX12_strandIs_19 : decode cX12_strandIs 19 = .ok (.bipush 49, 2) := by decide +kernel
theorem dX12_strandIs_21 : decode cX12_strandIs 21 = .ok (.bipush 8, 2) := by decide +kernel
theorem dX12_strandIs_23 : decode cX12_strandIs 23 = .ok (.iload_n 1, 1) := by decide +kernel
theorem dX12_strandIs_24 : decode cX12_strandIs 24 = .ok (.imul, 1) := by decide +kernel
theorem dX12_strandIs_25 : decode cX12_strandIs 25 = .ok (.iadd, 1) := by decide +kernel
theorem dX12_strandIs_26 : decode cX12_strandIs 26 = .ok (.iload_n 2, 1) := by decide +kernel
theorem dX12_strandIs_27 : decode cX12_strandIs 27 = .ok (.iadd, 1) := by decide +kernel
theorem dX12_strandIs_28 : decode cX12_strandIs 28 = .ok (.iconst 0, 1) := by decide +kernel
theorem dX12_strandIs_29 : decode cX12_strandIs 29 = .ok (.iastore, 1) := by decide +kernel
theorem dX12_strandIs_30 : decode cX12_strandIs 30 = .ok (.aload_n 0, 1) := by decide +kernel
theorem dX12_strandIs_31 : decode cX12_strandIs 31 = .ok (.getfield 35, 3) := by decide +kernel
theorem dX12_strandIs_34 : decode cX12_strandIs 34 = .ok (.bipush 97, 2) := by decide +kernel
theorem dX12_strandIs_36 : decode cX12_strandIs 36 = .ok (.bipush 8, 2) := by decide +kernel
theorem dX12_strandIs_38 : decode cX12_strandIs 38 = .ok (.iload_n 1, 1) := by decide +kernel
theorem dX12_strandIs_39 : decode cX12_strandIs 39 = .ok (.imul, 1) := by decide +kernel
theorem dX12_strandIs_40 : decode cX12_strandIs 40 = .ok (.iadd, 1) := by decide +kernel
theorem dX12_strandIs_41 : decode cX12_strandIs 41 = .ok (.iload_n 2, 1) := by decide +kernel
theorem dX12_strandIs_42 : decode cX12_strandIs 42 = .ok (.iadd, 1) := by decide +kernel
theorem dX12_strandIs_43 : decode cX12_strandIs 43 = .ok (.iconst 0, 1) := by decide +kernel
theorem dX12_strandIs_44 : decode cX12_strandIs 44 = .ok (.iastore, 1) := by decide +kernel
theorem dX12_strandIs_45 : decode cX12_strandIs 45 = .ok (.return_, 1) := by decide +kernel
theorem mw_X12_strandIs : MW yX12_strandIs cX12_strandIs 3 2 2 false := ⟨tm 2098 (by decide +kernel) rfl, tm 249 (by decide +kernel) rfl, by decide, by decide, (by rw [if_neg (by decide)]; exact ⟨tm 2097 (by decide +kernel) rfl, tm 192 (by decide +kernel) rfl⟩)⟩
def M_strandIs (a1 : Int) (a2 : Int) (σ : Sg) : Rs := (rd 2235 (w32 (43 + a1)) (σ 5 (Int.toNat (w32 (43 + a1)))) (fun x1 => (wr 2235 (w32 (43 + a1)) (up_s σ 5 (Int.toNat (w32 (43 + a1))) (or32 x1 (sl32 1 a2))) (fun s2 => (wr 2235 (w32 ((w32 (49 + (w32 (8 * a1)))) + a2)) (up_s s2 5 (Int.toNat (w32 ((w32 (49 + (w32 (8 * a1)))) + a2))) 0) (fun s3 => (wr 2235 (w32 ((w32 (97 + (w32 (8 * a1)))) + a2)) (up_s s3 5 (Int.toNat (w32 ((w32 (97 + (w32 (8 * a1)))) + a2))) 0) (fun s4 => (some (0, s4))))))))))
theorem ok_M_strandIs (a1 : Int) (a2 : Int) (σ : Sg) : MC l Km Pm yX12_strandIs cX12_strandIs 3 2 1 [.inr (.inr 0), .inl a1, .inl a2] σ (M_strandIs a1 a2 σ) := by
  refine mc_of (by decide) (Nat.le_of_ble_eq_true rfl) ?_
  change G l Km Pm RX12 cX12_strandIs 3 2 1 0 [some (.inr (.inr 0)), some (.inl a1), some (.inl a2)] [] σ (M_strandIs a1 a2 σ)
  unfold M_strandIs
  refine g_aload_n dX12_strandIs_0 rfl rfl ?_
  refine g_getr' (q := 5) fl_RX12_35 km_0 (by decide) rfl dX12_strandIs_1 ?_
  refine g_bipush dX12_strandIs_4 (by decide) ?_
  refine g_iload_n dX12_strandIs_6 rfl rfl ?_
  refine g_iadd dX12_strandIs_7 ?_
  refine g_dup2 dX12_strandIs_8 rfl rfl ?_
  refine g_iald km_5 dX12_strandIs_9 ?_
  intro x1
  refine g_iconst dX12_strandIs_10 (by decide) ?_
  refine g_iload_n dX12_strandIs_11 rfl rfl ?_
  refine g_ishl dX12_strandIs_12 ?_
  refine g_ior dX12_strandIs_13 ?_
  refine g_iast km_5 dX12_strandIs_14 ?_
  intro s2
  refine g_aload_n dX12_strandIs_15 rfl rfl ?_
  refine g_getr' (q := 5) fl_RX12_35 km_0 (by decide) rfl dX12_strandIs_16 ?_
  refine g_bipush dX12_strandIs_19 (by decide) ?_
  refine g_bipush dX12_strandIs_21 (by decide) ?_
  refine g_iload_n dX12_strandIs_23 rfl rfl ?_
  refine g_imul dX12_strandIs_24 ?_
  refine g_iadd dX12_strandIs_25 ?_
  refine g_iload_n dX12_strandIs_26 rfl rfl ?_
  refine g_iadd dX12_strandIs_27 ?_
  refine g_iconst dX12_strandIs_28 (by decide) ?_
  refine g_iast km_5 dX12_strandIs_29 ?_
  intro s3
  refine g_aload_n dX12_strandIs_30 rfl rfl ?_
  refine g_getr' (q := 5) fl_RX12_35 km_0 (by decide) rfl dX12_strandIs_31 ?_
  refine g_bipush dX12_strandIs_34 (by decide) ?_
  refine g_bipush dX12_strandIs_36 (by decide) ?_
  refine g_iload_n dX12_strandIs_38 rfl rfl ?_
  refine g_imul dX12_strandIs_39 ?_
  refine g_iadd dX12_strandIs_40 ?_
  refine g_iload_n dX12_strandIs_41 rfl rfl ?_
  refine g_iadd dX12_strandIs_42 ?_
  refine g_iconst dX12_strandIs_43 (by decide) ?_
  refine g_iast km_5 dX12_strandIs_44 ?_
  intro s4
  exact g_vret dX12_strandIs_45
theorem dX12_cuts_0 : decode cX12_cuts 0 = .ok (.iload_n 1, 1) := by decide +kernel
theorem dX12_cuts_1 : decode cX12_cuts 1 = .ok (.iload_n 2, 1) := by decide +kernel
theorem dX12_cuts_2 : decode cX12_cuts 2 = .ok (.if_icmp .eq 15, 3) := by decide +kernel
theorem dX12_cuts_5 : decode cX12_cuts 5 = .ok (.aload_n 0, 1) := by decide +kernel
theorem dX12_cuts_6 : decode cX12_cuts 6 = .ok (.getfield 35, 3) := by decide +kernel
theorem dX12_cuts_9 : decode cX12_cuts 9 = .ok (.bipush 31, 2) := by decide +kernel
theorem dX12_cuts_11 : decode cX12_cuts 11 = .ok (.iload_n 2, 1) := by decide +kernel
theorem dX12_cuts_12 : decode cX12_cuts 12 = .ok (.iadd, 1) := by decide +kernel
theorem dX12_cuts_13 : decode cX12_cuts 13 = .ok (.iaload, 1) := by decide +kernel
theorem dX12_cuts_14 : decode cX12_cuts 14 = .ok (.ifCond .ne 5, 3) := by decide +kernel
theorem dX12_cuts_17 : decode cX12_cuts 17 = .ok (.iconst (-1), 1) := by decide +kernel
theorem dX12_cuts_18 : decode cX12_cuts 18 = .ok (.ireturn, 1) := by decide +kernel
theorem dX12_cuts_19 : decode cX12_cuts 19 = .ok (.iconst 0, 1) := by decide +kernel
theorem dX12_cuts_20 : decode cX12_cuts 20 = .ok (.istore_n 3, 1) := by decide +kernel
theorem dX12_cuts_21 : decode cX12_cuts 21 = .ok (.iconst 0, 1) := by decide +kernel
theorem dX12_cuts_22 : decode cX12_cuts 22 = .ok (.istore 4, 2) := by decide +kernel
theorem dX12_cuts_24 : decode cX12_cuts 24 = .ok (.iload 4, 2) := by decide +kernel
theorem dX12_cuts_26 : decode cX12_cuts 26 = .ok (.aload_n 0, 1) := by decide +kernel
theorem dX12_cuts_27 : decode cX12_cuts 27 = .ok (.getfield 35, 3) := by decide +kernel
theorem dX12_cuts_30 : decode cX12_cuts 30 = .ok (.iconst 0, 1) := by decide +kernel
theorem dX12_cuts_31 : decode cX12_cuts 31 = .ok (.iaload, 1) := by decide +kernel
theorem dX12_cuts_32 : decode cX12_cuts 32 = .ok (.if_icmp .ge 79, 3) := by decide +kernel
theorem dX12_cuts_35 : decode cX12_cuts 35 = .ok (.aload_n 0, 1) := by decide +kernel
theorem dX12_cuts_36 : decode cX12_cuts 36 = .ok (.iload_n 1, 1) := by decide +kernel
theorem dX12_cuts_37 : decode cX12_cuts 37 = .ok (.iload 4, 2) := by decide +kernel
theorem dX12_cuts_39 : decode cX12_cuts 39 = .ok (.invokevirtual 317, 3) := by decide +kernel
theorem dX12_cuts_42 : decode cX12_cuts 42 = .ok (.ifCond .ne 6, 3) := by decide +kernel
theorem dX12_cuts_45 : decode cX12_cuts 45 = .ok (.goto 60, 3) := by decide +kernel
theorem dX12_cuts_48 : decode cX12_cuts 48 = .ok (.aload_n 0, 1) := by decide +kernel
theorem dX12_cuts_49 : decode cX12_cuts 49 = .ok (.getfield 35, 3) := by decide +kernel
theorem dX12_cuts_52 : decode cX12_cuts 52 = .ok (.bipush 49, 2) := by decide +kernel
theorem dX12_cuts_54 : decode cX12_cuts 54 = .ok (.bipush 8, 2) := by decide +kernel
theorem dX12_cuts_56 : decode cX12_cuts 56 = .ok (.iload_n 1, 1) := by decide +kernel
theorem dX12_cuts_57 : decode cX12_cuts 57 = .ok (.imul, 1) := by decide +kernel
theorem dX12_cuts_58 : decode cX12_cuts 58 = .ok (.iadd, 1) := by decide +kernel
theorem dX12_cuts_59 : decode cX12_cuts 59 = .ok (.iload 4, 2) := by decide +kernel
theorem dX12_cuts_61 : decode cX12_cuts 61 = .ok (.iadd, 1) := by decide +kernel
theorem dX12_cuts_62 : decode cX12_cuts 62 = .ok (.iaload, 1) := by decide +kernel
theorem dX12_cuts_63 : decode cX12_cuts 63 = .ok (.aload_n 0, 1) := by decide +kernel
theorem dX12_cuts_64 : decode cX12_cuts 64 = .ok (.getfield 35, 3) := by decide +kernel
theorem dX12_cuts_67 : decode cX12_cuts 67 = .ok (.iconst 4, 1) := by decide +kernel
theorem dX12_cuts_68 : decode cX12_cuts 68 = .ok (.iaload, 1) := by decide +kernel
theorem dX12_cuts_69 : decode cX12_cuts 69 = .ok (.if_icmp .lt 20, 3) := by decide +kernel
theorem dX12_cuts_72 : decode cX12_cuts 72 = .ok (.aload_n 0, 1) := by decide +kernel
theorem dX12_cuts_73 : decode cX12_cuts 73 = .ok (.iload_n 2, 1) := by decide +kernel
theorem dX12_cuts_74 : decode cX12_cuts 74 = .ok (.iload 4, 2) := by decide +kernel
theorem dX12_cuts_76 : decode cX12_cuts 76 = .ok (.invokevirtual 366, 3) := by decide +kernel
theorem dX12_cuts_79 : decode cX12_cuts 79 = .ok (.ifCond .ne 10, 3) := by decide +kernel
theorem dX12_cuts_82 : decode cX12_cuts 82 = .ok (.iload_n 3, 1) := by decide +kernel
theorem dX12_cuts_83 : decode cX12_cuts 83 = .ok (.iconst 1, 1) := by decide +kernel
theorem dX12_cuts_84 : decode cX12_cuts 84 = .ok (.iload 4, 2) := by decide +kernel
theorem dX12_cuts_86 : decode cX12_cuts 86 = .ok (.ishl, 1) := by decide +kernel
theorem dX12_cuts_87 : decode cX12_cuts 87 = .ok (.ior, 1) := by decide +kernel
theorem dX12_cuts_88 : decode cX12_cuts 88 = .ok (.istore_n 3, 1) := by decide +kernel
theorem dX12_cuts_89 : decode cX12_cuts 89 = .ok (.aload_n 0, 1) := by decide +kernel
theorem dX12_cuts_90 : decode cX12_cuts 90 = .ok (.getfield 35, 3) := by decide +kernel
theorem dX12_cuts_93 : decode cX12_cuts 93 = .ok (.bipush 49, 2) := by decide +kernel
theorem dX12_cuts_95 : decode cX12_cuts 95 = .ok (.bipush 8, 2) := by decide +kernel
theorem dX12_cuts_97 : decode cX12_cuts 97 = .ok (.iload_n 1, 1) := by decide +kernel
theorem dX12_cuts_98 : decode cX12_cuts 98 = .ok (.imul, 1) := by decide +kernel
theorem dX12_cuts_99 : decode cX12_cuts 99 = .ok (.iadd, 1) := by decide +kernel
theorem dX12_cuts_100 : decode cX12_cuts 100 = .ok (.iload 4, 2) := by decide +kernel
theorem dX12_cuts_102 : decode cX12_cuts 102 = .ok (.iadd, 1) := by decide +kernel
theorem dX12_cuts_103 : decode cX12_cuts 103 = .ok (.iconst 0, 1) := by decide +kernel
theorem dX12_cuts_104 : decode cX12_cuts 104 = .ok (.iastore, 1) := by decide +kernel
theorem dX12_cuts_105 : decode cX12_cuts 105 = .ok (.iinc 4 1, 3) := by decide +kernel
theorem dX12_cuts_108 : decode cX12_cuts 108 = .ok (.goto (-84), 3) := by decide +kernel
theorem dX12_cuts_111 : decode cX12_cuts 111 = .ok (.aload_n 0, 1) := by decide +kernel
theorem dX12_cuts_112 : decode cX12_cuts 112 = .ok (.getfield 35, 3) := by decide +kernel
theorem dX12_cuts_115 : decode cX12_cuts 115 = .ok (.bipush 37, 2) := by decide +kernel
theorem dX12_cuts_117 : decode cX12_cuts 117 = .ok (.iload_n 2, 1) := by decide +kernel
theorem dX12_cuts_118 : decode cX12_cuts 118 = .ok (.iadd, 1) := by decide +kernel
theorem dX12_cuts_119 : decode cX12_cuts 119 = .ok (.dup2, 1) := by decide +kernel
theorem dX12_cuts_120 : decode cX12_cuts 120 = .ok (.iaload, 1) := by decide +kernel
theorem dX12_cuts_121 : decode cX12_cuts 121 = .ok (.iload_n 3, 1) := by decide +kernel
theorem dX12_cuts_122 : decode cX12_cuts 122 = .ok (.ior, 1) := by decide +kernel
theorem dX12_cuts_123 : decode cX12_cuts 123 = .ok (.iastore, 1) := by decide +kernel
theorem dX12_cuts_124 : decode cX12_cuts 124 = .ok (.iconst 0, 1) := by decide +kernel
theorem dX12_cuts_125 : decode cX12_cuts 125 = .ok (.istore 4, 2) := by decide +kernel
theorem dX12_cuts_127 : decode cX12_cuts 127 = .ok (.iload 4, 2) := by decide +kernel
theorem dX12_cuts_129 : decode cX12_cuts 129 = .ok (.aload_n 0, 1) := by decide +kernel
theorem dX12_cuts_130 : decode cX12_cuts 130 = .ok (.getfield 35, 3) := by decide +kernel
theorem dX12_cuts_133 : decode cX12_cuts 133 = .ok (.iconst 0, 1) := by decide +kernel
theorem dX12_cuts_134 : decode cX12_cuts 134 = .ok (.iaload, 1) := by decide +kernel
theorem dX12_cuts_135 : decode cX12_cuts 135 = .ok (.if_icmp .ge 25, 3) := by decide +kernel
theorem dX12_cuts_138 : decode cX12_cuts 138 = .ok (.iload_n 3, 1) := by decide +kernel
theorem dX12_cuts_139 : decode cX12_cuts 139 = .ok (.iload 4, 2) := by decide +kernel
theorem dX12_cuts_141 : decode cX12_cuts 141 = .ok (.invokestatic 106, 3) := by decide +kernel
theorem dX12_cuts_144 : decode cX12_cuts 144 = .ok (.ifCond .eq 10, 3) := by decide +kernel
theorem dX12_cuts_147 : decode cX12_cuts 147 = .ok (.aload_n 0, 1) := by decide +kernel
theorem dX12_cuts_148 : decode cX12_cuts 148 = .ok (.iload_n 2, 1) := by decide +kernel
theorem dX12_cuts_149 : decode cX12_cuts 149 = .ok (.iload 4, 2) := by decide +kernel
theorem dX12_cuts_151 : decode cX12_cuts 151 = .ok (.invokevirtual 384, 3) := by decide +kernel
theorem dX12_cuts_154 : decode cX12_cuts 154 = .ok (.iinc 4 1, 3) := by decide +kernel
theorem dX12_cuts_157 : decode cX12_cuts 157 = .ok (.goto (-30), 3) := by decide +kernel
theorem dX12_cuts_160 : decode cX12_cuts 160 = .ok (.aload_n 0, 1) := by decide +kernel
theorem dX12_cuts_161 : decode cX12_cuts 161 = .ok (.getfield 35, 3) := by decide +kernel
theorem dX12_cuts_164 : decode cX12_cuts 164 = .ok (.bipush 8, 2) := by decide +kernel
theorem dX12_cuts_166 : decode cX12_cuts 166 = .ok (.dup2, 1) := by decide +kernel
theorem dX12_cuts_167 : decode cX12_cuts 167 = .ok (.iaload, 1) := by decide +kernel
theorem dX12_cuts_168 : decode cX12_cuts 168 = .ok (.iconst 1, 1) := by decide +kernel
theorem dX12_cuts_169 : decode cX12_cuts 169 = .ok (.iadd, 1) := by decide +kernel
theorem dX12_cuts_170 : decode cX12_cuts 170 = .ok (.iastore, 1) := by decide +kernel
theorem dX12_cuts_171 : decode cX12_cuts 171 = .ok (.iload_n 3, 1) := by decide +kernel
theorem dX12_cuts_172 : decode cX12_cuts 172 = .ok (.ireturn, 1) := by decide +kernel
theorem mw_X12_cuts : MW yX12_cuts cX12_cuts 5 0 2 false := ⟨tm 2113 (by decide +kernel) rfl, tm 249 (by decide +kernel) rfl, by decide, by decide, (by rw [if_neg (by decide)]; exact ⟨tm 2112 (by decide +kernel) rfl, tm 193 (by decide +kernel) rfl⟩)⟩
theorem lk_RX12_384 : LK RX12 384 yX12_strandIs := Or.inl (tm 2095 (by decide +kernel) rfl)
def M_cuts_L24 (a1 : Int) (a2 : Int) (k127 : Int → Int → Sg → Rs) : Nat → Int → Int → Sg → Rs
  | 0, _, _, _ => none
  | n + 1, v3, v4, σ => (rd 2235 0 (σ 5 (Int.toNat 0)) (fun x2 => (if v4 < x2 then (bd (M_keeps a1 v4 σ) (fun r3 s4 => (if r3 = 0 then (nm (w32 (v4 + 1)) (fun x5 => (M_cuts_L24 a1 a2 k127 n v3 x5 s4))) else (rd 2235 (w32 ((w32 (49 + (w32 (8 * a1)))) + v4)) (s4 5 (Int.toNat (w32 ((w32 (49 + (w32 (8 * a1)))) + v4)))) (fun x6 => (rd 2235 4 (s4 5 (Int.toNat 4)) (fun x7 => (if x6 < x7 then (wr 2235 (w32 ((w32 (49 + (w32 (8 * a1)))) + v4)) (up_s s4 5 (Int.toNat (w32 ((w32 (49 + (w32 (8 * a1)))) + v4))) 0) (fun s8 => (nm (w32 (v4 + 1)) (fun x9 => (M_cuts_L24 a1 a2 k127 n v3 x9 s8))))) else (bd (M_knows a2 v4 s4) (fun r10 s11 => (if r10 = 0 then (nm (or32 v3 (sl32 1 v4)) (fun x12 => (wr 2235 (w32 ((w32 (49 + (w32 (8 * a1)))) + v4)) (up_s s11 5 (Int.toNat (w32 ((w32 (49 + (w32 (8 * a1)))) + v4))) 0) (fun s13 => (nm (w32 (v4 + 1)) (fun x14 => (M_cuts_L24 a1 a2 k127 n x12 x14 s13))))))) else (wr 2235 (w32 ((w32 (49 + (w32 (8 * a1)))) + v4)) (up_s s11 5 (Int.toNat (w32 ((w32 (49 + (w32 (8 * a1)))) + v4))) 0) (fun s15 => (nm (w32 (v4 + 1)) (fun x16 => (M_cuts_L24 a1 a2 k127 n v3 x16 s15)))))))))))))))) else (rd 2235 (w32 (37 + a2)) (σ 5 (Int.toNat (w32 (37 + a2)))) (fun x17 => (wr 2235 (w32 (37 + a2)) (up_s σ 5 (Int.toNat (w32 (37 + a2))) (or32 x17 v3)) (fun s18 => (k127 v3 0 s18))))))))
theorem ok_M_cuts_L24 (a1 : Int) (a2 : Int) (k127 : Int → Int → Sg → Rs) (hk127 : ∀ (y3 y4 : Int) (σ : Sg), G l Km Pm RX12 cX12_cuts 5 0 3 127 [some (.inr (.inr 0)), none, some (.inl a2), some (.inl y3), some (.inl y4)] [] σ (k127 y3 y4 σ)) : ∀ (n : Nat) (v3 v4 : Int) (σ : Sg), G l Km Pm RX12 cX12_cuts 5 0 3 24 [some (.inr (.inr 0)), some (.inl a1), some (.inl a2), some (.inl v3), some (.inl v4)] [] σ (M_cuts_L24 a1 a2 k127 n v3 v4 σ) := by
  intro n
  induction n with
  | zero => intros; exact G.none_
  | succ n ih =>
    intro v3 v4 σ
    rw [M_cuts_L24]
    refine g_iload dX12_cuts_24 rfl ?_
    refine g_aload_n dX12_cuts_26 rfl rfl ?_
    refine g_getr' (q := 5) fl_RX12_35 km_0 (by decide) rfl dX12_cuts_27 ?_
    refine g_iconst dX12_cuts_30 (by decide) ?_
    refine g_iald km_5 dX12_cuts_31 ?_
    intro x2
    refine g_icmpge (tgt := 111) dX12_cuts_32 (by decide) ?_ ?_
    · refine g_aload_n dX12_cuts_35 rfl rfl ?_
      refine g_iload_n dX12_cuts_36 rfl rfl ?_
      refine g_iload dX12_cuts_37 rfl ?_
      refine g_callv3 (st := []) 10 mw_X12_keeps lk_RX12_317 rfl km_0 (ok_M_keeps a1 v4 σ) (Nat.le_of_ble_eq_true rfl) rfl rfl (Nat.le_of_ble_eq_true rfl) dX12_cuts_39 ?_
      intro r3 s4
      refine g_ifne (tgt := 48) dX12_cuts_42 (by decide) ?_ ?_
      · refine g_goto (tgt := 105) dX12_cuts_45 (by decide) ?_
        refine n_iinc (fun x5 => [some (.inr (.inr 0)), some (.inl a1), some (.inl a2), some (.inl v3), some (.inl x5)]) dX12_cuts_105 rfl (Nat.le_of_ble_eq_true rfl) (fun _ => rfl) ?_
        intro x5
        refine g_goto (tgt := 24) dX12_cuts_108 (by decide) ?_
        exact (ih v3 x5 s4)
      · refine g_aload_n dX12_cuts_48 rfl rfl ?_
        refine g_getr' (q := 5) fl_RX12_35 km_0 (by decide) rfl dX12_cuts_49 ?_
        refine g_bipush dX12_cuts_52 (by decide) ?_
        refine g_bipush dX12_cuts_54 (by decide) ?_
        refine g_iload_n dX12_cuts_56 rfl rfl ?_
        refine g_imul dX12_cuts_57 ?_
        refine g_iadd dX12_cuts_58 ?_
        refine g_iload dX12_cuts_59 rfl ?_
        refine g_iadd dX12_cuts_61 ?_
        refine g_iald km_5 dX12_cuts_62 ?_
        intro x6
        refine g_aload_n dX12_cuts_63 rfl rfl ?_
        refine g_getr' (q := 5) fl_RX12_35 km_0 (by decide) rfl dX12_cuts_64 ?_
        refine g_iconst dX12_cuts_67 (by decide) ?_
        refine g_iald km_5 dX12_cuts_68 ?_
        intro x7
        refine g_icmplt (tgt := 89) dX12_cuts_69 (by decide) ?_ ?_
        · refine g_aload_n dX12_cuts_89 rfl rfl ?_
          refine g_getr' (q := 5) fl_RX12_35 km_0 (by decide) rfl dX12_cuts_90 ?_
          refine g_bipush dX12_cuts_93 (by decide) ?_
          refine g_bipush dX12_cuts_95 (by decide) ?_
          refine g_iload_n dX12_cuts_97 rfl rfl ?_
          refine g_imul dX12_cuts_98 ?_
          refine g_iadd dX12_cuts_99 ?_
          refine g_iload dX12_cuts_100 rfl ?_
          refine g_iadd dX12_cuts_102 ?_
          refine g_iconst dX12_cuts_103 (by decide) ?_
          refine g_iast km_5 dX12_cuts_104 ?_
          intro s8
          refine n_iinc (fun x9 => [some (.inr (.inr 0)), some (.inl a1), some (.inl a2), some (.inl v3), some (.inl x9)]) dX12_cuts_105 rfl (Nat.le_of_ble_eq_true rfl) (fun _ => rfl) ?_
          intro x9
          refine g_goto (tgt := 24) dX12_cuts_108 (by decide) ?_
          exact (ih v3 x9 s8)
        · refine g_aload_n dX12_cuts_72 rfl rfl ?_
          refine g_iload_n dX12_cuts_73 rfl rfl ?_
          refine g_iload dX12_cuts_74 rfl ?_
          refine g_callv3 (st := []) 10 mw_X12_knows lk_RX12_366 rfl km_0 (ok_M_knows a2 v4 s4) (Nat.le_of_ble_eq_true rfl) rfl rfl (Nat.le_of_ble_eq_true rfl) dX12_cuts_76 ?_
          intro r10 s11
          refine g_ifne (tgt := 89) dX12_cuts_79 (by decide) ?_ ?_
          · refine g_iload_n dX12_cuts_82 rfl rfl ?_
            refine g_iconst dX12_cuts_83 (by decide) ?_
            refine g_iload dX12_cuts_84 rfl ?_
            refine g_ishl dX12_cuts_86 ?_
            refine g_ior dX12_cuts_87 ?_
            refine n_istore_n (fun x12 => [some (.inr (.inr 0)), some (.inl a1), some (.inl a2), some (.inl x12), some (.inl v4)]) dX12_cuts_88 rfl (Nat.le_of_ble_eq_true rfl) (fun _ => rfl) ?_
            intro x12
            refine g_aload_n dX12_cuts_89 rfl rfl ?_
            refine g_getr' (q := 5) fl_RX12_35 km_0 (by decide) rfl dX12_cuts_90 ?_
            refine g_bipush dX12_cuts_93 (by decide) ?_
            refine g_bipush dX12_cuts_95 (by decide) ?_
            refine g_iload_n dX12_cuts_97 rfl rfl ?_
            refine g_imul dX12_cuts_98 ?_
            refine g_iadd dX12_cuts_99 ?_
            refine g_iload dX12_cuts_100 rfl ?_
            refine g_iadd dX12_cuts_102 ?_
            refine g_iconst dX12_cuts_103 (by decide) ?_
            refine g_iast km_5 dX12_cuts_104 ?_
            intro s13
            refine n_iinc (fun x14 => [some (.inr (.inr 0)), some (.inl a1), some (.inl a2), some (.inl x12), some (.inl x14)]) dX12_cuts_105 rfl (Nat.le_of_ble_eq_true rfl) (fun _ => rfl) ?_
            intro x14
            refine g_goto (tgt := 24) dX12_cuts_108 (by decide) ?_
            exact (ih x12 x14 s13)
          · refine g_aload_n dX12_cuts_89 rfl rfl ?_
            refine g_getr' (q := 5) fl_RX12_35 km_0 (by decide) rfl dX12_cuts_90 ?_
            refine g_bipush dX12_cuts_93 (by decide) ?_
            refine g_bipush dX12_cuts_95 (by decide) ?_
            refine g_iload_n dX12_cuts_97 rfl rfl ?_
            refine g_imul dX12_cuts_98 ?_
            refine g_iadd dX12_cuts_99 ?_
            refine g_iload dX12_cuts_100 rfl ?_
            refine g_iadd dX12_cuts_102 ?_
            refine g_iconst dX12_cuts_103 (by decide) ?_
            refine g_iast km_5 dX12_cuts_104 ?_
            intro s15
            refine n_iinc (fun x16 => [some (.inr (.inr 0)), some (.inl a1), some (.inl a2), some (.inl v3), some (.inl x16)]) dX12_cuts_105 rfl (Nat.le_of_ble_eq_true rfl) (fun _ => rfl) ?_
            intro x16
            refine g_goto (tgt := 24) dX12_cuts_108 (by decide) ?_
            exact (ih v3 x16 s15)
    · refine g_aload_n dX12_cuts_111 rfl rfl ?_
      refine g_getr' (q := 5) fl_RX12_35 km_0 (by decide) rfl dX12_cuts_112 ?_
      refine g_bipush dX12_cuts_115 (by decide) ?_
      refine g_iload_n dX12_cuts_117 rfl rfl ?_
      refine g_iadd dX12_cuts_118 ?_
      refine g_dup2 dX12_cuts_119 rfl rfl ?_
      refine g_iald km_5 dX12_cuts_120 ?_
      intro x17
      refine g_iload_n dX12_cuts_121 rfl rfl ?_
      refine g_ior dX12_cuts_122 ?_
      refine g_iast km_5 dX12_cuts_123 ?_
      intro s18
      refine g_iconst dX12_cuts_124 (by decide) ?_
      refine g_istore (lv' := [some (.inr (.inr 0)), some (.inl a1), some (.inl a2), some (.inl v3), some (.inl 0)]) dX12_cuts_125 (Nat.le_of_ble_eq_true rfl) rfl ?_
      exact (g_weak [true, false, true, true, true] (hk127 v3 0 s18))
def M_cuts_L127 (a2 : Int) (v3 : Int) : Nat → Int → Sg → Rs
  | 0, _, _ => none
  | n + 1, v4, σ => (rd 2235 0 (σ 5 (Int.toNat 0)) (fun x22 => (if v4 < x22 then (bd (M_has v3 v4 σ) (fun r23 s24 => (if r23 = 0 then (nm (w32 (v4 + 1)) (fun x25 => (M_cuts_L127 a2 v3 n x25 s24))) else (bd (M_strandIs a2 v4 s24) (fun r26 s27 => (nm (w32 (v4 + 1)) (fun x28 => (M_cuts_L127 a2 v3 n x28 s27)))))))) else (rd 2235 8 (σ 5 (Int.toNat 8)) (fun x29 => (wr 2235 8 (up_s σ 5 (Int.toNat 8) (w32 (x29 + 1))) (fun s30 => (some (v3, s30)))))))))
theorem ok_M_cuts_L127 (a2 : Int) (v3 : Int) : ∀ (n : Nat) (v4 : Int) (σ : Sg), G l Km Pm RX12 cX12_cuts 5 0 3 127 [some (.inr (.inr 0)), none, some (.inl a2), some (.inl v3), some (.inl v4)] [] σ (M_cuts_L127 a2 v3 n v4 σ) := by
  intro n
  induction n with
  | zero => intros; exact G.none_
  | succ n ih =>
    intro v4 σ
    rw [M_cuts_L127]
    refine g_iload dX12_cuts_127 rfl ?_
    refine g_aload_n dX12_cuts_129 rfl rfl ?_
    refine g_getr' (q := 5) fl_RX12_35 km_0 (by decide) rfl dX12_cuts_130 ?_
    refine g_iconst dX12_cuts_133 (by decide) ?_
    refine g_iald km_5 dX12_cuts_134 ?_
    intro x22
    refine g_icmpge (tgt := 160) dX12_cuts_135 (by decide) ?_ ?_
    · refine g_iload_n dX12_cuts_138 rfl rfl ?_
      refine g_iload dX12_cuts_139 rfl ?_
      refine g_calls3 (st := []) mw_X12_has lk_RX12_106 (ok_M_has v3 v4 σ) (Nat.le_of_ble_eq_true rfl) rfl rfl (Nat.le_of_ble_eq_true rfl) dX12_cuts_141 ?_
      intro r23 s24
      refine g_ifeq (tgt := 154) dX12_cuts_144 (by decide) ?_ ?_
      · refine n_iinc (fun x25 => [some (.inr (.inr 0)), none, some (.inl a2), some (.inl v3), some (.inl x25)]) dX12_cuts_154 rfl (Nat.le_of_ble_eq_true rfl) (fun _ => rfl) ?_
        intro x25
        refine g_goto (tgt := 127) dX12_cuts_157 (by decide) ?_
        exact (ih x25 s24)
      · refine g_aload_n dX12_cuts_147 rfl rfl ?_
        refine g_iload_n dX12_cuts_148 rfl rfl ?_
        refine g_iload dX12_cuts_149 rfl ?_
        refine g_callv2 (st := []) 10 mw_X12_strandIs lk_RX12_384 rfl km_0 (ok_M_strandIs a2 v4 s24) (Nat.le_of_ble_eq_true rfl) rfl rfl (Nat.le_of_ble_eq_true rfl) dX12_cuts_151 ?_
        intro r26 s27
        refine n_iinc (fun x28 => [some (.inr (.inr 0)), none, some (.inl a2), some (.inl v3), some (.inl x28)]) dX12_cuts_154 rfl (Nat.le_of_ble_eq_true rfl) (fun _ => rfl) ?_
        intro x28
        refine g_goto (tgt := 127) dX12_cuts_157 (by decide) ?_
        exact (ih x28 s27)
    · refine g_aload_n dX12_cuts_160 rfl rfl ?_
      refine g_getr' (q := 5) fl_RX12_35 km_0 (by decide) rfl dX12_cuts_161 ?_
      refine g_bipush dX12_cuts_164 (by decide) ?_
      refine g_dup2 dX12_cuts_166 rfl rfl ?_
      refine g_iald km_5 dX12_cuts_167 ?_
      intro x29
      refine g_iconst dX12_cuts_168 (by decide) ?_
      refine g_iadd dX12_cuts_169 ?_
      refine g_iast km_5 dX12_cuts_170 ?_
      intro s30
      refine g_iload_n dX12_cuts_171 rfl rfl ?_
      exact g_iret dX12_cuts_172
def M_cuts (a1 : Int) (a2 : Int) (σ : Sg) : Rs := (if a1 = a2 then (some ((-1), σ)) else (rd 2235 (w32 (31 + a2)) (σ 5 (Int.toNat (w32 (31 + a2)))) (fun x1 => (if x1 = 0 then (some ((-1), σ)) else (M_cuts_L24 a1 a2 (fun x19 x20 s21 => (M_cuts_L127 a2 x19 fu x20 s21)) fu 0 0 σ)))))
theorem ok_M_cuts (a1 : Int) (a2 : Int) (σ : Sg) : MC l Km Pm yX12_cuts cX12_cuts 5 0 3 [.inr (.inr 0), .inl a1, .inl a2] σ (M_cuts a1 a2 σ) := by
  refine mc_of (by decide) (Nat.le_of_ble_eq_true rfl) ?_
  change G l Km Pm RX12 cX12_cuts 5 0 3 0 [some (.inr (.inr 0)), some (.inl a1), some (.inl a2), none, none] [] σ (M_cuts a1 a2 σ)
  unfold M_cuts
  refine g_iload_n dX12_cuts_0 rfl rfl ?_
  refine g_iload_n dX12_cuts_1 rfl rfl ?_
  refine g_icmpeq (tgt := 17) dX12_cuts_2 (by decide) ?_ ?_
  · refine g_iconst dX12_cuts_17 (by decide) ?_
    exact g_iret dX12_cuts_18
  · refine g_aload_n dX12_cuts_5 rfl rfl ?_
    refine g_getr' (q := 5) fl_RX12_35 km_0 (by decide) rfl dX12_cuts_6 ?_
    refine g_bipush dX12_cuts_9 (by decide) ?_
    refine g_iload_n dX12_cuts_11 rfl rfl ?_
    refine g_iadd dX12_cuts_12 ?_
    refine g_iald km_5 dX12_cuts_13 ?_
    intro x1
    refine g_ifne (tgt := 19) dX12_cuts_14 (by decide) ?_ ?_
    · refine g_iconst dX12_cuts_17 (by decide) ?_
      exact g_iret dX12_cuts_18
    · refine g_iconst dX12_cuts_19 (by decide) ?_
      refine g_istore_n (lv' := [some (.inr (.inr 0)), some (.inl a1), some (.inl a2), some (.inl 0), none]) dX12_cuts_20 rfl (Nat.le_of_ble_eq_true rfl) rfl ?_
      refine g_iconst dX12_cuts_21 (by decide) ?_
      refine g_istore (lv' := [some (.inr (.inr 0)), some (.inl a1), some (.inl a2), some (.inl 0), some (.inl 0)]) dX12_cuts_22 (Nat.le_of_ble_eq_true rfl) rfl ?_
      refine (ok_M_cuts_L24 a1 a2 _ ?_ fu 0 0 σ)
      · intro x19 x20 s21
        refine (ok_M_cuts_L127 a2 x19 fu x20 s21)
theorem dX12_isPersonAt_0 : decode cX12_isPersonAt 0 = .ok (.iload_n 1, 1) := by decide +kernel
theorem dX12_isPersonAt_1 : decode cX12_isPersonAt 1 = .ok (.i2l, 1) := by decide +kernel
theorem dX12_isPersonAt_2 : decode cX12_isPersonAt 2 = .ok (.lconst 0, 1) := by decide +kernel
theorem dX12_isPersonAt_3 : decode cX12_isPersonAt 3 = .ok (.aload_n 0, 1) := by decide +kernel
theorem dX12_isPersonAt_4 : decode cX12_isPersonAt 4 = .ok (.getfield 35, 3) := by decide +kernel
theorem dX12_isPersonAt_7 : decode cX12_isPersonAt 7 = .ok (.iconst 1, 1) := by decide +kernel
theorem dX12_isPersonAt_8 : decode cX12_isPersonAt 8 = .ok (.iaload, 1) := by decide +kernel
theorem dX12_isPersonAt_9 : decode cX12_isPersonAt 9 = .ok (.iconst 1, 1) := by decide +kernel
theorem dX12_isPersonAt_10 : decode cX12_isPersonAt 10 = .ok (.isub, 1) := by decide +kernel
theorem dX12_isPersonAt_11 : decode cX12_isPersonAt 11 = .ok (.i2l, 1) := by decide +kernel
theorem dX12_isPersonAt_12 : decode cX12_isPersonAt 12 = .ok (.invokestatic 102, 3) := by decide +kernel
theorem dX12_isPersonAt_15 : decode cX12_isPersonAt 15 = .ok (.ireturn, 1) := by decide +kernel
theorem mw_X12_isPersonAt : MW yX12_isPersonAt cX12_isPersonAt 2 3 1 false := ⟨tm 2025 (by decide +kernel) rfl, tm 249 (by decide +kernel) rfl, by decide, by decide, (by rw [if_neg (by decide)]; exact ⟨tm 2024 (by decide +kernel) rfl, tm 182 (by decide +kernel) rfl⟩)⟩
def M_isPersonAt (a1 : Int) (σ : Sg) : Rs := (rd 2235 1 (σ 5 (Int.toNat 1)) (fun x1 => (bd (M_isIn a1 0 (w32 (x1 - 1)) σ) (fun r2 s3 => (zb r2 (some (r2, s3)))))))
theorem ok_M_isPersonAt (a1 : Int) (σ : Sg) : MC l Km Pm yX12_isPersonAt cX12_isPersonAt 2 3 2 [.inr (.inr 0), .inl a1] σ (M_isPersonAt a1 σ) := by
  refine mc_of (by decide) (Nat.le_of_ble_eq_true rfl) ?_
  change G l Km Pm RX12 cX12_isPersonAt 2 3 2 0 [some (.inr (.inr 0)), some (.inl a1)] [] σ (M_isPersonAt a1 σ)
  unfold M_isPersonAt
  refine g_iload_n dX12_isPersonAt_0 rfl rfl ?_
  refine g_i2l dX12_isPersonAt_1 ?_
  refine g_lconst (v := 0) dX12_isPersonAt_2 (by decide) ?_
  refine g_aload_n dX12_isPersonAt_3 rfl rfl ?_
  refine g_getr' (q := 5) fl_RX12_35 km_0 (by decide) rfl dX12_isPersonAt_4 ?_
  refine g_iconst dX12_isPersonAt_7 (by decide) ?_
  refine g_iald km_5 dX12_isPersonAt_8 ?_
  intro x1
  refine g_iconst dX12_isPersonAt_9 (by decide) ?_
  refine g_isub dX12_isPersonAt_10 ?_
  refine g_i2l dX12_isPersonAt_11 ?_
  refine g_calls3 (st := []) mw_X12_isIn lk_RX12_102 (ok_M_isIn a1 0 (w32 (x1 - 1)) σ) (Nat.le_of_ble_eq_true rfl) rfl rfl (Nat.le_of_ble_eq_true rfl) dX12_isPersonAt_12 ?_
  intro r2 s3
  exact g_zret dX12_isPersonAt_15
theorem dX12_cut__0 : decode cX12_cut_ 0 = .ok (.aload_n 0, 1) := by decide +kernel
theorem dX12_cut__1 : decode cX12_cut_ 1 = .ok (.iconst 0, 1) := by decide +kernel
theorem dX12_cut__2 : decode cX12_cut_ 2 = .ok (.putfield 67, 3) := by decide +kernel
theorem dX12_cut__5 : decode cX12_cut_ 5 = .ok (.aload_n 0, 1) := by decide +kernel
theorem dX12_cut__6 : decode cX12_cut_ 6 = .ok (.iconst 0, 1) := by decide +kernel
theorem dX12_cut__7 : decode cX12_cut_ 7 = .ok (.putfield 70, 3) := by decide +kernel
theorem dX12_cut__10 : decode cX12_cut_ 10 = .ok (.aload_n 0, 1) := by decide +kernel
theorem dX12_cut__11 : decode cX12_cut_ 11 = .ok (.iload_n 1, 1) := by decide +kernel
theorem dX12_cut__12 : decode cX12_cut_ 12 = .ok (.invokevirtual 345, 3) := by decide +kernel
theorem dX12_cut__15 : decode cX12_cut_ 15 = .ok (.ifCond .eq 11, 3) := by decide +kernel
theorem dX12_cut__18 : decode cX12_cut_ 18 = .ok (.aload_n 0, 1) := by decide +kernel
theorem dX12_cut__19 : decode cX12_cut_ 19 = .ok (.iload_n 2, 1) := by decide +kernel
theorem dX12_cut__20 : decode cX12_cut_ 20 = .ok (.invokevirtual 345, 3) := by decide +kernel
theorem dX12_cut__23 : decode cX12_cut_ 23 = .ok (.ifCond .ne 9, 3) := by decide +kernel
theorem dX12_cut__26 : decode cX12_cut_ 26 = .ok (.aload_n 0, 1) := by decide +kernel
theorem dX12_cut__27 : decode cX12_cut_ 27 = .ok (.iconst 2, 1) := by decide +kernel
theorem dX12_cut__28 : decode cX12_cut_ 28 = .ok (.invokevirtual 325, 3) := by decide +kernel
theorem dX12_cut__31 : decode cX12_cut_ 31 = .ok (.ireturn, 1) := by decide +kernel
theorem dX12_cut__32 : decode cX12_cut_ 32 = .ok (.aload_n 0, 1) := by decide +kernel
theorem dX12_cut__33 : decode cX12_cut_ 33 = .ok (.iload_n 1, 1) := by decide +kernel
theorem dX12_cut__34 : decode cX12_cut_ 34 = .ok (.iload_n 2, 1) := by decide +kernel
theorem dX12_cut__35 : decode cX12_cut_ 35 = .ok (.invokevirtual 393, 3) := by decide +kernel
theorem dX12_cut__38 : decode cX12_cut_ 38 = .ok (.istore_n 3, 1) := by decide +kernel
theorem dX12_cut__39 : decode cX12_cut_ 39 = .ok (.iload_n 3, 1) := by decide +kernel
theorem dX12_cut__40 : decode cX12_cut_ 40 = .ok (.ifCond .ge 12, 3) := by decide +kernel
theorem dX12_cut__43 : decode cX12_cut_ 43 = .ok (.aload_n 0, 1) := by decide +kernel
theorem dX12_cut__44 : decode cX12_cut_ 44 = .ok (.bipush 9, 2) := by decide +kernel
theorem dX12_cut__46 : decode cX12_cut_ 46 = .ok (.invokevirtual 325, 3) := by decide +kernel
theorem dX12_cut__49 : decode cX12_cut_ 49 = .ok (.goto 4, 3) := by decide +kernel
theorem dX12_cut__52 : decode cX12_cut_ 52 = .ok (.iload_n 3, 1) := by decide +kernel
theorem dX12_cut__53 : decode cX12_cut_ 53 = .ok (.ireturn, 1) := by decide +kernel
theorem mw_X12_cut_ : MW yX12_cut_ cX12_cut_ 4 0 2 false := ⟨tm 2109 (by decide +kernel) rfl, tm 249 (by decide +kernel) rfl, by decide, by decide, (by rw [if_neg (by decide)]; exact ⟨tm 2107 (by decide +kernel) rfl, tm 2108 (by decide +kernel) rfl⟩)⟩
theorem lk_RX12_345 : LK RX12 345 yX12_isPersonAt := Or.inl (tm 2022 (by decide +kernel) rfl)
theorem lk_RX12_393 : LK RX12 393 yX12_cuts := Or.inl (tm 2110 (by decide +kernel) rfl)
def M_cut_ (a1 : Int) (a2 : Int) (σ : Sg) : Rs := (nm (up_s σ 0 1 0) (fun s1 => (nm (up_s s1 0 0 0) (fun s2 => (bd (M_isPersonAt a1 s2) (fun r3 s4 => (if r3 = 0 then (bd (M_refuse 2 s4) (fun r5 s6 => (some (r5, s6)))) else (bd (M_isPersonAt a2 s4) (fun r7 s8 => (if r7 = 0 then (bd (M_refuse 2 s8) (fun r9 s10 => (some (r9, s10)))) else (bd (M_cuts a1 a2 s8) (fun r11 s12 => (if r11 < 0 then (bd (M_refuse 9 s12) (fun r13 s14 => (some (r13, s14)))) else (some (r11, s12)))))))))))))))
theorem ok_M_cut_ (a1 : Int) (a2 : Int) (σ : Sg) : MC l Km Pm yX12_cut_ cX12_cut_ 4 0 4 [.inr (.inr 0), .inl a1, .inl a2] σ (M_cut_ a1 a2 σ) := by
  refine mc_of (by decide) (Nat.le_of_ble_eq_true rfl) ?_
  change G l Km Pm RX12 cX12_cut_ 4 0 4 0 [some (.inr (.inr 0)), some (.inl a1), some (.inl a2), none] [] σ (M_cut_ a1 a2 σ)
  unfold M_cut_
  refine g_aload_n dX12_cut__0 rfl rfl ?_
  refine g_iconst dX12_cut__1 (by decide) ?_
  refine g_puti fl_RX12_67 km_0 (by decide) dX12_cut__2 ?_
  intro s1
  refine g_aload_n dX12_cut__5 rfl rfl ?_
  refine g_iconst dX12_cut__6 (by decide) ?_
  refine g_puti fl_RX12_70 km_0 (by decide) dX12_cut__7 ?_
  intro s2
  refine g_aload_n dX12_cut__10 rfl rfl ?_
  refine g_iload_n dX12_cut__11 rfl rfl ?_
  refine g_callv3 (st := []) 10 mw_X12_isPersonAt lk_RX12_345 rfl km_0 (ok_M_isPersonAt a1 s2) (Nat.le_of_ble_eq_true rfl) rfl rfl (Nat.le_of_ble_eq_true rfl) dX12_cut__12 ?_
  intro r3 s4
  refine g_ifeq (tgt := 26) dX12_cut__15 (by decide) ?_ ?_
  · refine g_aload_n dX12_cut__26 rfl rfl ?_
    refine g_iconst dX12_cut__27 (by decide) ?_
    refine g_callv0 (st := []) 10 mw_X12_refuse lk_RX12_325 rfl km_0 (ok_M_refuse 2 s4) (Nat.le_of_ble_eq_true rfl) rfl rfl (Nat.le_of_ble_eq_true rfl) dX12_cut__28 ?_
    intro r5 s6
    exact g_iret dX12_cut__31
  · refine g_aload_n dX12_cut__18 rfl rfl ?_
    refine g_iload_n dX12_cut__19 rfl rfl ?_
    refine g_callv3 (st := []) 10 mw_X12_isPersonAt lk_RX12_345 rfl km_0 (ok_M_isPersonAt a2 s4) (Nat.le_of_ble_eq_true rfl) rfl rfl (Nat.le_of_ble_eq_true rfl) dX12_cut__20 ?_
    intro r7 s8
    refine g_ifne (tgt := 32) dX12_cut__23 (by decide) ?_ ?_
    · refine g_aload_n dX12_cut__26 rfl rfl ?_
      refine g_iconst dX12_cut__27 (by decide) ?_
      refine g_callv0 (st := []) 10 mw_X12_refuse lk_RX12_325 rfl km_0 (ok_M_refuse 2 s8) (Nat.le_of_ble_eq_true rfl) rfl rfl (Nat.le_of_ble_eq_true rfl) dX12_cut__28 ?_
      intro r9 s10
      exact g_iret dX12_cut__31
    · refine g_aload_n dX12_cut__32 rfl rfl ?_
      refine g_iload_n dX12_cut__33 rfl rfl ?_
      refine g_iload_n dX12_cut__34 rfl rfl ?_
      refine g_callv0 (st := []) 10 mw_X12_cuts lk_RX12_393 rfl km_0 (ok_M_cuts a1 a2 s8) (Nat.le_of_ble_eq_true rfl) rfl rfl (Nat.le_of_ble_eq_true rfl) dX12_cut__35 ?_
      intro r11 s12
      refine g_istore_n (lv' := [some (.inr (.inr 0)), some (.inl a1), some (.inl a2), some (.inl r11)]) dX12_cut__38 rfl (Nat.le_of_ble_eq_true rfl) rfl ?_
      refine g_iload_n dX12_cut__39 rfl rfl ?_
      refine g_ifge (tgt := 52) dX12_cut__40 (by decide) ?_ ?_
      · refine g_aload_n dX12_cut__43 rfl rfl ?_
        refine g_bipush dX12_cut__44 (by decide) ?_
        refine g_callv0 (st := []) 10 mw_X12_refuse lk_RX12_325 rfl km_0 (ok_M_refuse 9 s12) (Nat.le_of_ble_eq_true rfl) rfl rfl (Nat.le_of_ble_eq_true rfl) dX12_cut__46 ?_
        intro r13 s14
        refine g_goto (tgt := 53) dX12_cut__49 (by decide) ?_
        exact g_iret dX12_cut__53
      · refine g_iload_n dX12_cut__52 rfl rfl ?_
        exact g_iret dX12_cut__53
theorem dX12_day_0 : decode cX12_day 0 = .ok (.aload_n 0, 1) := by decide +kernel
theorem dX12_day_1 : decode cX12_day 1 = .ok (.iconst 0, 1) := by decide +kernel
theorem dX12_day_2 : decode cX12_day 2 = .ok (.putfield 67, 3) := by decide +kernel
theorem dX12_day_5 : decode cX12_day 5 = .ok (.aload_n 0, 1) := by decide +kernel
theorem dX12_day_6 : decode cX12_day 6 = .ok (.iconst 0, 1) := by decide +kernel
theorem dX12_day_7 : decode cX12_day 7 = .ok (.putfield 70, 3) := by decide +kernel
theorem dX12_day_10 : decode cX12_day 10 = .ok (.iload_n 1, 1) := by decide +kernel
theorem dX12_day_11 : decode cX12_day 11 = .ok (.i2l, 1) := by decide +kernel
theorem dX12_day_12 : decode cX12_day 12 = .ok (.lconst 1, 1) := by decide +kernel
theorem dX12_day_13 : decode cX12_day 13 = .ok (.ldc2_w 379, 3) := by decide +kernel
theorem dX12_day_16 : decode cX12_day 16 = .ok (.invokestatic 102, 3) := by decide +kernel
theorem dX12_day_19 : decode cX12_day 19 = .ok (.ifCond .ne 9, 3) := by decide +kernel
theorem dX12_day_22 : decode cX12_day 22 = .ok (.aload_n 0, 1) := by decide +kernel
theorem dX12_day_23 : decode cX12_day 23 = .ok (.iconst 5, 1) := by decide +kernel
theorem dX12_day_24 : decode cX12_day 24 = .ok (.invokevirtual 325, 3) := by decide +kernel
theorem dX12_day_27 : decode cX12_day 27 = .ok (.ireturn, 1) := by decide +kernel
theorem dX12_day_28 : decode cX12_day 28 = .ok (.aload_n 0, 1) := by decide +kernel
theorem dX12_day_29 : decode cX12_day 29 = .ok (.getfield 35, 3) := by decide +kernel
theorem dX12_day_32 : decode cX12_day 32 = .ok (.bipush 6, 2) := by decide +kernel
theorem dX12_day_34 : decode cX12_day 34 = .ok (.iaload, 1) := by decide +kernel
theorem dX12_day_35 : decode cX12_day 35 = .ok (.iload_n 1, 1) := by decide +kernel
theorem dX12_day_36 : decode cX12_day 36 = .ok (.iadd, 1) := by decide +kernel
theorem dX12_day_37 : decode cX12_day 37 = .ok (.sipush 9999, 3) := by decide +kernel
theorem dX12_day_40 : decode cX12_day 40 = .ok (.if_icmp .le 10, 3) := by decide +kernel
theorem dX12_day_43 : decode cX12_day 43 = .ok (.aload_n 0, 1) := by decide +kernel
theorem dX12_day_44 : decode cX12_day 44 = .ok (.bipush 7, 2) := by decide +kernel
theorem dX12_day_46 : decode cX12_day 46 = .ok (.invokevirtual 325, 3) := by decide +kernel
theorem dX12_day_49 : decode cX12_day 49 = .ok (.ireturn, 1) := by decide +kernel
theorem dX12_day_50 : decode cX12_day 50 = .ok (.iconst 0, 1) := by decide +kernel
theorem dX12_day_51 : decode cX12_day 51 = .ok (.istore_n 2, 1) := by decide +kernel
theorem dX12_day_52 : decode cX12_day 52 = .ok (.iconst 0, 1) := by decide +kernel
theorem dX12_day_53 : decode cX12_day 53 = .ok (.istore_n 3, 1) := by decide +kernel
theorem dX12_day_54 : decode cX12_day 54 = .ok (.iload_n 3, 1) := by decide +kernel
theorem dX12_day_55 : decode cX12_day 55 = .ok (.iload_n 1, 1) := by decide +kernel
theorem dX12_day_56 : decode cX12_day 56 = .ok (.if_icmp .ge 16, 3) := by decide +kernel
theorem dX12_day_59 : decode cX12_day 59 = .ok (.iload_n 2, 1) := by decide +kernel
theorem dX12_day_60 : decode cX12_day 60 = .ok (.aload_n 0, 1) := by decide +kernel
theorem dX12_day_61 : decode cX12_day 61 = .ok (.invokevirtual 381, 3) := by decide +kernel
theorem dX12_day_64 : decode cX12_day 64 = .ok (.iadd, 1) := by decide +kernel
theorem dX12_day_65 : decode cX12_day 65 = .ok (.istore_n 2, 1) := by decide +kernel
theorem dX12_day_66 : decode cX12_day 66 = .ok (.iinc 3 1, 3) := by decide +kernel
theorem dX12_day_69 : decode cX12_day 69 = .ok (.goto (-15), 3) := by decide +kernel
theorem dX12_day_72 : decode cX12_day 72 = .ok (.iload_n 2, 1) := by decide +kernel
theorem dX12_day_73 : decode cX12_day 73 = .ok (.ireturn, 1) := by decide +kernel
theorem mw_X12_day : MW yX12_day cX12_day 4 0 1 false := ⟨tm 2060 (by decide +kernel) rfl, tm 249 (by decide +kernel) rfl, by decide, by decide, (by rw [if_neg (by decide)]; exact ⟨tm 2058 (by decide +kernel) rfl, tm 2059 (by decide +kernel) rfl⟩)⟩
def M_day_L54 (a1 : Int) : Nat → Int → Int → Sg → Rs
  | 0, _, _, _ => none
  | n + 1, v2, v3, σ => (if v3 < a1 then (bd (M_goesDay σ) (fun r10 s11 => (nm (w32 (v2 + r10)) (fun x12 => (nm (w32 (v3 + 1)) (fun x13 => (M_day_L54 a1 n x12 x13 s11))))))) else (some (v2, σ)))
theorem ok_M_day_L54 (a1 : Int) : ∀ (n : Nat) (v2 v3 : Int) (σ : Sg), G l Km Pm RX12 cX12_day 4 0 6 54 [some (.inr (.inr 0)), some (.inl a1), some (.inl v2), some (.inl v3)] [] σ (M_day_L54 a1 n v2 v3 σ) := by
  intro n
  induction n with
  | zero => intros; exact G.none_
  | succ n ih =>
    intro v2 v3 σ
    rw [M_day_L54]
    refine g_iload_n dX12_day_54 rfl rfl ?_
    refine g_iload_n dX12_day_55 rfl rfl ?_
    refine g_icmpge (tgt := 72) dX12_day_56 (by decide) ?_ ?_
    · refine g_iload_n dX12_day_59 rfl rfl ?_
      refine g_aload_n dX12_day_60 rfl rfl ?_
      refine g_callv0 (st := [.inl v2]) 10 mw_X12_goesDay lk_RX12_381 rfl km_0 (ok_M_goesDay σ) (Nat.le_of_ble_eq_true rfl) rfl rfl (Nat.le_of_ble_eq_true rfl) dX12_day_61 ?_
      intro r10 s11
      refine g_iadd dX12_day_64 ?_
      refine n_istore_n (fun x12 => [some (.inr (.inr 0)), some (.inl a1), some (.inl x12), some (.inl v3)]) dX12_day_65 rfl (Nat.le_of_ble_eq_true rfl) (fun _ => rfl) ?_
      intro x12
      refine n_iinc (fun x13 => [some (.inr (.inr 0)), some (.inl a1), some (.inl x12), some (.inl x13)]) dX12_day_66 rfl (Nat.le_of_ble_eq_true rfl) (fun _ => rfl) ?_
      intro x13
      refine g_goto (tgt := 54) dX12_day_69 (by decide) ?_
      exact (ih x12 x13 s11)
    · refine g_iload_n dX12_day_72 rfl rfl ?_
      exact g_iret dX12_day_73
def M_day (a1 : Int) (σ : Sg) : Rs := (nm (up_s σ 0 1 0) (fun s1 => (nm (up_s s1 0 0 0) (fun s2 => (bd (M_isIn a1 1 99 s2) (fun r3 s4 => (if r3 = 0 then (bd (M_refuse 5 s4) (fun r5 s6 => (some (r5, s6)))) else (rd 2235 6 (s4 5 (Int.toNat 6)) (fun x7 => (if 9999 < (w32 (x7 + a1)) then (bd (M_refuse 7 s4) (fun r8 s9 => (some (r8, s9)))) else (M_day_L54 a1 fu 0 0 s4)))))))))))
theorem ok_M_day (a1 : Int) (σ : Sg) : MC l Km Pm yX12_day cX12_day 4 0 6 [.inr (.inr 0), .inl a1] σ (M_day a1 σ) := by
  refine mc_of (by decide) (Nat.le_of_ble_eq_true rfl) ?_
  change G l Km Pm RX12 cX12_day 4 0 6 0 [some (.inr (.inr 0)), some (.inl a1), none, none] [] σ (M_day a1 σ)
  unfold M_day
  refine g_aload_n dX12_day_0 rfl rfl ?_
  refine g_iconst dX12_day_1 (by decide) ?_
  refine g_puti fl_RX12_67 km_0 (by decide) dX12_day_2 ?_
  intro s1
  refine g_aload_n dX12_day_5 rfl rfl ?_
  refine g_iconst dX12_day_6 (by decide) ?_
  refine g_puti fl_RX12_70 km_0 (by decide) dX12_day_7 ?_
  intro s2
  refine g_iload_n dX12_day_10 rfl rfl ?_
  refine g_i2l dX12_day_11 ?_
  refine g_lconst (v := 1) dX12_day_12 (by decide) ?_
  refine g_ldc2 (n := 99) (tm 2061 (by decide +kernel) rfl) (by decide) dX12_day_13 ?_
  refine g_calls3 (st := []) mw_X12_isIn lk_RX12_102 (ok_M_isIn a1 1 99 s2) (Nat.le_of_ble_eq_true rfl) rfl rfl (Nat.le_of_ble_eq_true rfl) dX12_day_16 ?_
  intro r3 s4
  refine g_ifne (tgt := 28) dX12_day_19 (by decide) ?_ ?_
  · refine g_aload_n dX12_day_22 rfl rfl ?_
    refine g_iconst dX12_day_23 (by decide) ?_
    refine g_callv0 (st := []) 10 mw_X12_refuse lk_RX12_325 rfl km_0 (ok_M_refuse 5 s4) (Nat.le_of_ble_eq_true rfl) rfl rfl (Nat.le_of_ble_eq_true rfl) dX12_day_24 ?_
    intro r5 s6
    exact g_iret dX12_day_27
  · refine g_aload_n dX12_day_28 rfl rfl ?_
    refine g_getr' (q := 5) fl_RX12_35 km_0 (by decide) rfl dX12_day_29 ?_
    refine g_bipush dX12_day_32 (by decide) ?_
    refine g_iald km_5 dX12_day_34 ?_
    intro x7
    refine g_iload_n dX12_day_35 rfl rfl ?_
    refine g_iadd dX12_day_36 ?_
    refine g_sipush dX12_day_37 (by decide) ?_
    refine g_icmple (tgt := 50) dX12_day_40 (by decide) ?_ ?_
    · refine g_aload_n dX12_day_43 rfl rfl ?_
      refine g_bipush dX12_day_44 (by decide) ?_
      refine g_callv0 (st := []) 10 mw_X12_refuse lk_RX12_325 rfl km_0 (ok_M_refuse 7 s4) (Nat.le_of_ble_eq_true rfl) rfl rfl (Nat.le_of_ble_eq_true rfl) dX12_day_46 ?_
      intro r8 s9
      exact g_iret dX12_day_49
    · refine g_iconst dX12_day_50 (by decide) ?_
      refine g_istore_n (lv' := [some (.inr (.inr 0)), some (.inl a1), some (.inl 0), none]) dX12_day_51 rfl (Nat.le_of_ble_eq_true rfl) rfl ?_
      refine g_iconst dX12_day_52 (by decide) ?_
      refine g_istore_n (lv' := [some (.inr (.inr 0)), some (.inl a1), some (.inl 0), some (.inl 0)]) dX12_day_53 rfl (Nat.le_of_ble_eq_true rfl) rfl ?_
      refine (ok_M_day_L54 a1 fu 0 0 s4)
theorem dX12_daysFor_0 : decode cX12_daysFor 0 = .ok (.aload_n 0, 1) := by decide +kernel
theorem dX12_daysFor_1 : decode cX12_daysFor 1 = .ok (.iconst 0, 1) := by decide +kernel
theorem dX12_daysFor_2 : decode cX12_daysFor 2 = .ok (.putfield 67, 3) := by decide +kernel
theorem dX12_daysFor_5 : decode cX12_daysFor 5 = .ok (.aload_n 0, 1) := by decide +kernel
theorem dX12_daysFor_6 : decode cX12_daysFor 6 = .ok (.iconst 0, 1) := by decide +kernel
theorem dX12_daysFor_7 : decode cX12_daysFor 7 = .ok (.putfield 70, 3) := by decide +kernel
theorem dX12_daysFor_10 : decode cX12_daysFor 10 = .ok (.aload_n 0, 1) := by decide +kernel
theorem dX12_daysFor_11 : decode cX12_daysFor 11 = .ok (.iload_n 1, 1) := by decide +kernel
theorem dX12_daysFor_12 : decode cX12_daysFor 12 = .ok (.invokevirtual 464, 3) := by decide +kernel
theorem dX12_daysFor_15 : decode cX12_daysFor 15 = .ok (.ifCond .eq 15, 3) := by decide +kernel
theorem dX12_daysFor_18 : decode cX12_daysFor 18 = .ok (.iload_n 2, 1) := by decide +kernel
theorem dX12_daysFor_19 : decode cX12_daysFor 19 = .ok (.i2l, 1) := by decide +kernel
theorem dX12_daysFor_20 : decode cX12_daysFor 20 = .ok (.lconst 0, 1) := by decide +kernel
theorem dX12_daysFor_21 : decode cX12_daysFor 21 = .ok (.ldc2_w 467, 3) := by decide +kernel
theorem dX12_daysFor_24 : decode cX12_daysFor 24 = .ok (.invokestatic 102, 3) := by decide +kernel
theorem dX12_daysFor_27 : decode cX12_daysFor 27 = .ok (.ifCond .ne 9, 3) := by decide +kernel
theorem dX12_daysFor_30 : decode cX12_daysFor 30 = .ok (.aload_n 0, 1) := by decide +kernel
theorem dX12_daysFor_31 : decode cX12_daysFor 31 = .ok (.iconst 5, 1) := by decide +kernel
theorem dX12_daysFor_32 : decode cX12_daysFor 32 = .ok (.invokevirtual 325, 3) := by decide +kernel
theorem dX12_daysFor_35 : decode cX12_daysFor 35 = .ok (.ireturn, 1) := by decide +kernel
theorem dX12_daysFor_36 : decode cX12_daysFor 36 = .ok (.iconst 0, 1) := by decide +kernel
theorem dX12_daysFor_37 : decode cX12_daysFor 37 = .ok (.istore_n 3, 1) := by decide +kernel
theorem dX12_daysFor_38 : decode cX12_daysFor 38 = .ok (.iload_n 3, 1) := by decide +kernel
theorem dX12_daysFor_39 : decode cX12_daysFor 39 = .ok (.bipush 99, 2) := by decide +kernel
theorem dX12_daysFor_41 : decode cX12_daysFor 41 = .ok (.if_icmp .gt 21, 3) := by decide +kernel
theorem dX12_daysFor_44 : decode cX12_daysFor 44 = .ok (.aload_n 0, 1) := by decide +kernel
theorem dX12_daysFor_45 : decode cX12_daysFor 45 = .ok (.iload_n 1, 1) := by decide +kernel
theorem dX12_daysFor_46 : decode cX12_daysFor 46 = .ok (.iload_n 3, 1) := by decide +kernel
theorem dX12_daysFor_47 : decode cX12_daysFor 47 = .ok (.invokevirtual 443, 3) := by decide +kernel
theorem dX12_daysFor_50 : decode cX12_daysFor 50 = .ok (.iload_n 2, 1) := by decide +kernel
theorem dX12_daysFor_51 : decode cX12_daysFor 51 = .ok (.if_icmp .lt 5, 3) := by decide +kernel
theorem dX12_daysFor_54 : decode cX12_daysFor 54 = .ok (.iload_n 3, 1) := by decide +kernel
theorem dX12_daysFor_55 : decode cX12_daysFor 55 = .ok (.ireturn, 1) := by decide +kernel
theorem dX12_daysFor_56 : decode cX12_daysFor 56 = .ok (.iinc 3 1, 3) := by decide +kernel
theorem dX12_daysFor_59 : decode cX12_daysFor 59 = .ok (.goto (-21), 3) := by decide +kernel
theorem dX12_daysFor_62 : decode cX12_daysFor 62 = .ok (.aload_n 0, 1) := by decide +kernel
theorem dX12_daysFor_63 : decode cX12_daysFor 63 = .ok (.bipush 8, 2) := by decide +kernel
theorem dX12_daysFor_65 : decode cX12_daysFor 65 = .ok (.invokevirtual 325, 3) := by decide +kernel
theorem dX12_daysFor_68 : decode cX12_daysFor 68 = .ok (.ireturn, 1) := by decide +kernel
theorem mw_X12_daysFor : MW yX12_daysFor cX12_daysFor 4 0 2 false := ⟨tm 2258 (by decide +kernel) rfl, tm 249 (by decide +kernel) rfl, by decide, by decide, (by rw [if_neg (by decide)]; exact ⟨tm 2256 (by decide +kernel) rfl, tm 2257 (by decide +kernel) rfl⟩)⟩
theorem lk_RX12_464 : LK RX12 464 yX12_areWords := Or.inl (tm 2251 (by decide +kernel) rfl)
def M_daysFor_L38 (a1 : Int) (a2 : Int) : Nat → Int → Sg → Rs
  | 0, _, _ => none
  | n + 1, v3, σ => (if 99 < v3 then (bd (M_refuse 8 σ) (fun r11 s12 => (some (r11, s12)))) else (bd (M_grown a1 v3 σ) (fun r13 s14 => (if r13 < a2 then (nm (w32 (v3 + 1)) (fun x15 => (M_daysFor_L38 a1 a2 n x15 s14))) else (some (v3, s14))))))
theorem ok_M_daysFor_L38 (a1 : Int) (a2 : Int) : ∀ (n : Nat) (v3 : Int) (σ : Sg), G l Km Pm RX12 cX12_daysFor 4 0 3 38 [some (.inr (.inr 0)), some (.inl a1), some (.inl a2), some (.inl v3)] [] σ (M_daysFor_L38 a1 a2 n v3 σ) := by
  intro n
  induction n with
  | zero => intros; exact G.none_
  | succ n ih =>
    intro v3 σ
    rw [M_daysFor_L38]
    refine g_iload_n dX12_daysFor_38 rfl rfl ?_
    refine g_bipush dX12_daysFor_39 (by decide) ?_
    refine g_icmpgt (tgt := 62) dX12_daysFor_41 (by decide) ?_ ?_
    · refine g_aload_n dX12_daysFor_62 rfl rfl ?_
      refine g_bipush dX12_daysFor_63 (by decide) ?_
      refine g_callv0 (st := []) 10 mw_X12_refuse lk_RX12_325 rfl km_0 (ok_M_refuse 8 σ) (Nat.le_of_ble_eq_true rfl) rfl rfl (Nat.le_of_ble_eq_true rfl) dX12_daysFor_65 ?_
      intro r11 s12
      exact g_iret dX12_daysFor_68
    · refine g_aload_n dX12_daysFor_44 rfl rfl ?_
      refine g_iload_n dX12_daysFor_45 rfl rfl ?_
      refine g_iload_n dX12_daysFor_46 rfl rfl ?_
      refine g_callv0 (st := []) 10 mw_X12_grown lk_RX12_443 rfl km_0 (ok_M_grown a1 v3 σ) (Nat.le_of_ble_eq_true rfl) rfl rfl (Nat.le_of_ble_eq_true rfl) dX12_daysFor_47 ?_
      intro r13 s14
      refine g_iload_n dX12_daysFor_50 rfl rfl ?_
      refine g_icmplt (tgt := 56) dX12_daysFor_51 (by decide) ?_ ?_
      · refine n_iinc (fun x15 => [some (.inr (.inr 0)), some (.inl a1), some (.inl a2), some (.inl x15)]) dX12_daysFor_56 rfl (Nat.le_of_ble_eq_true rfl) (fun _ => rfl) ?_
        intro x15
        refine g_goto (tgt := 38) dX12_daysFor_59 (by decide) ?_
        exact (ih x15 s14)
      · refine g_iload_n dX12_daysFor_54 rfl rfl ?_
        exact g_iret dX12_daysFor_55
def M_daysFor (a1 : Int) (a2 : Int) (σ : Sg) : Rs := (nm (up_s σ 0 1 0) (fun s1 => (nm (up_s s1 0 0 0) (fun s2 => (bd (M_areWords a1 s2) (fun r3 s4 => (if r3 = 0 then (bd (M_refuse 5 s4) (fun r5 s6 => (some (r5, s6)))) else (bd (M_isIn a2 0 9999 s4) (fun r7 s8 => (if r7 = 0 then (bd (M_refuse 5 s8) (fun r9 s10 => (some (r9, s10)))) else (M_daysFor_L38 a1 a2 fu 0 s8)))))))))))
theorem ok_M_daysFor (a1 : Int) (a2 : Int) (σ : Sg) : MC l Km Pm yX12_daysFor cX12_daysFor 4 0 3 [.inr (.inr 0), .inl a1, .inl a2] σ (M_daysFor a1 a2 σ) := by
  refine mc_of (by decide) (Nat.le_of_ble_eq_true rfl) ?_
  change G l Km Pm RX12 cX12_daysFor 4 0 3 0 [some (.inr (.inr 0)), some (.inl a1), some (.inl a2), none] [] σ (M_daysFor a1 a2 σ)
  unfold M_daysFor
  refine g_aload_n dX12_daysFor_0 rfl rfl ?_
  refine g_iconst dX12_daysFor_1 (by decide) ?_
  refine g_puti fl_RX12_67 km_0 (by decide) dX12_daysFor_2 ?_
  intro s1
  refine g_aload_n dX12_daysFor_5 rfl rfl ?_
  refine g_iconst dX12_daysFor_6 (by decide) ?_
  refine g_puti fl_RX12_70 km_0 (by decide) dX12_daysFor_7 ?_
  intro s2
  refine g_aload_n dX12_daysFor_10 rfl rfl ?_
  refine g_iload_n dX12_daysFor_11 rfl rfl ?_
  refine g_callv3 (st := []) 10 mw_X12_areWords lk_RX12_464 rfl km_0 (ok_M_areWords a1 s2) (Nat.le_of_ble_eq_true rfl) rfl rfl (Nat.le_of_ble_eq_true rfl) dX12_daysFor_12 ?_
  intro r3 s4
  refine g_ifeq (tgt := 30) dX12_daysFor_15 (by decide) ?_ ?_
  · refine g_aload_n dX12_daysFor_30 rfl rfl ?_
    refine g_iconst dX12_daysFor_31 (by decide) ?_
    refine g_callv0 (st := []) 10 mw_X12_refuse lk_RX12_325 rfl km_0 (ok_M_refuse 5 s4) (Nat.le_of_ble_eq_true rfl) rfl rfl (Nat.le_of_ble_eq_true rfl) dX12_daysFor_32 ?_
    intro r5 s6
    exact g_iret dX12_daysFor_35
  · refine g_iload_n dX12_daysFor_18 rfl rfl ?_
    refine g_i2l dX12_daysFor_19 ?_
    refine g_lconst (v := 0) dX12_daysFor_20 (by decide) ?_
    refine g_ldc2 (n := 9999) (tm 2259 (by decide +kernel) rfl) (by decide) dX12_daysFor_21 ?_
    refine g_calls3 (st := []) mw_X12_isIn lk_RX12_102 (ok_M_isIn a2 0 9999 s4) (Nat.le_of_ble_eq_true rfl) rfl rfl (Nat.le_of_ble_eq_true rfl) dX12_daysFor_24 ?_
    intro r7 s8
    refine g_ifne (tgt := 36) dX12_daysFor_27 (by decide) ?_ ?_
    · refine g_aload_n dX12_daysFor_30 rfl rfl ?_
      refine g_iconst dX12_daysFor_31 (by decide) ?_
      refine g_callv0 (st := []) 10 mw_X12_refuse lk_RX12_325 rfl km_0 (ok_M_refuse 5 s8) (Nat.le_of_ble_eq_true rfl) rfl rfl (Nat.le_of_ble_eq_true rfl) dX12_daysFor_32 ?_
      intro r9 s10
      exact g_iret dX12_daysFor_35
    · refine g_iconst dX12_daysFor_36 (by decide) ?_
      refine g_istore_n (lv' := [some (.inr (.inr 0)), some (.inl a1), some (.inl a2), some (.inl 0)]) dX12_daysFor_37 rfl (Nat.le_of_ble_eq_true rfl) rfl ?_
      refine (ok_M_daysFor_L38 a1 a2 fu 0 s8)
theorem dX12_dinesIn_0 : decode cX12_dinesIn 0 = .ok (.aload_n 0, 1) := by decide +kernel
theorem dX12_dinesIn_1 : decode cX12_dinesIn 1 = .ok (.iconst 0, 1) := by decide +kernel
theorem dX12_dinesIn_2 : decode cX12_dinesIn 2 = .ok (.putfield 67, 3) := by decide +kernel
theorem dX12_dinesIn_5 : decode cX12_dinesIn 5 = .ok (.aload_n 0, 1) := by decide +kernel
theorem dX12_dinesIn_6 : decode cX12_dinesIn 6 = .ok (.iconst 0, 1) := by decide +kernel
theorem dX12_dinesIn_7 : decode cX12_dinesIn 7 = .ok (.putfield 70, 3) := by decide +kernel
theorem dX12_dinesIn_10 : decode cX12_dinesIn 10 = .ok (.aload_n 0, 1) := by decide +kernel
theorem dX12_dinesIn_11 : decode cX12_dinesIn 11 = .ok (.iload_n 1, 1) := by decide +kernel
theorem dX12_dinesIn_12 : decode cX12_dinesIn 12 = .ok (.invokevirtual 345, 3) := by decide +kernel
theorem dX12_dinesIn_15 : decode cX12_dinesIn 15 = .ok (.ifCond .ne 9, 3) := by decide +kernel
theorem dX12_dinesIn_18 : decode cX12_dinesIn 18 = .ok (.aload_n 0, 1) := by decide +kernel
theorem dX12_dinesIn_19 : decode cX12_dinesIn 19 = .ok (.iconst 2, 1) := by decide +kernel
theorem dX12_dinesIn_20 : decode cX12_dinesIn 20 = .ok (.invokevirtual 325, 3) := by decide +kernel
theorem dX12_dinesIn_23 : decode cX12_dinesIn 23 = .ok (.ireturn, 1) := by decide +kernel
theorem dX12_dinesIn_24 : decode cX12_dinesIn 24 = .ok (.iconst 1, 1) := by decide +kernel
theorem dX12_dinesIn_25 : decode cX12_dinesIn 25 = .ok (.istore_n 2, 1) := by decide +kernel
theorem dX12_dinesIn_26 : decode cX12_dinesIn 26 = .ok (.iload_n 2, 1) := by decide +kernel
theorem dX12_dinesIn_27 : decode cX12_dinesIn 27 = .ok (.bipush 30, 2) := by decide +kernel
theorem dX12_dinesIn_29 : decode cX12_dinesIn 29 = .ok (.if_icmp .gt 61, 3) := by decide +kernel
theorem dX12_dinesIn_32 : decode cX12_dinesIn 32 = .ok (.iconst 0, 1) := by decide +kernel
theorem dX12_dinesIn_33 : decode cX12_dinesIn 33 = .ok (.istore_n 3, 1) := by decide +kernel
theorem dX12_dinesIn_34 : decode cX12_dinesIn 34 = .ok (.iload_n 3, 1) := by decide +kernel
theorem dX12_dinesIn_35 : decode cX12_dinesIn 35 = .ok (.aload_n 0, 1) := by decide +kernel
theorem dX12_dinesIn_36 : decode cX12_dinesIn 36 = .ok (.getfield 35, 3) := by decide +kernel
theorem dX12_dinesIn_39 : decode cX12_dinesIn 39 = .ok (.iconst 2, 1) := by decide +kernel
theorem dX12_dinesIn_40 : decode cX12_dinesIn 40 = .ok (.iaload, 1) := by decide +kernel
theorem dX12_dinesIn_41 : decode cX12_dinesIn 41 = .ok (.if_icmp .ge 43, 3) := by decide +kernel
theorem dX12_dinesIn_44 : decode cX12_dinesIn 44 = .ok (.aload_n 0, 1) := by decide +kernel
theorem dX12_dinesIn_45 : decode cX12_dinesIn 45 = .ok (.iload_n 3, 1) := by decide +kernel
theorem dX12_dinesIn_46 : decode cX12_dinesIn 46 = .ok (.iload_n 1, 1) := by decide +kernel
theorem dX12_dinesIn_47 : decode cX12_dinesIn 47 = .ok (.invokevirtual 418, 3) := by decide +kernel
theorem dX12_dinesIn_50 : decode cX12_dinesIn 50 = .ok (.ifCond .eq 28, 3) := by decide +kernel
theorem dX12_dinesIn_53 : decode cX12_dinesIn 53 = .ok (.aload_n 0, 1) := by decide +kernel
theorem dX12_dinesIn_54 : decode cX12_dinesIn 54 = .ok (.getfield 35, 3) := by decide +kernel
theorem dX12_dinesIn_57 : decode cX12_dinesIn 57 = .ok (.bipush 6, 2) := by decide +kernel
theorem dX12_dinesIn_59 : decode cX12_dinesIn 59 = .ok (.iaload, 1) := by decide +kernel
theorem dX12_dinesIn_60 : decode cX12_dinesIn 60 = .ok (.iload_n 2, 1) := by decide +kernel
theorem dX12_dinesIn_61 : decode cX12_dinesIn 61 = .ok (.iadd, 1) := by decide +kernel
theorem dX12_dinesIn_62 : decode cX12_dinesIn 62 = .ok (.aload_n 0, 1) := by decide +kernel
theorem dX12_dinesIn_63 : decode cX12_dinesIn 63 = .ok (.getfield 35, 3) := by decide +kernel
theorem dX12_dinesIn_66 : decode cX12_dinesIn 66 = .ok (.sipush 157, 3) := by decide +kernel
theorem dX12_dinesIn_69 : decode cX12_dinesIn 69 = .ok (.iload_n 3, 1) := by decide +kernel
theorem dX12_dinesIn_70 : decode cX12_dinesIn 70 = .ok (.iadd, 1) := by decide +kernel
theorem dX12_dinesIn_71 : decode cX12_dinesIn 71 = .ok (.iaload, 1) := by decide +kernel
theorem dX12_dinesIn_72 : decode cX12_dinesIn 72 = .ok (.irem, 1) := by decide +kernel
theorem dX12_dinesIn_73 : decode cX12_dinesIn 73 = .ok (.ifCond .ne 5, 3) := by decide +kernel
theorem dX12_dinesIn_76 : decode cX12_dinesIn 76 = .ok (.iload_n 2, 1) := by decide +kernel
theorem dX12_dinesIn_77 : decode cX12_dinesIn 77 = .ok (.ireturn, 1) := by decide +kernel
theorem dX12_dinesIn_78 : decode cX12_dinesIn 78 = .ok (.iinc 3 1, 3) := by decide +kernel
theorem dX12_dinesIn_81 : decode cX12_dinesIn 81 = .ok (.goto (-47), 3) := by decide +kernel
theorem dX12_dinesIn_84 : decode cX12_dinesIn 84 = .ok (.iinc 2 1, 3) := by decide +kernel
theorem dX12_dinesIn_87 : decode cX12_dinesIn 87 = .ok (.goto (-61), 3) := by decide +kernel
theorem dX12_dinesIn_90 : decode cX12_dinesIn 90 = .ok (.aload_n 0, 1) := by decide +kernel
theorem dX12_dinesIn_91 : decode cX12_dinesIn 91 = .ok (.bipush 8, 2) := by decide +kernel
theorem dX12_dinesIn_93 : decode cX12_dinesIn 93 = .ok (.invokevirtual 325, 3) := by decide +kernel
theorem dX12_dinesIn_96 : decode cX12_dinesIn 96 = .ok (.ireturn, 1) := by decide +kernel
theorem mw_X12_dinesIn : MW yX12_dinesIn cX12_dinesIn 4 0 1 false := ⟨tm 2177 (by decide +kernel) rfl, tm 249 (by decide +kernel) rfl, by decide, by decide, (by rw [if_neg (by decide)]; exact ⟨tm 2175 (by decide +kernel) rfl, tm 2176 (by decide +kernel) rfl⟩)⟩
def M_dinesIn_L34 (a1 : Int) (v2 : Int) (k26 : Int → Sg → Rs) : Nat → Int → Sg → Rs
  | 0, _, _ => none
  | n + 1, v3, σ => (rd 2235 2 (σ 5 (Int.toNat 2)) (fun x9 => (if v3 < x9 then (bd (M_dinesWith v3 a1 σ) (fun r10 s11 => (if r10 = 0 then (nm (w32 (v3 + 1)) (fun x12 => (M_dinesIn_L34 a1 v2 k26 n x12 s11))) else (rd 2235 6 (s11 5 (Int.toNat 6)) (fun x13 => (rd 2235 (w32 (157 + v3)) (s11 5 (Int.toNat (w32 (157 + v3)))) (fun x14 => (dv x14 (rm32 (w32 (x13 + v2)) x14) (fun x15 => (if x15 = 0 then (some (v2, s11)) else (nm (w32 (v3 + 1)) (fun x16 => (M_dinesIn_L34 a1 v2 k26 n x16 s11))))))))))))) else (nm (w32 (v2 + 1)) (fun x17 => (k26 x17 σ))))))
theorem ok_M_dinesIn_L34 (a1 : Int) (v2 : Int) (k26 : Int → Sg → Rs) (hk26 : ∀ (y2 : Int) (σ : Sg), G l Km Pm RX12 cX12_dinesIn 4 0 3 26 [some (.inr (.inr 0)), some (.inl a1), some (.inl y2), none] [] σ (k26 y2 σ)) : ∀ (n : Nat) (v3 : Int) (σ : Sg), G l Km Pm RX12 cX12_dinesIn 4 0 3 34 [some (.inr (.inr 0)), some (.inl a1), some (.inl v2), some (.inl v3)] [] σ (M_dinesIn_L34 a1 v2 k26 n v3 σ) := by
  intro n
  induction n with
  | zero => intros; exact G.none_
  | succ n ih =>
    intro v3 σ
    rw [M_dinesIn_L34]
    refine g_iload_n dX12_dinesIn_34 rfl rfl ?_
    refine g_aload_n dX12_dinesIn_35 rfl rfl ?_
    refine g_getr' (q := 5) fl_RX12_35 km_0 (by decide) rfl dX12_dinesIn_36 ?_
    refine g_iconst dX12_dinesIn_39 (by decide) ?_
    refine g_iald km_5 dX12_dinesIn_40 ?_
    intro x9
    refine g_icmpge (tgt := 84) dX12_dinesIn_41 (by decide) ?_ ?_
    · refine g_aload_n dX12_dinesIn_44 rfl rfl ?_
      refine g_iload_n dX12_dinesIn_45 rfl rfl ?_
      refine g_iload_n dX12_dinesIn_46 rfl rfl ?_
      refine g_callv3 (st := []) 10 mw_X12_dinesWith lk_RX12_418 rfl km_0 (ok_M_dinesWith v3 a1 σ) (Nat.le_of_ble_eq_true rfl) rfl rfl (Nat.le_of_ble_eq_true rfl) dX12_dinesIn_47 ?_
      intro r10 s11
      refine g_ifeq (tgt := 78) dX12_dinesIn_50 (by decide) ?_ ?_
      · refine n_iinc (fun x12 => [some (.inr (.inr 0)), some (.inl a1), some (.inl v2), some (.inl x12)]) dX12_dinesIn_78 rfl (Nat.le_of_ble_eq_true rfl) (fun _ => rfl) ?_
        intro x12
        refine g_goto (tgt := 34) dX12_dinesIn_81 (by decide) ?_
        exact (ih x12 s11)
      · refine g_aload_n dX12_dinesIn_53 rfl rfl ?_
        refine g_getr' (q := 5) fl_RX12_35 km_0 (by decide) rfl dX12_dinesIn_54 ?_
        refine g_bipush dX12_dinesIn_57 (by decide) ?_
        refine g_iald km_5 dX12_dinesIn_59 ?_
        intro x13
        refine g_iload_n dX12_dinesIn_60 rfl rfl ?_
        refine g_iadd dX12_dinesIn_61 ?_
        refine g_aload_n dX12_dinesIn_62 rfl rfl ?_
        refine g_getr' (q := 5) fl_RX12_35 km_0 (by decide) rfl dX12_dinesIn_63 ?_
        refine g_sipush dX12_dinesIn_66 (by decide) ?_
        refine g_iload_n dX12_dinesIn_69 rfl rfl ?_
        refine g_iadd dX12_dinesIn_70 ?_
        refine g_iald km_5 dX12_dinesIn_71 ?_
        intro x14
        refine g_irem dX12_dinesIn_72 ?_
        intro x15
        refine g_ifne (tgt := 78) dX12_dinesIn_73 (by decide) ?_ ?_
        · refine g_iload_n dX12_dinesIn_76 rfl rfl ?_
          exact g_iret dX12_dinesIn_77
        · refine n_iinc (fun x16 => [some (.inr (.inr 0)), some (.inl a1), some (.inl v2), some (.inl x16)]) dX12_dinesIn_78 rfl (Nat.le_of_ble_eq_true rfl) (fun _ => rfl) ?_
          intro x16
          refine g_goto (tgt := 34) dX12_dinesIn_81 (by decide) ?_
          exact (ih x16 s11)
    · refine n_iinc (fun x17 => [some (.inr (.inr 0)), some (.inl a1), some (.inl x17), some (.inl v3)]) dX12_dinesIn_84 rfl (Nat.le_of_ble_eq_true rfl) (fun _ => rfl) ?_
      intro x17
      refine g_goto (tgt := 26) dX12_dinesIn_87 (by decide) ?_
      exact (g_weak [true, true, true, false] (hk26 x17 σ))
def M_dinesIn_L26 (a1 : Int) : Nat → Int → Sg → Rs
  | 0, _, _ => none
  | n + 1, v2, σ => (if 30 < v2 then (bd (M_refuse 8 σ) (fun r7 s8 => (some (r7, s8)))) else (M_dinesIn_L34 a1 v2 (fun x18 s19 => (M_dinesIn_L26 a1 n x18 s19)) fu 0 σ))
theorem ok_M_dinesIn_L26 (a1 : Int) : ∀ (n : Nat) (v2 : Int) (σ : Sg), G l Km Pm RX12 cX12_dinesIn 4 0 3 26 [some (.inr (.inr 0)), some (.inl a1), some (.inl v2), none] [] σ (M_dinesIn_L26 a1 n v2 σ) := by
  intro n
  induction n with
  | zero => intros; exact G.none_
  | succ n ih =>
    intro v2 σ
    rw [M_dinesIn_L26]
    refine g_iload_n dX12_dinesIn_26 rfl rfl ?_
    refine g_bipush dX12_dinesIn_27 (by decide) ?_
    refine g_icmpgt (tgt := 90) dX12_dinesIn_29 (by decide) ?_ ?_
    · refine g_aload_n dX12_dinesIn_90 rfl rfl ?_
      refine g_bipush dX12_dinesIn_91 (by decide) ?_
      refine g_callv0 (st := []) 10 mw_X12_refuse lk_RX12_325 rfl km_0 (ok_M_refuse 8 σ) (Nat.le_of_ble_eq_true rfl) rfl rfl (Nat.le_of_ble_eq_true rfl) dX12_dinesIn_93 ?_
      intro r7 s8
      exact g_iret dX12_dinesIn_96
    · refine g_iconst dX12_dinesIn_32 (by decide) ?_
      refine g_istore_n (lv' := [some (.inr (.inr 0)), some (.inl a1), some (.inl v2), some (.inl 0)]) dX12_dinesIn_33 rfl (Nat.le_of_ble_eq_true rfl) rfl ?_
      refine (ok_M_dinesIn_L34 a1 v2 _ ?_ fu 0 σ)
      · intro x18 s19
        exact (ih x18 s19)
def M_dinesIn (a1 : Int) (σ : Sg) : Rs := (nm (up_s σ 0 1 0) (fun s1 => (nm (up_s s1 0 0 0) (fun s2 => (bd (M_isPersonAt a1 s2) (fun r3 s4 => (if r3 = 0 then (bd (M_refuse 2 s4) (fun r5 s6 => (some (r5, s6)))) else (M_dinesIn_L26 a1 fu 1 s4))))))))
theorem ok_M_dinesIn (a1 : Int) (σ : Sg) : MC l Km Pm yX12_dinesIn cX12_dinesIn 4 0 3 [.inr (.inr 0), .inl a1] σ (M_dinesIn a1 σ) := by
  refine mc_of (by decide) (Nat.le_of_ble_eq_true rfl) ?_
  change G l Km Pm RX12 cX12_dinesIn 4 0 3 0 [some (.inr (.inr 0)), some (.inl a1), none, none] [] σ (M_dinesIn a1 σ)
  unfold M_dinesIn
  refine g_aload_n dX12_dinesIn_0 rfl rfl ?_
  refine g_iconst dX12_dinesIn_1 (by decide) ?_
  refine g_puti fl_RX12_67 km_0 (by decide) dX12_dinesIn_2 ?_
  intro s1
  refine g_aload_n dX12_dinesIn_5 rfl rfl ?_
  refine g_iconst dX12_dinesIn_6 (by decide) ?_
  refine g_puti fl_RX12_70 km_0 (by decide) dX12_dinesIn_7 ?_
  intro s2
  refine g_aload_n dX12_dinesIn_10 rfl rfl ?_
  refine g_iload_n dX12_dinesIn_11 rfl rfl ?_
  refine g_callv3 (st := []) 10 mw_X12_isPersonAt lk_RX12_345 rfl km_0 (ok_M_isPersonAt a1 s2) (Nat.le_of_ble_eq_true rfl) rfl rfl (Nat.le_of_ble_eq_true rfl) dX12_dinesIn_12 ?_
  intro r3 s4
  refine g_ifne (tgt := 24) dX12_dinesIn_15 (by decide) ?_ ?_
  · refine g_aload_n dX12_dinesIn_18 rfl rfl ?_
    refine g_iconst dX12_dinesIn_19 (by decide) ?_
    refine g_callv0 (st := []) 10 mw_X12_refuse lk_RX12_325 rfl km_0 (ok_M_refuse 2 s4) (Nat.le_of_ble_eq_true rfl) rfl rfl (Nat.le_of_ble_eq_true rfl) dX12_dinesIn_20 ?_
    intro r5 s6
    exact g_iret dX12_dinesIn_23
  · refine g_iconst dX12_dinesIn_24 (by decide) ?_
    refine g_istore_n (lv' := [some (.inr (.inr 0)), some (.inl a1), some (.inl 1), none]) dX12_dinesIn_25 rfl (Nat.le_of_ble_eq_true rfl) rfl ?_
    refine (ok_M_dinesIn_L26 a1 fu 1 s4)
theorem dX12_isDinnerAt_0 : decode cX12_isDinnerAt 0 = .ok (.iload_n 1, 1) := by decide +kernel
theorem dX12_isDinnerAt_1 : decode cX12_isDinnerAt 1 = .ok (.i2l, 1) := by decide +kernel
theorem dX12_isDinnerAt_2 : decode cX12_isDinnerAt 2 = .ok (.lconst 0, 1) := by decide +kernel
theorem dX12_isDinnerAt_3 : decode cX12_isDinnerAt 3 = .ok (.aload_n 0, 1) := by decide +kernel
theorem dX12_isDinnerAt_4 : decode cX12_isDinnerAt 4 = .ok (.getfield 35, 3) := by decide +kernel
theorem dX12_isDinnerAt_7 : decode cX12_isDinnerAt 7 = .ok (.iconst 2, 1) := by decide +kernel
theorem dX12_isDinnerAt_8 : decode cX12_isDinnerAt 8 = .ok (.iaload, 1) := by decide +kernel
theorem dX12_isDinnerAt_9 : decode cX12_isDinnerAt 9 = .ok (.iconst 1, 1) := by decide +kernel
theorem dX12_isDinnerAt_10 : decode cX12_isDinnerAt 10 = .ok (.isub, 1) := by decide +kernel
theorem dX12_isDinnerAt_11 : decode cX12_isDinnerAt 11 = .ok (.i2l, 1) := by decide +kernel
theorem dX12_isDinnerAt_12 : decode cX12_isDinnerAt 12 = .ok (.invokestatic 102, 3) := by decide +kernel
theorem dX12_isDinnerAt_15 : decode cX12_isDinnerAt 15 = .ok (.ireturn, 1) := by decide +kernel
theorem mw_X12_isDinnerAt : MW yX12_isDinnerAt cX12_isDinnerAt 2 3 1 false := ⟨tm 2037 (by decide +kernel) rfl, tm 249 (by decide +kernel) rfl, by decide, by decide, (by rw [if_neg (by decide)]; exact ⟨tm 2036 (by decide +kernel) rfl, tm 183 (by decide +kernel) rfl⟩)⟩
def M_isDinnerAt (a1 : Int) (σ : Sg) : Rs := (rd 2235 2 (σ 5 (Int.toNat 2)) (fun x1 => (bd (M_isIn a1 0 (w32 (x1 - 1)) σ) (fun r2 s3 => (zb r2 (some (r2, s3)))))))
theorem ok_M_isDinnerAt (a1 : Int) (σ : Sg) : MC l Km Pm yX12_isDinnerAt cX12_isDinnerAt 2 3 2 [.inr (.inr 0), .inl a1] σ (M_isDinnerAt a1 σ) := by
  refine mc_of (by decide) (Nat.le_of_ble_eq_true rfl) ?_
  change G l Km Pm RX12 cX12_isDinnerAt 2 3 2 0 [some (.inr (.inr 0)), some (.inl a1)] [] σ (M_isDinnerAt a1 σ)
  unfold M_isDinnerAt
  refine g_iload_n dX12_isDinnerAt_0 rfl rfl ?_
  refine g_i2l dX12_isDinnerAt_1 ?_
  refine g_lconst (v := 0) dX12_isDinnerAt_2 (by decide) ?_
  refine g_aload_n dX12_isDinnerAt_3 rfl rfl ?_
  refine g_getr' (q := 5) fl_RX12_35 km_0 (by decide) rfl dX12_isDinnerAt_4 ?_
  refine g_iconst dX12_isDinnerAt_7 (by decide) ?_
  refine g_iald km_5 dX12_isDinnerAt_8 ?_
  intro x1
  refine g_iconst dX12_isDinnerAt_9 (by decide) ?_
  refine g_isub dX12_isDinnerAt_10 ?_
  refine g_i2l dX12_isDinnerAt_11 ?_
  refine g_calls3 (st := []) mw_X12_isIn lk_RX12_102 (ok_M_isIn a1 0 (w32 (x1 - 1)) σ) (Nat.le_of_ble_eq_true rfl) rfl rfl (Nat.le_of_ble_eq_true rfl) dX12_isDinnerAt_12 ?_
  intro r2 s3
  exact g_zret dX12_isDinnerAt_15
theorem dX12_dinner_0 : decode cX12_dinner 0 = .ok (.aload_n 0, 1) := by decide +kernel
theorem dX12_dinner_1 : decode cX12_dinner 1 = .ok (.iconst 0, 1) := by decide +kernel
theorem dX12_dinner_2 : decode cX12_dinner 2 = .ok (.putfield 67, 3) := by decide +kernel
theorem dX12_dinner_5 : decode cX12_dinner 5 = .ok (.aload_n 0, 1) := by decide +kernel
theorem dX12_dinner_6 : decode cX12_dinner 6 = .ok (.iconst 0, 1) := by decide +kernel
theorem dX12_dinner_7 : decode cX12_dinner 7 = .ok (.putfield 70, 3) := by decide +kernel
theorem dX12_dinner_10 : decode cX12_dinner 10 = .ok (.aload_n 0, 1) := by decide +kernel
theorem dX12_dinner_11 : decode cX12_dinner 11 = .ok (.iload_n 1, 1) := by decide +kernel
theorem dX12_dinner_12 : decode cX12_dinner 12 = .ok (.invokevirtual 348, 3) := by decide +kernel
theorem dX12_dinner_15 : decode cX12_dinner 15 = .ok (.ifCond .ne 9, 3) := by decide +kernel
theorem dX12_dinner_18 : decode cX12_dinner 18 = .ok (.aload_n 0, 1) := by decide +kernel
theorem dX12_dinner_19 : decode cX12_dinner 19 = .ok (.iconst 2, 1) := by decide +kernel
theorem dX12_dinner_20 : decode cX12_dinner 20 = .ok (.invokevirtual 325, 3) := by decide +kernel
theorem dX12_dinner_23 : decode cX12_dinner 23 = .ok (.ireturn, 1) := by decide +kernel
theorem dX12_dinner_24 : decode cX12_dinner 24 = .ok (.iload_n 2, 1) := by decide +kernel
theorem dX12_dinner_25 : decode cX12_dinner 25 = .ok (.i2l, 1) := by decide +kernel
theorem dX12_dinner_26 : decode cX12_dinner 26 = .ok (.lconst 0, 1) := by decide +kernel
theorem dX12_dinner_27 : decode cX12_dinner 27 = .ok (.ldc2_w 351, 3) := by decide +kernel
theorem dX12_dinner_30 : decode cX12_dinner 30 = .ok (.invokestatic 102, 3) := by decide +kernel
theorem dX12_dinner_33 : decode cX12_dinner 33 = .ok (.ifCond .eq 21, 3) := by decide +kernel
theorem dX12_dinner_36 : decode cX12_dinner 36 = .ok (.aload_n 0, 1) := by decide +kernel
theorem dX12_dinner_37 : decode cX12_dinner 37 = .ok (.getfield 35, 3) := by decide +kernel
theorem dX12_dinner_40 : decode cX12_dinner 40 = .ok (.sipush 145, 3) := by decide +kernel
theorem dX12_dinner_43 : decode cX12_dinner 43 = .ok (.bipush 6, 2) := by decide +kernel
theorem dX12_dinner_45 : decode cX12_dinner 45 = .ok (.iload_n 2, 1) := by decide +kernel
theorem dX12_dinner_46 : decode cX12_dinner 46 = .ok (.imul, 1) := by decide +kernel
theorem dX12_dinner_47 : decode cX12_dinner 47 = .ok (.iadd, 1) := by decide +kernel
theorem dX12_dinner_48 : decode cX12_dinner 48 = .ok (.iload_n 1, 1) := by decide +kernel
theorem dX12_dinner_49 : decode cX12_dinner 49 = .ok (.iadd, 1) := by decide +kernel
theorem dX12_dinner_50 : decode cX12_dinner 50 = .ok (.iaload, 1) := by decide +kernel
theorem dX12_dinner_51 : decode cX12_dinner 51 = .ok (.goto 8, 3) := by decide +kernel
theorem dX12_dinner_54 : decode cX12_dinner 54 = .ok (.aload_n 0, 1) := by decide +kernel
theorem dX12_dinner_55 : decode cX12_dinner 55 = .ok (.iconst 5, 1) := by decide +kernel
theorem dX12_dinner_56 : decode cX12_dinner 56 = .ok (.invokevirtual 325, 3) := by decide +kernel
theorem dX12_dinner_59 : decode cX12_dinner 59 = .ok (.ireturn, 1) := by decide +kernel
theorem mw_X12_dinner : MW yX12_dinner cX12_dinner 3 0 2 false := ⟨tm 2033 (by decide +kernel) rfl, tm 249 (by decide +kernel) rfl, by decide, by decide, (by rw [if_neg (by decide)]; exact ⟨tm 2031 (by decide +kernel) rfl, tm 2032 (by decide +kernel) rfl⟩)⟩
theorem lk_RX12_348 : LK RX12 348 yX12_isDinnerAt := Or.inl (tm 2034 (by decide +kernel) rfl)
def M_dinner (a1 : Int) (a2 : Int) (σ : Sg) : Rs := (nm (up_s σ 0 1 0) (fun s1 => (nm (up_s s1 0 0 0) (fun s2 => (bd (M_isDinnerAt a1 s2) (fun r3 s4 => (if r3 = 0 then (bd (M_refuse 2 s4) (fun r5 s6 => (some (r5, s6)))) else (bd (M_isIn a2 0 2 s4) (fun r7 s8 => (if r7 = 0 then (bd (M_refuse 5 s8) (fun r9 s10 => (some (r9, s10)))) else (rd 2235 (w32 ((w32 (145 + (w32 (6 * a2)))) + a1)) (s8 5 (Int.toNat (w32 ((w32 (145 + (w32 (6 * a2)))) + a1)))) (fun x11 => (some (x11, s8))))))))))))))
theorem ok_M_dinner (a1 : Int) (a2 : Int) (σ : Sg) : MC l Km Pm yX12_dinner cX12_dinner 3 0 3 [.inr (.inr 0), .inl a1, .inl a2] σ (M_dinner a1 a2 σ) := by
  refine mc_of (by decide) (Nat.le_of_ble_eq_true rfl) ?_
  change G l Km Pm RX12 cX12_dinner 3 0 3 0 [some (.inr (.inr 0)), some (.inl a1), some (.inl a2)] [] σ (M_dinner a1 a2 σ)
  unfold M_dinner
  refine g_aload_n dX12_dinner_0 rfl rfl ?_
  refine g_iconst dX12_dinner_1 (by decide) ?_
  refine g_puti fl_RX12_67 km_0 (by decide) dX12_dinner_2 ?_
  intro s1
  refine g_aload_n dX12_dinner_5 rfl rfl ?_
  refine g_iconst dX12_dinner_6 (by decide) ?_
  refine g_puti fl_RX12_70 km_0 (by decide) dX12_dinner_7 ?_
  intro s2
  refine g_aload_n dX12_dinner_10 rfl rfl ?_
  refine g_iload_n dX12_dinner_11 rfl rfl ?_
  refine g_callv3 (st := []) 10 mw_X12_isDinnerAt lk_RX12_348 rfl km_0 (ok_M_isDinnerAt a1 s2) (Nat.le_of_ble_eq_true rfl) rfl rfl (Nat.le_of_ble_eq_true rfl) dX12_dinner_12 ?_
  intro r3 s4
  refine g_ifne (tgt := 24) dX12_dinner_15 (by decide) ?_ ?_
  · refine g_aload_n dX12_dinner_18 rfl rfl ?_
    refine g_iconst dX12_dinner_19 (by decide) ?_
    refine g_callv0 (st := []) 10 mw_X12_refuse lk_RX12_325 rfl km_0 (ok_M_refuse 2 s4) (Nat.le_of_ble_eq_true rfl) rfl rfl (Nat.le_of_ble_eq_true rfl) dX12_dinner_20 ?_
    intro r5 s6
    exact g_iret dX12_dinner_23
  · refine g_iload_n dX12_dinner_24 rfl rfl ?_
    refine g_i2l dX12_dinner_25 ?_
    refine g_lconst (v := 0) dX12_dinner_26 (by decide) ?_
    refine g_ldc2 (n := 2) (tm 2038 (by decide +kernel) rfl) (by decide) dX12_dinner_27 ?_
    refine g_calls3 (st := []) mw_X12_isIn lk_RX12_102 (ok_M_isIn a2 0 2 s4) (Nat.le_of_ble_eq_true rfl) rfl rfl (Nat.le_of_ble_eq_true rfl) dX12_dinner_30 ?_
    intro r7 s8
    refine g_ifeq (tgt := 54) dX12_dinner_33 (by decide) ?_ ?_
    · refine g_aload_n dX12_dinner_54 rfl rfl ?_
      refine g_iconst dX12_dinner_55 (by decide) ?_
      refine g_callv0 (st := []) 10 mw_X12_refuse lk_RX12_325 rfl km_0 (ok_M_refuse 5 s8) (Nat.le_of_ble_eq_true rfl) rfl rfl (Nat.le_of_ble_eq_true rfl) dX12_dinner_56 ?_
      intro r9 s10
      exact g_iret dX12_dinner_59
    · refine g_aload_n dX12_dinner_36 rfl rfl ?_
      refine g_getr' (q := 5) fl_RX12_35 km_0 (by decide) rfl dX12_dinner_37 ?_
      refine g_sipush dX12_dinner_40 (by decide) ?_
      refine g_bipush dX12_dinner_43 (by decide) ?_
      refine g_iload_n dX12_dinner_45 rfl rfl ?_
      refine g_imul dX12_dinner_46 ?_
      refine g_iadd dX12_dinner_47 ?_
      refine g_iload_n dX12_dinner_48 rfl rfl ?_
      refine g_iadd dX12_dinner_49 ?_
      refine g_iald km_5 dX12_dinner_50 ?_
      intro x11
      refine g_goto (tgt := 59) dX12_dinner_51 (by decide) ?_
      exact g_iret dX12_dinner_59
theorem dX12_draw_0 : decode cX12_draw 0 = .ok (.aload_n 0, 1) := by decide +kernel
theorem dX12_draw_1 : decode cX12_draw 1 = .ok (.aload_n 0, 1) := by decide +kernel
theorem dX12_draw_2 : decode cX12_draw 2 = .ok (.getfield 517, 3) := by decide +kernel
theorem dX12_draw_5 : decode cX12_draw 5 = .ok (.sipush 2971, 3) := by decide +kernel
theorem dX12_draw_8 : decode cX12_draw 8 = .ok (.imul, 1) := by decide +kernel
theorem dX12_draw_9 : decode cX12_draw 9 = .ok (.sipush 10789, 3) := by decide +kernel
theorem dX12_draw_12 : decode cX12_draw 12 = .ok (.iadd, 1) := by decide +kernel
theorem dX12_draw_13 : decode cX12_draw 13 = .ok (.ldc_w 520, 3) := by decide +kernel
theorem dX12_draw_16 : decode cX12_draw 16 = .ok (.irem, 1) := by decide +kernel
theorem dX12_draw_17 : decode cX12_draw 17 = .ok (.putfield 517, 3) := by decide +kernel
theorem dX12_draw_20 : decode cX12_draw 20 = .ok (.aload_n 0, 1) := by decide +kernel
theorem dX12_draw_21 : decode cX12_draw 21 = .ok (.getfield 517, 3) := by decide +kernel
theorem dX12_draw_24 : decode cX12_draw 24 = .ok (.bipush 8, 2) := by decide +kernel
theorem dX12_draw_26 : decode cX12_draw 26 = .ok (.idiv, 1) := by decide +kernel
theorem dX12_draw_27 : decode cX12_draw 27 = .ok (.iload_n 1, 1) := by decide +kernel
theorem dX12_draw_28 : decode cX12_draw 28 = .ok (.irem, 1) := by decide +kernel
theorem dX12_draw_29 : decode cX12_draw 29 = .ok (.ireturn, 1) := by decide +kernel
theorem mw_X12_draw : MW yX12_draw cX12_draw 2 0 1 false := ⟨tm 2398 (by decide +kernel) rfl, tm 249 (by decide +kernel) rfl, by decide, by decide, (by rw [if_neg (by decide)]; exact ⟨tm 2397 (by decide +kernel) rfl, tm 232 (by decide +kernel) rfl⟩)⟩
theorem fl_RX12_517 : FL RX12 517 10 37 := ⟨_, _, _, _, cw_10, by decide, Or.inl (by decide), Or.inr (by decide), Or.inl (tm 1605 (by decide +kernel) rfl)⟩
def M_draw (a1 : Int) (σ : Sg) : Rs := (dv 65536 (rm32 (w32 ((w32 ((σ 0 37) * 2971)) + 10789)) 65536) (fun x1 => (nm (up_s σ 0 37 x1) (fun s2 => (dv 8 (dv32 (s2 0 37) 8) (fun x3 => (dv a1 (rm32 x3 a1) (fun x4 => (some (x4, s2))))))))))
theorem ok_M_draw (a1 : Int) (σ : Sg) : MC l Km Pm yX12_draw cX12_draw 2 0 1 [.inr (.inr 0), .inl a1] σ (M_draw a1 σ) := by
  refine mc_of (by decide) (Nat.le_of_ble_eq_true rfl) ?_
  change G l Km Pm RX12 cX12_draw 2 0 1 0 [some (.inr (.inr 0)), some (.inl a1)] [] σ (M_draw a1 σ)
  unfold M_draw
  refine g_aload_n dX12_draw_0 rfl rfl ?_
  refine g_aload_n dX12_draw_1 rfl rfl ?_
  refine g_geti fl_RX12_517 km_0 (by decide) dX12_draw_2 ?_
  refine g_sipush dX12_draw_5 (by decide) ?_
  refine g_imul dX12_draw_8 ?_
  refine g_sipush dX12_draw_9 (by decide) ?_
  refine g_iadd dX12_draw_12 ?_
  refine g_ldcw (n := 65536) (tm 2399 (by decide +kernel) rfl) (by decide) dX12_draw_13 ?_
  refine g_irem dX12_draw_16 ?_
  intro x1
  refine g_puti fl_RX12_517 km_0 (by decide) dX12_draw_17 ?_
  intro s2
  refine g_aload_n dX12_draw_20 rfl rfl ?_
  refine g_geti fl_RX12_517 km_0 (by decide) dX12_draw_21 ?_
  refine g_bipush dX12_draw_24 (by decide) ?_
  refine g_idiv dX12_draw_26 ?_
  intro x3
  refine g_iload_n dX12_draw_27 rfl rfl ?_
  refine g_irem dX12_draw_28 ?_
  intro x4
  exact g_iret dX12_draw_29
theorem dX12_isSaid_0 : decode cX12_isSaid 0 = .ok (.aload_n 0, 1) := by decide +kernel
theorem dX12_isSaid_1 : decode cX12_isSaid 1 = .ok (.iload_n 1, 1) := by decide +kernel
theorem dX12_isSaid_2 : decode cX12_isSaid 2 = .ok (.iload_n 2, 1) := by decide +kernel
theorem dX12_isSaid_3 : decode cX12_isSaid 3 = .ok (.iload_n 3, 1) := by decide +kernel
theorem dX12_isSaid_4 : decode cX12_isSaid 4 = .ok (.invokevirtual 369, 3) := by decide +kernel
theorem dX12_isSaid_7 : decode cX12_isSaid 7 = .ok (.ifCond .ne 5, 3) := by decide +kernel
theorem dX12_isSaid_10 : decode cX12_isSaid 10 = .ok (.iconst 0, 1) := by decide +kernel
theorem dX12_isSaid_11 : decode cX12_isSaid 11 = .ok (.ireturn, 1) := by decide +kernel
theorem dX12_isSaid_12 : decode cX12_isSaid 12 = .ok (.aload_n 0, 1) := by decide +kernel
theorem dX12_isSaid_13 : decode cX12_isSaid 13 = .ok (.dup, 1) := by decide +kernel
theorem dX12_isSaid_14 : decode cX12_isSaid 14 = .ok (.getfield 521, 3) := by decide +kernel
theorem dX12_isSaid_17 : decode cX12_isSaid 17 = .ok (.iconst 1, 1) := by decide +kernel
theorem dX12_isSaid_18 : decode cX12_isSaid 18 = .ok (.iadd, 1) := by decide +kernel
theorem dX12_isSaid_19 : decode cX12_isSaid 19 = .ok (.putfield 521, 3) := by decide +kernel
theorem dX12_isSaid_22 : decode cX12_isSaid 22 = .ok (.iconst 1, 1) := by decide +kernel
theorem dX12_isSaid_23 : decode cX12_isSaid 23 = .ok (.ireturn, 1) := by decide +kernel
theorem mw_X12_isSaid : MW yX12_isSaid cX12_isSaid 4 3 3 false := ⟨tm 2386 (by decide +kernel) rfl, tm 249 (by decide +kernel) rfl, by decide, by decide, (by rw [if_neg (by decide)]; exact ⟨tm 2385 (by decide +kernel) rfl, tm 229 (by decide +kernel) rfl⟩)⟩
def M_isSaid (a1 : Int) (a2 : Int) (a3 : Int) (σ : Sg) : Rs := (bd (M_says a1 a2 a3 σ) (fun r1 s2 => (if r1 = 0 then (some (0, s2)) else (nm (up_s s2 0 41 (w32 ((s2 0 41) + 1))) (fun s3 => (some (1, s3)))))))
theorem ok_M_isSaid (a1 : Int) (a2 : Int) (a3 : Int) (σ : Sg) : MC l Km Pm yX12_isSaid cX12_isSaid 4 3 4 [.inr (.inr 0), .inl a1, .inl a2, .inl a3] σ (M_isSaid a1 a2 a3 σ) := by
  refine mc_of (by decide) (Nat.le_of_ble_eq_true rfl) ?_
  change G l Km Pm RX12 cX12_isSaid 4 3 4 0 [some (.inr (.inr 0)), some (.inl a1), some (.inl a2), some (.inl a3)] [] σ (M_isSaid a1 a2 a3 σ)
  unfold M_isSaid
  refine g_aload_n dX12_isSaid_0 rfl rfl ?_
  refine g_iload_n dX12_isSaid_1 rfl rfl ?_
  refine g_iload_n dX12_isSaid_2 rfl rfl ?_
  refine g_iload_n dX12_isSaid_3 rfl rfl ?_
  refine g_callv3 (st := []) 10 mw_X12_says lk_RX12_369 rfl km_0 (ok_M_says a1 a2 a3 σ) (Nat.le_of_ble_eq_true rfl) rfl rfl (Nat.le_of_ble_eq_true rfl) dX12_isSaid_4 ?_
  intro r1 s2
  refine g_ifne (tgt := 12) dX12_isSaid_7 (by decide) ?_ ?_
  · refine g_iconst dX12_isSaid_10 (by decide) ?_
    exact g_zret0 dX12_isSaid_11
  · refine g_aload_n dX12_isSaid_12 rfl rfl ?_
    refine g_dup dX12_isSaid_13 rfl ?_
    refine g_geti fl_RX12_521 km_0 (by decide) dX12_isSaid_14 ?_
    refine g_iconst dX12_isSaid_17 (by decide) ?_
    refine g_iadd dX12_isSaid_18 ?_
    refine g_puti fl_RX12_521 km_0 (by decide) dX12_isSaid_19 ?_
    intro s3
    refine g_iconst dX12_isSaid_22 (by decide) ?_
    exact g_zret1 dX12_isSaid_23
theorem dX12_isAny_0 : decode cX12_isAny 0 = .ok (.aload_n 0, 1) := by decide +kernel
theorem dX12_isAny_1 : decode cX12_isAny 1 = .ok (.getfield 35, 3) := by decide +kernel
theorem dX12_isAny_4 : decode cX12_isAny 4 = .ok (.iconst 1, 1) := by decide +kernel
theorem dX12_isAny_5 : decode cX12_isAny 5 = .ok (.iaload, 1) := by decide +kernel
theorem dX12_isAny_6 : decode cX12_isAny 6 = .ok (.ifCond .eq 12, 3) := by decide +kernel
theorem dX12_isAny_9 : decode cX12_isAny 9 = .ok (.aload_n 0, 1) := by decide +kernel
theorem dX12_isAny_10 : decode cX12_isAny 10 = .ok (.getfield 35, 3) := by decide +kernel
theorem dX12_isAny_13 : decode cX12_isAny 13 = .ok (.iconst 0, 1) := by decide +kernel
theorem dX12_isAny_14 : decode cX12_isAny 14 = .ok (.iaload, 1) := by decide +kernel
theorem dX12_isAny_15 : decode cX12_isAny 15 = .ok (.ifCond .ne 5, 3) := by decide +kernel
theorem dX12_isAny_18 : decode cX12_isAny 18 = .ok (.iconst 0, 1) := by decide +kernel
theorem dX12_isAny_19 : decode cX12_isAny 19 = .ok (.ireturn, 1) := by decide +kernel
theorem dX12_isAny_20 : decode cX12_isAny 20 = .ok (.aload_n 0, 1) := by decide +kernel
theorem dX12_isAny_21 : decode cX12_isAny 21 = .ok (.aload_n 0, 1) := by decide +kernel
theorem dX12_isAny_22 : decode cX12_isAny 22 = .ok (.getfield 35, 3) := by decide +kernel
theorem dX12_isAny_25 : decode cX12_isAny 25 = .ok (.iconst 1, 1) := by decide +kernel
theorem dX12_isAny_26 : decode cX12_isAny 26 = .ok (.iaload, 1) := by decide +kernel
theorem dX12_isAny_27 : decode cX12_isAny 27 = .ok (.invokevirtual 527, 3) := by decide +kernel
theorem dX12_isAny_30 : decode cX12_isAny 30 = .ok (.istore_n 1, 1) := by decide +kernel
theorem dX12_isAny_31 : decode cX12_isAny 31 = .ok (.aload_n 0, 1) := by decide +kernel
theorem dX12_isAny_32 : decode cX12_isAny 32 = .ok (.aload_n 0, 1) := by decide +kernel
theorem dX12_isAny_33 : decode cX12_isAny 33 = .ok (.getfield 35, 3) := by decide +kernel
theorem dX12_isAny_36 : decode cX12_isAny 36 = .ok (.iconst 0, 1) := by decide +kernel
theorem dX12_isAny_37 : decode cX12_isAny 37 = .ok (.iaload, 1) := by decide +kernel
theorem dX12_isAny_38 : decode cX12_isAny 38 = .ok (.invokevirtual 527, 3) := by decide +kernel
theorem dX12_isAny_41 : decode cX12_isAny 41 = .ok (.istore_n 2, 1) := by decide +kernel
theorem dX12_isAny_42 : decode cX12_isAny 42 = .ok (.aload_n 0, 1) := by decide +kernel
theorem dX12_isAny_43 : decode cX12_isAny 43 = .ok (.iload_n 1, 1) := by decide +kernel
theorem dX12_isAny_44 : decode cX12_isAny 44 = .ok (.iload_n 2, 1) := by decide +kernel
theorem dX12_isAny_45 : decode cX12_isAny 45 = .ok (.aload_n 0, 1) := by decide +kernel
theorem dX12_isAny_46 : decode cX12_isAny 46 = .ok (.aload_n 0, 1) := by decide +kernel
theorem dX12_isAny_47 : decode cX12_isAny 47 = .ok (.getfield 35, 3) := by decide +kernel
theorem dX12_isAny_50 : decode cX12_isAny 50 = .ok (.iconst 1, 1) := by decide +kernel
theorem dX12_isAny_51 : decode cX12_isAny 51 = .ok (.iaload, 1) := by decide +kernel
theorem dX12_isAny_52 : decode cX12_isAny 52 = .ok (.invokevirtual 527, 3) := by decide +kernel
theorem dX12_isAny_55 : decode cX12_isAny 55 = .ok (.invokevirtual 530, 3) := by decide +kernel
theorem dX12_isAny_58 : decode cX12_isAny 58 = .ok (.ireturn, 1) := by decide +kernel
theorem mw_X12_isAny : MW yX12_isAny cX12_isAny 3 3 0 false := ⟨tm 2394 (by decide +kernel) rfl, tm 249 (by decide +kernel) rfl, by decide, by decide, (by rw [if_neg (by decide)]; exact ⟨tm 2393 (by decide +kernel) rfl, tm 231 (by decide +kernel) rfl⟩)⟩
theorem lk_RX12_527 : LK RX12 527 yX12_draw := Or.inl (tm 2395 (by decide +kernel) rfl)
theorem lk_RX12_530 : LK RX12 530 yX12_isSaid := Or.inl (tm 2383 (by decide +kernel) rfl)
def M_isAny  (σ : Sg) : Rs := (rd 2235 1 (σ 5 (Int.toNat 1)) (fun x1 => (if x1 = 0 then (some (0, σ)) else (rd 2235 0 (σ 5 (Int.toNat 0)) (fun x2 => (if x2 = 0 then (some (0, σ)) else (rd 2235 1 (σ 5 (Int.toNat 1)) (fun x3 => (bd (M_draw x3 σ) (fun r4 s5 => (rd 2235 0 (s5 5 (Int.toNat 0)) (fun x6 => (bd (M_draw x6 s5) (fun r7 s8 => (rd 2235 1 (s8 5 (Int.toNat 1)) (fun x9 => (bd (M_draw x9 s8) (fun r10 s11 => (bd (M_isSaid r4 r7 r10 s11) (fun r12 s13 => (zb r12 (some (r12, s13)))))))))))))))))))))))
theorem ok_M_isAny (σ : Sg) : MC l Km Pm yX12_isAny cX12_isAny 3 3 5 [.inr (.inr 0)] σ (M_isAny σ) := by
  refine mc_of (by decide) (Nat.le_of_ble_eq_true rfl) ?_
  change G l Km Pm RX12 cX12_isAny 3 3 5 0 [some (.inr (.inr 0)), none, none] [] σ (M_isAny  σ)
  unfold M_isAny
  refine g_aload_n dX12_isAny_0 rfl rfl ?_
  refine g_getr' (q := 5) fl_RX12_35 km_0 (by decide) rfl dX12_isAny_1 ?_
  refine g_iconst dX12_isAny_4 (by decide) ?_
  refine g_iald km_5 dX12_isAny_5 ?_
  intro x1
  refine g_ifeq (tgt := 18) dX12_isAny_6 (by decide) ?_ ?_
  · refine g_iconst dX12_isAny_18 (by decide) ?_
    exact g_zret0 dX12_isAny_19
  · refine g_aload_n dX12_isAny_9 rfl rfl ?_
    refine g_getr' (q := 5) fl_RX12_35 km_0 (by decide) rfl dX12_isAny_10 ?_
    refine g_iconst dX12_isAny_13 (by decide) ?_
    refine g_iald km_5 dX12_isAny_14 ?_
    intro x2
    refine g_ifne (tgt := 20) dX12_isAny_15 (by decide) ?_ ?_
    · refine g_iconst dX12_isAny_18 (by decide) ?_
      exact g_zret0 dX12_isAny_19
    · refine g_aload_n dX12_isAny_20 rfl rfl ?_
      refine g_aload_n dX12_isAny_21 rfl rfl ?_
      refine g_getr' (q := 5) fl_RX12_35 km_0 (by decide) rfl dX12_isAny_22 ?_
      refine g_iconst dX12_isAny_25 (by decide) ?_
      refine g_iald km_5 dX12_isAny_26 ?_
      intro x3
      refine g_callv0 (st := []) 10 mw_X12_draw lk_RX12_527 rfl km_0 (ok_M_draw x3 σ) (Nat.le_of_ble_eq_true rfl) rfl rfl (Nat.le_of_ble_eq_true rfl) dX12_isAny_27 ?_
      intro r4 s5
      refine g_istore_n (lv' := [some (.inr (.inr 0)), some (.inl r4), none]) dX12_isAny_30 rfl (Nat.le_of_ble_eq_true rfl) rfl ?_
      refine g_aload_n dX12_isAny_31 rfl rfl ?_
      refine g_aload_n dX12_isAny_32 rfl rfl ?_
      refine g_getr' (q := 5) fl_RX12_35 km_0 (by decide) rfl dX12_isAny_33 ?_
      refine g_iconst dX12_isAny_36 (by decide) ?_
      refine g_iald km_5 dX12_isAny_37 ?_
      intro x6
      refine g_callv0 (st := []) 10 mw_X12_draw lk_RX12_527 rfl km_0 (ok_M_draw x6 s5) (Nat.le_of_ble_eq_true rfl) rfl rfl (Nat.le_of_ble_eq_true rfl) dX12_isAny_38 ?_
      intro r7 s8
      refine g_istore_n (lv' := [some (.inr (.inr 0)), some (.inl r4), some (.inl r7)]) dX12_isAny_41 rfl (Nat.le_of_ble_eq_true rfl) rfl ?_
      refine g_aload_n dX12_isAny_42 rfl rfl ?_
      refine g_iload_n dX12_isAny_43 rfl rfl ?_
      refine g_iload_n dX12_isAny_44 rfl rfl ?_
      refine g_aload_n dX12_isAny_45 rfl rfl ?_
      refine g_aload_n dX12_isAny_46 rfl rfl ?_
      refine g_getr' (q := 5) fl_RX12_35 km_0 (by decide) rfl dX12_isAny_47 ?_
      refine g_iconst dX12_isAny_50 (by decide) ?_
      refine g_iald km_5 dX12_isAny_51 ?_
      intro x9
      refine g_callv0 (st := [.inl r7, .inl r4, .inr (.inr 0)]) 10 mw_X12_draw lk_RX12_527 rfl km_0 (ok_M_draw x9 s8) (Nat.le_of_ble_eq_true rfl) rfl rfl (Nat.le_of_ble_eq_true rfl) dX12_isAny_52 ?_
      intro r10 s11
      refine g_callv3 (st := []) 10 mw_X12_isSaid lk_RX12_530 rfl km_0 (ok_M_isSaid r4 r7 r10 s11) (Nat.le_of_ble_eq_true rfl) rfl rfl (Nat.le_of_ble_eq_true rfl) dX12_isAny_55 ?_
      intro r12 s13
      exact g_zret dX12_isAny_58
theorem dX12_isCut_0 : decode cX12_isCut 0 = .ok (.aload_n 0, 1) := by decide +kernel
theorem dX12_isCut_1 : decode cX12_isCut 1 = .ok (.iload_n 1, 1) := by decide +kernel
theorem dX12_isCut_2 : decode cX12_isCut 2 = .ok (.iload_n 2, 1) := by decide +kernel
theorem dX12_isCut_3 : decode cX12_isCut 3 = .ok (.invokevirtual 393, 3) := by decide +kernel
theorem dX12_isCut_6 : decode cX12_isCut 6 = .ok (.ifCond .ge 5, 3) := by decide +kernel
theorem dX12_isCut_9 : decode cX12_isCut 9 = .ok (.iconst 0, 1) := by decide +kernel
theorem dX12_isCut_10 : decode cX12_isCut 10 = .ok (.ireturn, 1) := by decide +kernel
theorem dX12_isCut_11 : decode cX12_isCut 11 = .ok (.aload_n 0, 1) := by decide +kernel
theorem dX12_isCut_12 : decode cX12_isCut 12 = .ok (.dup, 1) := by decide +kernel
theorem dX12_isCut_13 : decode cX12_isCut 13 = .ok (.getfield 533, 3) := by decide +kernel
theorem dX12_isCut_16 : decode cX12_isCut 16 = .ok (.iconst 1, 1) := by decide +kernel
theorem dX12_isCut_17 : decode cX12_isCut 17 = .ok (.iadd, 1) := by decide +kernel
theorem dX12_isCut_18 : decode cX12_isCut 18 = .ok (.putfield 533, 3) := by decide +kernel
theorem dX12_isCut_21 : decode cX12_isCut 21 = .ok (.iconst 1, 1) := by decide +kernel
theorem dX12_isCut_22 : decode cX12_isCut 22 = .ok (.ireturn, 1) := by decide +kernel
theorem mw_X12_isCut : MW yX12_isCut cX12_isCut 3 3 2 false := ⟨tm 2390 (by decide +kernel) rfl, tm 249 (by decide +kernel) rfl, by decide, by decide, (by rw [if_neg (by decide)]; exact ⟨tm 2389 (by decide +kernel) rfl, tm 230 (by decide +kernel) rfl⟩)⟩
theorem fl_RX12_533 : FL RX12 533 10 42 := ⟨_, _, _, _, cw_10, by decide, Or.inl (by decide), Or.inr (by decide), Or.inl (tm 1610 (by decide +kernel) rfl)⟩
def M_isCut (a1 : Int) (a2 : Int) (σ : Sg) : Rs := (bd (M_cuts a1 a2 σ) (fun r1 s2 => (if r1 < 0 then (some (0, s2)) else (nm (up_s s2 0 42 (w32 ((s2 0 42) + 1))) (fun s3 => (some (1, s3)))))))
theorem ok_M_isCut (a1 : Int) (a2 : Int) (σ : Sg) : MC l Km Pm yX12_isCut cX12_isCut 3 3 4 [.inr (.inr 0), .inl a1, .inl a2] σ (M_isCut a1 a2 σ) := by
  refine mc_of (by decide) (Nat.le_of_ble_eq_true rfl) ?_
  change G l Km Pm RX12 cX12_isCut 3 3 4 0 [some (.inr (.inr 0)), some (.inl a1), some (.inl a2)] [] σ (M_isCut a1 a2 σ)
  unfold M_isCut
  refine g_aload_n dX12_isCut_0 rfl rfl ?_
  refine g_iload_n dX12_isCut_1 rfl rfl ?_
  refine g_iload_n dX12_isCut_2 rfl rfl ?_
  refine g_callv0 (st := []) 10 mw_X12_cuts lk_RX12_393 rfl km_0 (ok_M_cuts a1 a2 σ) (Nat.le_of_ble_eq_true rfl) rfl rfl (Nat.le_of_ble_eq_true rfl) dX12_isCut_3 ?_
  intro r1 s2
  refine g_ifge (tgt := 11) dX12_isCut_6 (by decide) ?_ ?_
  · refine g_iconst dX12_isCut_9 (by decide) ?_
    exact g_zret0 dX12_isCut_10
  · refine g_aload_n dX12_isCut_11 rfl rfl ?_
    refine g_dup dX12_isCut_12 rfl ?_
    refine g_geti fl_RX12_533 km_0 (by decide) dX12_isCut_13 ?_
    refine g_iconst dX12_isCut_16 (by decide) ?_
    refine g_iadd dX12_isCut_17 ?_
    refine g_puti fl_RX12_533 km_0 (by decide) dX12_isCut_18 ?_
    intro s3
    refine g_iconst dX12_isCut_21 (by decide) ?_
    exact g_zret1 dX12_isCut_22
theorem dX12_keepsNow_0 : decode cX12_keepsNow 0 = .ok (.aload_n 0, 1) := by decide +kernel
theorem dX12_keepsNow_1 : decode cX12_keepsNow 1 = .ok (.iload_n 1, 1) := by decide +kernel
theorem dX12_keepsNow_2 : decode cX12_keepsNow 2 = .ok (.iload_n 2, 1) := by decide +kernel
theorem dX12_keepsNow_3 : decode cX12_keepsNow 3 = .ok (.invokevirtual 366, 3) := by decide +kernel
theorem dX12_keepsNow_6 : decode cX12_keepsNow 6 = .ok (.ifCond .eq 12, 3) := by decide +kernel
theorem dX12_keepsNow_9 : decode cX12_keepsNow 9 = .ok (.aload_n 0, 1) := by decide +kernel
theorem dX12_keepsNow_10 : decode cX12_keepsNow 10 = .ok (.iload_n 1, 1) := by decide +kernel
theorem dX12_keepsNow_11 : decode cX12_keepsNow 11 = .ok (.iload_n 2, 1) := by decide +kernel
theorem dX12_keepsNow_12 : decode cX12_keepsNow 12 = .ok (.invokevirtual 317, 3) := by decide +kernel
theorem dX12_keepsNow_15 : decode cX12_keepsNow 15 = .ok (.ifCond .eq 5, 3) := by decide +kernel
theorem dX12_keepsNow_18 : decode cX12_keepsNow 18 = .ok (.iconst 0, 1) := by decide +kernel
theorem dX12_keepsNow_19 : decode cX12_keepsNow 19 = .ok (.ireturn, 1) := by decide +kernel
theorem dX12_keepsNow_20 : decode cX12_keepsNow 20 = .ok (.aload_n 0, 1) := by decide +kernel
theorem dX12_keepsNow_21 : decode cX12_keepsNow 21 = .ok (.iload_n 1, 1) := by decide +kernel
theorem dX12_keepsNow_22 : decode cX12_keepsNow 22 = .ok (.iload_n 2, 1) := by decide +kernel
theorem dX12_keepsNow_23 : decode cX12_keepsNow 23 = .ok (.invokevirtual 384, 3) := by decide +kernel
theorem dX12_keepsNow_26 : decode cX12_keepsNow 26 = .ok (.iconst 1, 1) := by decide +kernel
theorem dX12_keepsNow_27 : decode cX12_keepsNow 27 = .ok (.ireturn, 1) := by decide +kernel
theorem mw_X12_keepsNow : MW yX12_keepsNow cX12_keepsNow 3 3 2 false := ⟨tm 2094 (by decide +kernel) rfl, tm 249 (by decide +kernel) rfl, by decide, by decide, (by rw [if_neg (by decide)]; exact ⟨tm 2093 (by decide +kernel) rfl, tm 191 (by decide +kernel) rfl⟩)⟩
def M_keepsNow (a1 : Int) (a2 : Int) (σ : Sg) : Rs := (bd (M_knows a1 a2 σ) (fun r1 s2 => (if r1 = 0 then (some (0, s2)) else (bd (M_keeps a1 a2 s2) (fun r3 s4 => (if r3 = 0 then (bd (M_strandIs a1 a2 s4) (fun r5 s6 => (some (1, s6)))) else (some (0, s4))))))))
theorem ok_M_keepsNow (a1 : Int) (a2 : Int) (σ : Sg) : MC l Km Pm yX12_keepsNow cX12_keepsNow 3 3 3 [.inr (.inr 0), .inl a1, .inl a2] σ (M_keepsNow a1 a2 σ) := by
  refine mc_of (by decide) (Nat.le_of_ble_eq_true rfl) ?_
  change G l Km Pm RX12 cX12_keepsNow 3 3 3 0 [some (.inr (.inr 0)), some (.inl a1), some (.inl a2)] [] σ (M_keepsNow a1 a2 σ)
  unfold M_keepsNow
  refine g_aload_n dX12_keepsNow_0 rfl rfl ?_
  refine g_iload_n dX12_keepsNow_1 rfl rfl ?_
  refine g_iload_n dX12_keepsNow_2 rfl rfl ?_
  refine g_callv3 (st := []) 10 mw_X12_knows lk_RX12_366 rfl km_0 (ok_M_knows a1 a2 σ) (Nat.le_of_ble_eq_true rfl) rfl rfl (Nat.le_of_ble_eq_true rfl) dX12_keepsNow_3 ?_
  intro r1 s2
  refine g_ifeq (tgt := 18) dX12_keepsNow_6 (by decide) ?_ ?_
  · refine g_iconst dX12_keepsNow_18 (by decide) ?_
    exact g_zret0 dX12_keepsNow_19
  · refine g_aload_n dX12_keepsNow_9 rfl rfl ?_
    refine g_iload_n dX12_keepsNow_10 rfl rfl ?_
    refine g_iload_n dX12_keepsNow_11 rfl rfl ?_
    refine g_callv3 (st := []) 10 mw_X12_keeps lk_RX12_317 rfl km_0 (ok_M_keeps a1 a2 s2) (Nat.le_of_ble_eq_true rfl) rfl rfl (Nat.le_of_ble_eq_true rfl) dX12_keepsNow_12 ?_
    intro r3 s4
    refine g_ifeq (tgt := 20) dX12_keepsNow_15 (by decide) ?_ ?_
    · refine g_aload_n dX12_keepsNow_20 rfl rfl ?_
      refine g_iload_n dX12_keepsNow_21 rfl rfl ?_
      refine g_iload_n dX12_keepsNow_22 rfl rfl ?_
      refine g_callv2 (st := []) 10 mw_X12_strandIs lk_RX12_384 rfl km_0 (ok_M_strandIs a1 a2 s4) (Nat.le_of_ble_eq_true rfl) rfl rfl (Nat.le_of_ble_eq_true rfl) dX12_keepsNow_23 ?_
      intro r5 s6
      refine g_iconst dX12_keepsNow_26 (by decide) ?_
      exact g_zret1 dX12_keepsNow_27
    · refine g_iconst dX12_keepsNow_18 (by decide) ?_
      exact g_zret0 dX12_keepsNow_19
theorem dX12_does_0 : decode cX12_does 0 = .ok (.aload_n 0, 1) := by decide +kernel
theorem dX12_does_1 : decode cX12_does 1 = .ok (.getfield 35, 3) := by decide +kernel
theorem dX12_does_4 : decode cX12_does 4 = .ok (.iload_n 1, 1) := by decide +kernel
theorem dX12_does_5 : decode cX12_does 5 = .ok (.iaload, 1) := by decide +kernel
theorem dX12_does_6 : decode cX12_does 6 = .ok (.istore_n 2, 1) := by decide +kernel
theorem dX12_does_7 : decode cX12_does 7 = .ok (.iload_n 2, 1) := by decide +kernel
theorem dX12_does_8 : decode cX12_does 8 = .ok (.ifCond .ne 16, 3) := by decide +kernel
theorem dX12_does_11 : decode cX12_does 11 = .ok (.aload_n 0, 1) := by decide +kernel
theorem dX12_does_12 : decode cX12_does 12 = .ok (.aload_n 0, 1) := by decide +kernel
theorem dX12_does_13 : decode cX12_does 13 = .ok (.getfield 35, 3) := by decide +kernel
theorem dX12_does_16 : decode cX12_does 16 = .ok (.iload_n 1, 1) := by decide +kernel
theorem dX12_does_17 : decode cX12_does 17 = .ok (.iconst 1, 1) := by decide +kernel
theorem dX12_does_18 : decode cX12_does 18 = .ok (.iadd, 1) := by decide +kernel
theorem dX12_does_19 : decode cX12_does 19 = .ok (.iaload, 1) := by decide +kernel
theorem dX12_does_20 : decode cX12_does 20 = .ok (.invokevirtual 536, 3) := by decide +kernel
theorem dX12_does_23 : decode cX12_does 23 = .ok (.ireturn, 1) := by decide +kernel
theorem dX12_does_24 : decode cX12_does 24 = .ok (.iload_n 2, 1) := by decide +kernel
theorem dX12_does_25 : decode cX12_does 25 = .ok (.iconst 1, 1) := by decide +kernel
theorem dX12_does_26 : decode cX12_does 26 = .ok (.if_icmp .ne 24, 3) := by decide +kernel
theorem dX12_does_29 : decode cX12_does 29 = .ok (.aload_n 0, 1) := by decide +kernel
theorem dX12_does_30 : decode cX12_does 30 = .ok (.aload_n 0, 1) := by decide +kernel
theorem dX12_does_31 : decode cX12_does 31 = .ok (.getfield 35, 3) := by decide +kernel
theorem dX12_does_34 : decode cX12_does 34 = .ok (.iload_n 1, 1) := by decide +kernel
theorem dX12_does_35 : decode cX12_does 35 = .ok (.iconst 1, 1) := by decide +kernel
theorem dX12_does_36 : decode cX12_does 36 = .ok (.iadd, 1) := by decide +kernel
theorem dX12_does_37 : decode cX12_does 37 = .ok (.iaload, 1) := by decide +kernel
theorem dX12_does_38 : decode cX12_does 38 = .ok (.aload_n 0, 1) := by decide +kernel
theorem dX12_does_39 : decode cX12_does 39 = .ok (.getfield 35, 3) := by decide +kernel
theorem dX12_does_42 : decode cX12_does 42 = .ok (.iload_n 1, 1) := by decide +kernel
theorem dX12_does_43 : decode cX12_does 43 = .ok (.iconst 2, 1) := by decide +kernel
theorem dX12_does_44 : decode cX12_does 44 = .ok (.iadd, 1) := by decide +kernel
theorem dX12_does_45 : decode cX12_does 45 = .ok (.iaload, 1) := by decide +kernel
theorem dX12_does_46 : decode cX12_does 46 = .ok (.invokevirtual 387, 3) := by decide +kernel
theorem dX12_does_49 : decode cX12_does 49 = .ok (.ireturn, 1) := by decide +kernel
theorem dX12_does_50 : decode cX12_does 50 = .ok (.iload_n 2, 1) := by decide +kernel
theorem dX12_does_51 : decode cX12_does 51 = .ok (.iconst 2, 1) := by decide +kernel
theorem dX12_does_52 : decode cX12_does 52 = .ok (.if_icmp .ne 32, 3) := by decide +kernel
theorem dX12_does_55 : decode cX12_does 55 = .ok (.aload_n 0, 1) := by decide +kernel
theorem dX12_does_56 : decode cX12_does 56 = .ok (.aload_n 0, 1) := by decide +kernel
theorem dX12_does_57 : decode cX12_does 57 = .ok (.getfield 35, 3) := by decide +kernel
theorem dX12_does_60 : decode cX12_does 60 = .ok (.iload_n 1, 1) := by decide +kernel
theorem dX12_does_61 : decode cX12_does 61 = .ok (.iconst 1, 1) := by decide +kernel
theorem dX12_does_62 : decode cX12_does 62 = .ok (.iadd, 1) := by decide +kernel
theorem dX12_does_63 : decode cX12_does 63 = .ok (.iaload, 1) := by decide +kernel
theorem dX12_does_64 : decode cX12_does 64 = .ok (.aload_n 0, 1) := by decide +kernel
theorem dX12_does_65 : decode cX12_does 65 = .ok (.getfield 35, 3) := by decide +kernel
theorem dX12_does_68 : decode cX12_does 68 = .ok (.iload_n 1, 1) := by decide +kernel
theorem dX12_does_69 : decode cX12_does 69 = .ok (.iconst 2, 1) := by decide +kernel
theorem dX12_does_70 : decode cX12_does 70 = .ok (.iadd, 1) := by decide +kernel
theorem dX12_does_71 : decode cX12_does 71 = .ok (.iaload, 1) := by decide +kernel
theorem dX12_does_72 : decode cX12_does 72 = .ok (.aload_n 0, 1) := by decide +kernel
theorem dX12_does_73 : decode cX12_does 73 = .ok (.getfield 35, 3) := by decide +kernel
theorem dX12_does_76 : decode cX12_does 76 = .ok (.iload_n 1, 1) := by decide +kernel
theorem dX12_does_77 : decode cX12_does 77 = .ok (.iconst 3, 1) := by decide +kernel
theorem dX12_does_78 : decode cX12_does 78 = .ok (.iadd, 1) := by decide +kernel
theorem dX12_does_79 : decode cX12_does 79 = .ok (.iaload, 1) := by decide +kernel
theorem dX12_does_80 : decode cX12_does 80 = .ok (.invokevirtual 530, 3) := by decide +kernel
theorem dX12_does_83 : decode cX12_does 83 = .ok (.ireturn, 1) := by decide +kernel
theorem dX12_does_84 : decode cX12_does 84 = .ok (.iload_n 2, 1) := by decide +kernel
theorem dX12_does_85 : decode cX12_does 85 = .ok (.iconst 3, 1) := by decide +kernel
theorem dX12_does_86 : decode cX12_does 86 = .ok (.if_icmp .ne 26, 3) := by decide +kernel
theorem dX12_does_89 : decode cX12_does 89 = .ok (.aload_n 0, 1) := by decide +kernel
theorem dX12_does_90 : decode cX12_does 90 = .ok (.aload_n 0, 1) := by decide +kernel
theorem dX12_does_91 : decode cX12_does 91 = .ok (.getfield 35, 3) := by decide +kernel
theorem dX12_does_94 : decode cX12_does 94 = .ok (.iload_n 1, 1) := by decide +kernel
theorem dX12_does_95 : decode cX12_does 95 = .ok (.iconst 1, 1) := by decide +kernel
theorem dX12_does_96 : decode cX12_does 96 = .ok (.iadd, 1) := by decide +kernel
theorem dX12_does_97 : decode cX12_does 97 = .ok (.iaload, 1) := by decide +kernel
theorem dX12_does_98 : decode cX12_does 98 = .ok (.aload_n 0, 1) := by decide +kernel
theorem dX12_does_99 : decode cX12_does 99 = .ok (.getfield 35, 3) := by decide +kernel
theorem dX12_does_102 : decode cX12_does 102 = .ok (.iload_n 1, 1) := by decide +kernel
theorem dX12_does_103 : decode cX12_does 103 = .ok (.iconst 3, 1) := by decide +kernel
theorem dX12_does_104 : decode cX12_does 104 = .ok (.iadd, 1) := by decide +kernel
theorem dX12_does_105 : decode cX12_does 105 = .ok (.iaload, 1) := by decide +kernel
theorem dX12_does_106 : decode cX12_does 106 = .ok (.invokevirtual 539, 3) := by decide +kernel
theorem dX12_does_109 : decode cX12_does 109 = .ok (.goto 7, 3) := by decide +kernel
theorem dX12_does_112 : decode cX12_does 112 = .ok (.aload_n 0, 1) := by decide +kernel
theorem dX12_does_113 : decode cX12_does 113 = .ok (.invokevirtual 542, 3) := by decide +kernel
theorem dX12_does_116 : decode cX12_does 116 = .ok (.ireturn, 1) := by decide +kernel
theorem mw_X12_does : MW yX12_does cX12_does 3 3 1 false := ⟨tm 2378 (by decide +kernel) rfl, tm 249 (by decide +kernel) rfl, by decide, by decide, (by rw [if_neg (by decide)]; exact ⟨tm 2377 (by decide +kernel) rfl, tm 227 (by decide +kernel) rfl⟩)⟩
theorem lk_RX12_387 : LK RX12 387 yX12_keepsNow := Or.inl (tm 2091 (by decide +kernel) rfl)
theorem lk_RX12_536 : LK RX12 536 yX12_anyDays := Or.inl (tm 2379 (by decide +kernel) rfl)
theorem lk_RX12_539 : LK RX12 539 yX12_isCut := Or.inl (tm 2387 (by decide +kernel) rfl)
theorem lk_RX12_542 : LK RX12 542 yX12_isAny := Or.inl (tm 2391 (by decide +kernel) rfl)
def M_does (a1 : Int) (σ : Sg) : Rs := (rd 2235 a1 (σ 5 (Int.toNat a1)) (fun x1 => (if x1 = 0 then (rd 2235 (w32 (a1 + 1)) (σ 5 (Int.toNat (w32 (a1 + 1)))) (fun x2 => (bd (M_anyDays x2 σ) (fun r3 s4 => (zb r3 (some (r3, s4))))))) else (if x1 = 1 then (rd 2235 (w32 (a1 + 1)) (σ 5 (Int.toNat (w32 (a1 + 1)))) (fun x5 => (rd 2235 (w32 (a1 + 2)) (σ 5 (Int.toNat (w32 (a1 + 2)))) (fun x6 => (bd (M_keepsNow x5 x6 σ) (fun r7 s8 => (zb r7 (some (r7, s8))))))))) else (if x1 = 2 then (rd 2235 (w32 (a1 + 1)) (σ 5 (Int.toNat (w32 (a1 + 1)))) (fun x9 => (rd 2235 (w32 (a1 + 2)) (σ 5 (Int.toNat (w32 (a1 + 2)))) (fun x10 => (rd 2235 (w32 (a1 + 3)) (σ 5 (Int.toNat (w32 (a1 + 3)))) (fun x11 => (bd (M_isSaid x9 x10 x11 σ) (fun r12 s13 => (zb r12 (some (r12, s13))))))))))) else (if x1 = 3 then (rd 2235 (w32 (a1 + 1)) (σ 5 (Int.toNat (w32 (a1 + 1)))) (fun x14 => (rd 2235 (w32 (a1 + 3)) (σ 5 (Int.toNat (w32 (a1 + 3)))) (fun x15 => (bd (M_isCut x14 x15 σ) (fun r16 s17 => (zb r16 (some (r16, s17))))))))) else (bd (M_isAny σ) (fun r18 s19 => (zb r18 (some (r18, s19)))))))))))
theorem ok_M_does (a1 : Int) (σ : Sg) : MC l Km Pm yX12_does cX12_does 3 3 7 [.inr (.inr 0), .inl a1] σ (M_does a1 σ) := by
  refine mc_of (by decide) (Nat.le_of_ble_eq_true rfl) ?_
  change G l Km Pm RX12 cX12_does 3 3 7 0 [some (.inr (.inr 0)), some (.inl a1), none] [] σ (M_does a1 σ)
  unfold M_does
  refine g_aload_n dX12_does_0 rfl rfl ?_
  refine g_getr' (q := 5) fl_RX12_35 km_0 (by decide) rfl dX12_does_1 ?_
  refine g_iload_n dX12_does_4 rfl rfl ?_
  refine g_iald km_5 dX12_does_5 ?_
  intro x1
  refine g_istore_n (lv' := [some (.inr (.inr 0)), some (.inl a1), some (.inl x1)]) dX12_does_6 rfl (Nat.le_of_ble_eq_true rfl) rfl ?_
  refine g_iload_n dX12_does_7 rfl rfl ?_
  refine g_ifne (tgt := 24) dX12_does_8 (by decide) ?_ ?_
  · refine g_aload_n dX12_does_11 rfl rfl ?_
    refine g_aload_n dX12_does_12 rfl rfl ?_
    refine g_getr' (q := 5) fl_RX12_35 km_0 (by decide) rfl dX12_does_13 ?_
    refine g_iload_n dX12_does_16 rfl rfl ?_
    refine g_iconst dX12_does_17 (by decide) ?_
    refine g_iadd dX12_does_18 ?_
    refine g_iald km_5 dX12_does_19 ?_
    intro x2
    refine g_callv3 (st := []) 10 mw_X12_anyDays lk_RX12_536 rfl km_0 (ok_M_anyDays x2 σ) (Nat.le_of_ble_eq_true rfl) rfl rfl (Nat.le_of_ble_eq_true rfl) dX12_does_20 ?_
    intro r3 s4
    exact g_zret dX12_does_23
  · refine g_iload_n dX12_does_24 rfl rfl ?_
    refine g_iconst dX12_does_25 (by decide) ?_
    refine g_icmpne (tgt := 50) dX12_does_26 (by decide) ?_ ?_
    · refine g_aload_n dX12_does_29 rfl rfl ?_
      refine g_aload_n dX12_does_30 rfl rfl ?_
      refine g_getr' (q := 5) fl_RX12_35 km_0 (by decide) rfl dX12_does_31 ?_
      refine g_iload_n dX12_does_34 rfl rfl ?_
      refine g_iconst dX12_does_35 (by decide) ?_
      refine g_iadd dX12_does_36 ?_
      refine g_iald km_5 dX12_does_37 ?_
      intro x5
      refine g_aload_n dX12_does_38 rfl rfl ?_
      refine g_getr' (q := 5) fl_RX12_35 km_0 (by decide) rfl dX12_does_39 ?_
      refine g_iload_n dX12_does_42 rfl rfl ?_
      refine g_iconst dX12_does_43 (by decide) ?_
      refine g_iadd dX12_does_44 ?_
      refine g_iald km_5 dX12_does_45 ?_
      intro x6
      refine g_callv3 (st := []) 10 mw_X12_keepsNow lk_RX12_387 rfl km_0 (ok_M_keepsNow x5 x6 σ) (Nat.le_of_ble_eq_true rfl) rfl rfl (Nat.le_of_ble_eq_true rfl) dX12_does_46 ?_
      intro r7 s8
      exact g_zret dX12_does_49
    · refine g_iload_n dX12_does_50 rfl rfl ?_
      refine g_iconst dX12_does_51 (by decide) ?_
      refine g_icmpne (tgt := 84) dX12_does_52 (by decide) ?_ ?_
      · refine g_aload_n dX12_does_55 rfl rfl ?_
        refine g_aload_n dX12_does_56 rfl rfl ?_
        refine g_getr' (q := 5) fl_RX12_35 km_0 (by decide) rfl dX12_does_57 ?_
        refine g_iload_n dX12_does_60 rfl rfl ?_
        refine g_iconst dX12_does_61 (by decide) ?_
        refine g_iadd dX12_does_62 ?_
        refine g_iald km_5 dX12_does_63 ?_
        intro x9
        refine g_aload_n dX12_does_64 rfl rfl ?_
        refine g_getr' (q := 5) fl_RX12_35 km_0 (by decide) rfl dX12_does_65 ?_
        refine g_iload_n dX12_does_68 rfl rfl ?_
        refine g_iconst dX12_does_69 (by decide) ?_
        refine g_iadd dX12_does_70 ?_
        refine g_iald km_5 dX12_does_71 ?_
        intro x10
        refine g_aload_n dX12_does_72 rfl rfl ?_
        refine g_getr' (q := 5) fl_RX12_35 km_0 (by decide) rfl dX12_does_73 ?_
        refine g_iload_n dX12_does_76 rfl rfl ?_
        refine g_iconst dX12_does_77 (by decide) ?_
        refine g_iadd dX12_does_78 ?_
        refine g_iald km_5 dX12_does_79 ?_
        intro x11
        refine g_callv3 (st := []) 10 mw_X12_isSaid lk_RX12_530 rfl km_0 (ok_M_isSaid x9 x10 x11 σ) (Nat.le_of_ble_eq_true rfl) rfl rfl (Nat.le_of_ble_eq_true rfl) dX12_does_80 ?_
        intro r12 s13
        exact g_zret dX12_does_83
      · refine g_iload_n dX12_does_84 rfl rfl ?_
        refine g_iconst dX12_does_85 (by decide) ?_
        refine g_icmpne (tgt := 112) dX12_does_86 (by decide) ?_ ?_
        · refine g_aload_n dX12_does_89 rfl rfl ?_
          refine g_aload_n dX12_does_90 rfl rfl ?_
          refine g_getr' (q := 5) fl_RX12_35 km_0 (by decide) rfl dX12_does_91 ?_
          refine g_iload_n dX12_does_94 rfl rfl ?_
          refine g_iconst dX12_does_95 (by decide) ?_
          refine g_iadd dX12_does_96 ?_
          refine g_iald km_5 dX12_does_97 ?_
          intro x14
          refine g_aload_n dX12_does_98 rfl rfl ?_
          refine g_getr' (q := 5) fl_RX12_35 km_0 (by decide) rfl dX12_does_99 ?_
          refine g_iload_n dX12_does_102 rfl rfl ?_
          refine g_iconst dX12_does_103 (by decide) ?_
          refine g_iadd dX12_does_104 ?_
          refine g_iald km_5 dX12_does_105 ?_
          intro x15
          refine g_callv3 (st := []) 10 mw_X12_isCut lk_RX12_539 rfl km_0 (ok_M_isCut x14 x15 σ) (Nat.le_of_ble_eq_true rfl) rfl rfl (Nat.le_of_ble_eq_true rfl) dX12_does_106 ?_
          intro r16 s17
          refine g_goto (tgt := 116) dX12_does_109 (by decide) ?_
          exact g_zret dX12_does_116
        · refine g_aload_n dX12_does_112 rfl rfl ?_
          refine g_callv3 (st := []) 10 mw_X12_isAny lk_RX12_542 rfl km_0 (ok_M_isAny σ) (Nat.le_of_ble_eq_true rfl) rfl rfl (Nat.le_of_ble_eq_true rfl) dX12_does_113 ?_
          intro r18 s19
          exact g_zret dX12_does_116
theorem dX12_isSo_0 : decode cX12_isSo 0 = .ok (.aload_n 0, 1) := by decide +kernel
theorem dX12_isSo_1 : decode cX12_isSo 1 = .ok (.getfield 35, 3) := by decide +kernel
theorem dX12_isSo_4 : decode cX12_isSo 4 = .ok (.iload_n 1, 1) := by decide +kernel
theorem dX12_isSo_5 : decode cX12_isSo 5 = .ok (.bipush 6, 2) := by decide +kernel
theorem dX12_isSo_7 : decode cX12_isSo 7 = .ok (.iadd, 1) := by decide +kernel
theorem dX12_isSo_8 : decode cX12_isSo 8 = .ok (.iaload, 1) := by decide +kernel
theorem dX12_isSo_9 : decode cX12_isSo 9 = .ok (.ifCond .ne 24, 3) := by decide +kernel
theorem dX12_isSo_12 : decode cX12_isSo 12 = .ok (.aload_n 0, 1) := by decide +kernel
theorem dX12_isSo_13 : decode cX12_isSo 13 = .ok (.aload_n 0, 1) := by decide +kernel
theorem dX12_isSo_14 : decode cX12_isSo 14 = .ok (.getfield 35, 3) := by decide +kernel
theorem dX12_isSo_17 : decode cX12_isSo 17 = .ok (.iload_n 1, 1) := by decide +kernel
theorem dX12_isSo_18 : decode cX12_isSo 18 = .ok (.iconst 1, 1) := by decide +kernel
theorem dX12_isSo_19 : decode cX12_isSo 19 = .ok (.iadd, 1) := by decide +kernel
theorem dX12_isSo_20 : decode cX12_isSo 20 = .ok (.iaload, 1) := by decide +kernel
theorem dX12_isSo_21 : decode cX12_isSo 21 = .ok (.aload_n 0, 1) := by decide +kernel
theorem dX12_isSo_22 : decode cX12_isSo 22 = .ok (.getfield 35, 3) := by decide +kernel
theorem dX12_isSo_25 : decode cX12_isSo 25 = .ok (.iload_n 1, 1) := by decide +kernel
theorem dX12_isSo_26 : decode cX12_isSo 26 = .ok (.iconst 2, 1) := by decide +kernel
theorem dX12_isSo_27 : decode cX12_isSo 27 = .ok (.iadd, 1) := by decide +kernel
theorem dX12_isSo_28 : decode cX12_isSo 28 = .ok (.iaload, 1) := by decide +kernel
theorem dX12_isSo_29 : decode cX12_isSo 29 = .ok (.invokevirtual 366, 3) := by decide +kernel
theorem dX12_isSo_32 : decode cX12_isSo 32 = .ok (.ireturn, 1) := by decide +kernel
theorem dX12_isSo_33 : decode cX12_isSo 33 = .ok (.aload_n 0, 1) := by decide +kernel
theorem dX12_isSo_34 : decode cX12_isSo 34 = .ok (.aload_n 0, 1) := by decide +kernel
theorem dX12_isSo_35 : decode cX12_isSo 35 = .ok (.getfield 35, 3) := by decide +kernel
theorem dX12_isSo_38 : decode cX12_isSo 38 = .ok (.iload_n 1, 1) := by decide +kernel
theorem dX12_isSo_39 : decode cX12_isSo 39 = .ok (.iconst 1, 1) := by decide +kernel
theorem dX12_isSo_40 : decode cX12_isSo 40 = .ok (.iadd, 1) := by decide +kernel
theorem dX12_isSo_41 : decode cX12_isSo 41 = .ok (.iaload, 1) := by decide +kernel
theorem dX12_isSo_42 : decode cX12_isSo 42 = .ok (.invokevirtual 320, 3) := by decide +kernel
theorem dX12_isSo_45 : decode cX12_isSo 45 = .ok (.istore_n 2, 1) := by decide +kernel
theorem dX12_isSo_46 : decode cX12_isSo 46 = .ok (.aload_n 0, 1) := by decide +kernel
theorem dX12_isSo_47 : decode cX12_isSo 47 = .ok (.getfield 35, 3) := by decide +kernel
theorem dX12_isSo_50 : decode cX12_isSo 50 = .ok (.iload_n 1, 1) := by decide +kernel
theorem dX12_isSo_51 : decode cX12_isSo 51 = .ok (.bipush 7, 2) := by decide +kernel
theorem dX12_isSo_53 : decode cX12_isSo 53 = .ok (.iadd, 1) := by decide +kernel
theorem dX12_isSo_54 : decode cX12_isSo 54 = .ok (.iaload, 1) := by decide +kernel
theorem dX12_isSo_55 : decode cX12_isSo 55 = .ok (.bipush 60, 2) := by decide +kernel
theorem dX12_isSo_57 : decode cX12_isSo 57 = .ok (.if_icmp .ne 23, 3) := by decide +kernel
theorem dX12_isSo_60 : decode cX12_isSo 60 = .ok (.iload_n 2, 1) := by decide +kernel
theorem dX12_isSo_61 : decode cX12_isSo 61 = .ok (.aload_n 0, 1) := by decide +kernel
theorem dX12_isSo_62 : decode cX12_isSo 62 = .ok (.getfield 35, 3) := by decide +kernel
theorem dX12_isSo_65 : decode cX12_isSo 65 = .ok (.iload_n 1, 1) := by decide +kernel
theorem dX12_isSo_66 : decode cX12_isSo 66 = .ok (.iconst 2, 1) := by decide +kernel
theorem dX12_isSo_67 : decode cX12_isSo 67 = .ok (.iadd, 1) := by decide +kernel
theorem dX12_isSo_68 : decode cX12_isSo 68 = .ok (.iaload, 1) := by decide +kernel
theorem dX12_isSo_69 : decode cX12_isSo 69 = .ok (.if_icmp .ge 7, 3) := by decide +kernel
theorem dX12_isSo_72 : decode cX12_isSo 72 = .ok (.iconst 1, 1) := by decide +kernel
theorem dX12_isSo_73 : decode cX12_isSo 73 = .ok (.goto 58, 3) := by decide +kernel
theorem dX12_isSo_76 : decode cX12_isSo 76 = .ok (.iconst 0, 1) := by decide +kernel
theorem dX12_isSo_77 : decode cX12_isSo 77 = .ok (.goto 54, 3) := by decide +kernel
theorem dX12_isSo_80 : decode cX12_isSo 80 = .ok (.aload_n 0, 1) := by decide +kernel
theorem dX12_isSo_81 : decode cX12_isSo 81 = .ok (.getfield 35, 3) := by decide +kernel
theorem dX12_isSo_84 : decode cX12_isSo 84 = .ok (.iload_n 1, 1) := by decide +kernel
theorem dX12_isSo_85 : decode cX12_isSo 85 = .ok (.bipush 7, 2) := by decide +kernel
theorem dX12_isSo_87 : decode cX12_isSo 87 = .ok (.iadd, 1) := by decide +kernel
theorem dX12_isSo_88 : decode cX12_isSo 88 = .ok (.iaload, 1) := by decide +kernel
theorem dX12_isSo_89 : decode cX12_isSo 89 = .ok (.bipush 62, 2) := by decide +kernel
theorem dX12_isSo_91 : decode cX12_isSo 91 = .ok (.if_icmp .ne 23, 3) := by decide +kernel
theorem dX12_isSo_94 : decode cX12_isSo 94 = .ok (.iload_n 2, 1) := by decide +kernel
theorem dX12_isSo_95 : decode cX12_isSo 95 = .ok (.aload_n 0, 1) := by decide +kernel
theorem dX12_isSo_96 : decode cX12_isSo 96 = .ok (.getfield 35, 3) := by decide +kernel
theorem dX12_isSo_99 : decode cX12_isSo 99 = .ok (.iload_n 1, 1) := by decide +kernel
theorem dX12_isSo_100 : decode cX12_isSo 100 = .ok (.iconst 2, 1) := by decide +kernel
theorem dX12_isSo_101 : decode cX12_isSo 101 = .ok (.iadd, 1) := by decide +kernel
theorem dX12_isSo_102 : decode cX12_isSo 102 = .ok (.iaload, 1) := by decide +kernel
theorem dX12_isSo_103 : decode cX12_isSo 103 = .ok (.if_icmp .le 7, 3) := by decide +kernel
theorem dX12_isSo_106 : decode cX12_isSo 106 = .ok (.iconst 1, 1) := by decide +kernel
theorem dX12_isSo_107 : decode cX12_isSo 107 = .ok (.goto 24, 3) := by decide +kernel
theorem dX12_isSo_110 : decode cX12_isSo 110 = .ok (.iconst 0, 1) := by decide +kernel
theorem dX12_isSo_111 : decode cX12_isSo 111 = .ok (.goto 20, 3) := by decide +kernel
theorem dX12_isSo_114 : decode cX12_isSo 114 = .ok (.iload_n 2, 1) := by decide +kernel
theorem dX12_isSo_115 : decode cX12_isSo 115 = .ok (.aload_n 0, 1) := by decide +kernel
theorem dX12_isSo_116 : decode cX12_isSo 116 = .ok (.getfield 35, 3) := by decide +kernel
theorem dX12_isSo_119 : decode cX12_isSo 119 = .ok (.iload_n 1, 1) := by decide +kernel
theorem dX12_isSo_120 : decode cX12_isSo 120 = .ok (.iconst 2, 1) := by decide +kernel
theorem dX12_isSo_121 : decode cX12_isSo 121 = .ok (.iadd, 1) := by decide +kernel
theorem dX12_isSo_122 : decode cX12_isSo 122 = .ok (.iaload, 1) := by decide +kernel
theorem dX12_isSo_123 : decode cX12_isSo 123 = .ok (.if_icmp .ne 7, 3) := by decide +kernel
theorem dX12_isSo_126 : decode cX12_isSo 126 = .ok (.iconst 1, 1) := by decide +kernel
theorem dX12_isSo_127 : decode cX12_isSo 127 = .ok (.goto 4, 3) := by decide +kernel
theorem dX12_isSo_130 : decode cX12_isSo 130 = .ok (.iconst 0, 1) := by decide +kernel
theorem dX12_isSo_131 : decode cX12_isSo 131 = .ok (.ireturn, 1) := by decide +kernel
theorem mw_X12_isSo : MW yX12_isSo cX12_isSo 3 3 1 false := ⟨tm 2403 (by decide +kernel) rfl, tm 249 (by decide +kernel) rfl, by decide, by decide, (by rw [if_neg (by decide)]; exact ⟨tm 2402 (by decide +kernel) rfl, tm 233 (by decide +kernel) rfl⟩)⟩
def M_isSo (a1 : Int) (σ : Sg) : Rs := (rd 2235 (w32 (a1 + 6)) (σ 5 (Int.toNat (w32 (a1 + 6)))) (fun x1 => (if x1 = 0 then (rd 2235 (w32 (a1 + 1)) (σ 5 (Int.toNat (w32 (a1 + 1)))) (fun x2 => (rd 2235 (w32 (a1 + 2)) (σ 5 (Int.toNat (w32 (a1 + 2)))) (fun x3 => (bd (M_knows x2 x3 σ) (fun r4 s5 => (zb r4 (some (r4, s5))))))))) else (rd 2235 (w32 (a1 + 1)) (σ 5 (Int.toNat (w32 (a1 + 1)))) (fun x6 => (bd (M_hairOf x6 σ) (fun r7 s8 => (rd 2235 (w32 (a1 + 7)) (s8 5 (Int.toNat (w32 (a1 + 7)))) (fun x9 => (if x9 = 60 then (rd 2235 (w32 (a1 + 2)) (s8 5 (Int.toNat (w32 (a1 + 2)))) (fun x10 => (if r7 < x10 then (some (1, s8)) else (some (0, s8))))) else (rd 2235 (w32 (a1 + 7)) (s8 5 (Int.toNat (w32 (a1 + 7)))) (fun x11 => (if x11 = 62 then (rd 2235 (w32 (a1 + 2)) (s8 5 (Int.toNat (w32 (a1 + 2)))) (fun x12 => (if x12 < r7 then (some (1, s8)) else (some (0, s8))))) else (rd 2235 (w32 (a1 + 2)) (s8 5 (Int.toNat (w32 (a1 + 2)))) (fun x13 => (if r7 = x13 then (some (1, s8)) else (some (0, s8))))))))))))))))))
theorem ok_M_isSo (a1 : Int) (σ : Sg) : MC l Km Pm yX12_isSo cX12_isSo 3 3 4 [.inr (.inr 0), .inl a1] σ (M_isSo a1 σ) := by
  refine mc_of (by decide) (Nat.le_of_ble_eq_true rfl) ?_
  change G l Km Pm RX12 cX12_isSo 3 3 4 0 [some (.inr (.inr 0)), some (.inl a1), none] [] σ (M_isSo a1 σ)
  unfold M_isSo
  refine g_aload_n dX12_isSo_0 rfl rfl ?_
  refine g_getr' (q := 5) fl_RX12_35 km_0 (by decide) rfl dX12_isSo_1 ?_
  refine g_iload_n dX12_isSo_4 rfl rfl ?_
  refine g_bipush dX12_isSo_5 (by decide) ?_
  refine g_iadd dX12_isSo_7 ?_
  refine g_iald km_5 dX12_isSo_8 ?_
  intro x1
  refine g_ifne (tgt := 33) dX12_isSo_9 (by decide) ?_ ?_
  · refine g_aload_n dX12_isSo_12 rfl rfl ?_
    refine g_aload_n dX12_isSo_13 rfl rfl ?_
    refine g_getr' (q := 5) fl_RX12_35 km_0 (by decide) rfl dX12_isSo_14 ?_
    refine g_iload_n dX12_isSo_17 rfl rfl ?_
    refine g_iconst dX12_isSo_18 (by decide) ?_
    refine g_iadd dX12_isSo_19 ?_
    refine g_iald km_5 dX12_isSo_20 ?_
    intro x2
    refine g_aload_n dX12_isSo_21 rfl rfl ?_
    refine g_getr' (q := 5) fl_RX12_35 km_0 (by decide) rfl dX12_isSo_22 ?_
    refine g_iload_n dX12_isSo_25 rfl rfl ?_
    refine g_iconst dX12_isSo_26 (by decide) ?_
    refine g_iadd dX12_isSo_27 ?_
    refine g_iald km_5 dX12_isSo_28 ?_
    intro x3
    refine g_callv3 (st := []) 10 mw_X12_knows lk_RX12_366 rfl km_0 (ok_M_knows x2 x3 σ) (Nat.le_of_ble_eq_true rfl) rfl rfl (Nat.le_of_ble_eq_true rfl) dX12_isSo_29 ?_
    intro r4 s5
    exact g_zret dX12_isSo_32
  · refine g_aload_n dX12_isSo_33 rfl rfl ?_
    refine g_aload_n dX12_isSo_34 rfl rfl ?_
    refine g_getr' (q := 5) fl_RX12_35 km_0 (by decide) rfl dX12_isSo_35 ?_
    refine g_iload_n dX12_isSo_38 rfl rfl ?_
    refine g_iconst dX12_isSo_39 (by decide) ?_
    refine g_iadd dX12_isSo_40 ?_
    refine g_iald km_5 dX12_isSo_41 ?_
    intro x6
    refine g_callv0 (st := []) 10 mw_X12_hairOf lk_RX12_320 rfl km_0 (ok_M_hairOf x6 σ) (Nat.le_of_ble_eq_true rfl) rfl rfl (Nat.le_of_ble_eq_true rfl) dX12_isSo_42 ?_
    intro r7 s8
    refine g_istore_n (lv' := [some (.inr (.inr 0)), some (.inl a1), some (.inl r7)]) dX12_isSo_45 rfl (Nat.le_of_ble_eq_true rfl) rfl ?_
    refine g_aload_n dX12_isSo_46 rfl rfl ?_
    refine g_getr' (q := 5) fl_RX12_35 km_0 (by decide) rfl dX12_isSo_47 ?_
    refine g_iload_n dX12_isSo_50 rfl rfl ?_
    refine g_bipush dX12_isSo_51 (by decide) ?_
    refine g_iadd dX12_isSo_53 ?_
    refine g_iald km_5 dX12_isSo_54 ?_
    intro x9
    refine g_bipush dX12_isSo_55 (by decide) ?_
    refine g_icmpne (tgt := 80) dX12_isSo_57 (by decide) ?_ ?_
    · refine g_iload_n dX12_isSo_60 rfl rfl ?_
      refine g_aload_n dX12_isSo_61 rfl rfl ?_
      refine g_getr' (q := 5) fl_RX12_35 km_0 (by decide) rfl dX12_isSo_62 ?_
      refine g_iload_n dX12_isSo_65 rfl rfl ?_
      refine g_iconst dX12_isSo_66 (by decide) ?_
      refine g_iadd dX12_isSo_67 ?_
      refine g_iald km_5 dX12_isSo_68 ?_
      intro x10
      refine g_icmpge (tgt := 76) dX12_isSo_69 (by decide) ?_ ?_
      · refine g_iconst dX12_isSo_72 (by decide) ?_
        refine g_goto (tgt := 131) dX12_isSo_73 (by decide) ?_
        exact g_zret1 dX12_isSo_131
      · refine g_iconst dX12_isSo_76 (by decide) ?_
        refine g_goto (tgt := 131) dX12_isSo_77 (by decide) ?_
        exact g_zret0 dX12_isSo_131
    · refine g_aload_n dX12_isSo_80 rfl rfl ?_
      refine g_getr' (q := 5) fl_RX12_35 km_0 (by decide) rfl dX12_isSo_81 ?_
      refine g_iload_n dX12_isSo_84 rfl rfl ?_
      refine g_bipush dX12_isSo_85 (by decide) ?_
      refine g_iadd dX12_isSo_87 ?_
      refine g_iald km_5 dX12_isSo_88 ?_
      intro x11
      refine g_bipush dX12_isSo_89 (by decide) ?_
      refine g_icmpne (tgt := 114) dX12_isSo_91 (by decide) ?_ ?_
      · refine g_iload_n dX12_isSo_94 rfl rfl ?_
        refine g_aload_n dX12_isSo_95 rfl rfl ?_
        refine g_getr' (q := 5) fl_RX12_35 km_0 (by decide) rfl dX12_isSo_96 ?_
        refine g_iload_n dX12_isSo_99 rfl rfl ?_
        refine g_iconst dX12_isSo_100 (by decide) ?_
        refine g_iadd dX12_isSo_101 ?_
        refine g_iald km_5 dX12_isSo_102 ?_
        intro x12
        refine g_icmple (tgt := 110) dX12_isSo_103 (by decide) ?_ ?_
        · refine g_iconst dX12_isSo_106 (by decide) ?_
          refine g_goto (tgt := 131) dX12_isSo_107 (by decide) ?_
          exact g_zret1 dX12_isSo_131
        · refine g_iconst dX12_isSo_110 (by decide) ?_
          refine g_goto (tgt := 131) dX12_isSo_111 (by decide) ?_
          exact g_zret0 dX12_isSo_131
      · refine g_iload_n dX12_isSo_114 rfl rfl ?_
        refine g_aload_n dX12_isSo_115 rfl rfl ?_
        refine g_getr' (q := 5) fl_RX12_35 km_0 (by decide) rfl dX12_isSo_116 ?_
        refine g_iload_n dX12_isSo_119 rfl rfl ?_
        refine g_iconst dX12_isSo_120 (by decide) ?_
        refine g_iadd dX12_isSo_121 ?_
        refine g_iald km_5 dX12_isSo_122 ?_
        intro x13
        refine g_icmpne (tgt := 130) dX12_isSo_123 (by decide) ?_ ?_
        · refine g_iconst dX12_isSo_126 (by decide) ?_
          refine g_goto (tgt := 131) dX12_isSo_127 (by decide) ?_
          exact g_zret1 dX12_isSo_131
        · refine g_iconst dX12_isSo_130 (by decide) ?_
          exact g_zret0 dX12_isSo_131
end WK
