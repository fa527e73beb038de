section WK
variable {l : Launch}
theorem dX5_readKeeps_0 : decode cX5_readKeeps 0 = .ok (.aload_n 0, 1) := by decide +kernel
theorem dX5_readKeeps_1 : decode cX5_readKeeps 1 = .ok (.invokevirtual 33, 3) := by decide +kernel
theorem dX5_readKeeps_4 : decode cX5_readKeeps 4 = .ok (.bipush 8, 2) := by decide +kernel
theorem dX5_readKeeps_6 : decode cX5_readKeeps 6 = .ok (.if_icmp .eq 5, 3) := by decide +kernel
theorem dX5_readKeeps_9 : decode cX5_readKeeps 9 = .ok (.iconst 0, 1) := by decide +kernel
theorem dX5_readKeeps_10 : decode cX5_readKeeps 10 = .ok (.ireturn, 1) := by decide +kernel
theorem dX5_readKeeps_11 : decode cX5_readKeeps 11 = .ok (.aload_n 0, 1) := by decide +kernel
theorem dX5_readKeeps_12 : decode cX5_readKeeps 12 = .ok (.invokevirtual 37, 3) := by decide +kernel
theorem dX5_readKeeps_15 : decode cX5_readKeeps 15 = .ok (.iconst 0, 1) := by decide +kernel
theorem dX5_readKeeps_16 : decode cX5_readKeeps 16 = .ok (.istore_n 2, 1) := by decide +kernel
theorem dX5_readKeeps_17 : decode cX5_readKeeps 17 = .ok (.iconst 0, 1) := by decide +kernel
theorem dX5_readKeeps_18 : decode cX5_readKeeps 18 = .ok (.istore_n 3, 1) := by decide +kernel
theorem dX5_readKeeps_19 : decode cX5_readKeeps 19 = .ok (.iload_n 3, 1) := by decide +kernel
theorem dX5_readKeeps_20 : decode cX5_readKeeps 20 = .ok (.bipush 8, 2) := by decide +kernel
theorem dX5_readKeeps_22 : decode cX5_readKeeps 22 = .ok (.if_icmp .gt 58, 3) := by decide +kernel
theorem dX5_readKeeps_25 : decode cX5_readKeeps 25 = .ok (.aload_n 0, 1) := by decide +kernel
theorem dX5_readKeeps_26 : decode cX5_readKeeps 26 = .ok (.bipush 59, 2) := by decide +kernel
theorem dX5_readKeeps_28 : decode cX5_readKeeps 28 = .ok (.invokevirtual 118, 3) := by decide +kernel
theorem dX5_readKeeps_31 : decode cX5_readKeeps 31 = .ok (.ifCond .ne 49, 3) := by decide +kernel
theorem dX5_readKeeps_34 : decode cX5_readKeeps 34 = .ok (.aload_n 0, 1) := by decide +kernel
theorem dX5_readKeeps_35 : decode cX5_readKeeps 35 = .ok (.aload_n 1, 1) := by decide +kernel
theorem dX5_readKeeps_36 : decode cX5_readKeeps 36 = .ok (.invokevirtual 121, 3) := by decide +kernel
theorem dX5_readKeeps_39 : decode cX5_readKeeps 39 = .ok (.istore 4, 2) := by decide +kernel
theorem dX5_readKeeps_41 : decode cX5_readKeeps 41 = .ok (.iload 4, 2) := by decide +kernel
theorem dX5_readKeeps_43 : decode cX5_readKeeps 43 = .ok (.iconst (-1), 1) := by decide +kernel
theorem dX5_readKeeps_44 : decode cX5_readKeeps 44 = .ok (.if_icmp .ne 5, 3) := by decide +kernel
theorem dX5_readKeeps_47 : decode cX5_readKeeps 47 = .ok (.iconst (-1), 1) := by decide +kernel
theorem dX5_readKeeps_48 : decode cX5_readKeeps 48 = .ok (.ireturn, 1) := by decide +kernel
theorem dX5_readKeeps_49 : decode cX5_readKeeps 49 = .ok (.iload_n 2, 1) := by decide +kernel
theorem dX5_readKeeps_50 : decode cX5_readKeeps 50 = .ok (.iload 4, 2) := by decide +kernel
theorem dX5_readKeeps_52 : decode cX5_readKeeps 52 = .ok (.ishr, 1) := by decide +kernel
theorem dX5_readKeeps_53 : decode cX5_readKeeps 53 = .ok (.iconst 1, 1) := by decide +kernel
theorem dX5_readKeeps_54 : decode cX5_readKeeps 54 = .ok (.iand, 1) := by decide +kernel
theorem dX5_readKeeps_55 : decode cX5_readKeeps 55 = .ok (.iconst 1, 1) := by decide +kernel
theorem dX5_readKeeps_56 : decode cX5_readKeeps 56 = .ok (.if_icmp .ne 11, 3) := by decide +kernel
theorem dX5_readKeeps_59 : decode cX5_readKeeps 59 = .ok (.aload_n 0, 1) := by decide +kernel
theorem dX5_readKeeps_60 : decode cX5_readKeeps 60 = .ok (.iconst 5, 1) := by decide +kernel
theorem dX5_readKeeps_61 : decode cX5_readKeeps 61 = .ok (.invokevirtual 47, 3) := by decide +kernel
theorem dX5_readKeeps_64 : decode cX5_readKeeps 64 = .ok (.pop, 1) := by decide +kernel
theorem dX5_readKeeps_65 : decode cX5_readKeeps 65 = .ok (.iconst (-1), 1) := by decide +kernel
theorem dX5_readKeeps_66 : decode cX5_readKeeps 66 = .ok (.ireturn, 1) := by decide +kernel
theorem dX5_readKeeps_67 : decode cX5_readKeeps 67 = .ok (.iload_n 2, 1) := by decide +kernel
theorem dX5_readKeeps_68 : decode cX5_readKeeps 68 = .ok (.iconst 1, 1) := by decide +kernel
theorem dX5_readKeeps_69 : decode cX5_readKeeps 69 = .ok (.iload 4, 2) := by decide +kernel
theorem dX5_readKeeps_71 : decode cX5_readKeeps 71 = .ok (.ishl, 1) := by decide +kernel
theorem dX5_readKeeps_72 : decode cX5_readKeeps 72 = .ok (.ior, 1) := by decide +kernel
theorem dX5_readKeeps_73 : decode cX5_readKeeps 73 = .ok (.istore_n 2, 1) := by decide +kernel
theorem dX5_readKeeps_74 : decode cX5_readKeeps 74 = .ok (.iinc 3 1, 3) := by decide +kernel
theorem dX5_readKeeps_77 : decode cX5_readKeeps 77 = .ok (.goto (-58), 3) := by decide +kernel
theorem dX5_readKeeps_80 : decode cX5_readKeeps 80 = .ok (.iload_n 2, 1) := by decide +kernel
theorem dX5_readKeeps_81 : decode cX5_readKeeps 81 = .ok (.ireturn, 1) := by decide +kernel
theorem mw_X5_readKeeps : MW yX5_readKeeps cX5_readKeeps 5 0 2 true := ⟨tm 909 (by decide +kernel) rfl, tm 252 (by decide +kernel) rfl, by decide, by decide, (by rw [if_pos rfl]; exact tm 908 (by decide +kernel) rfl)⟩
theorem lk_RX5_33 : LK RX5 33 yX7_keyNext := Or.inr ⟨"HairProvince", tm 852 (by decide +kernel) rfl⟩
theorem lk_RX5_37 : LK RX5 37 yX7_take := Or.inr ⟨"HairProvince", tm 856 (by decide +kernel) rfl⟩
theorem lk_RX5_118 : LK RX5 118 yX7_isSignNext := Or.inr ⟨"HairProvince", tm 910 (by decide +kernel) rfl⟩
def PR_readKeeps_L19 (pr1 : Nat) : Nat → Int → Int → Sg → Rs
  | 0, _, _, _ => none
  | n + 1, v2, v3, σ => (if 8 < v3 then (some (v2, σ)) else (bd (To_isSignNext 59 σ) (fun r5 s6 => (if r5 = 0 then (bd (To_takeWord pr1 s6) (fun r7 s8 => (if r7 = (-1) then (some ((-1), s8)) else (if (an32 (sr32 v2 r7) 1) = 1 then (bd (To_reject 5 s8) (fun r9 s10 => (some ((-1), s10)))) else (nm (or32 v2 (sl32 1 r7)) (fun x11 => (nm (w32 (v3 + 1)) (fun x12 => (PR_readKeeps_L19 pr1 n x11 x12 s8))))))))) else (some (v2, s6))))))
theorem ok_PR_readKeeps_L19 (pr1 : Nat) (hpr1 : Kh[pr1]? = some (.inl 4)) : ∀ (n : Nat) (v2 v3 : Int) (σ : Sg), G l Kh Ph RX5 cX5_readKeeps 5 0 3 19 [some (.inr (.inr 5)), some (.inr (.inr pr1)), some (.inl v2), some (.inl v3), none] [] σ (PR_readKeeps_L19 pr1 n v2 v3 σ) := by
  intro n
  induction n with
  | zero => intros; exact G.none_
  | succ n ih =>
    intro v2 v3 σ
    rw [PR_readKeeps_L19]
    refine g_iload_n dX5_readKeeps_19 rfl rfl ?_
    refine g_bipush dX5_readKeeps_20 (by decide) ?_
    refine g_icmpgt (tgt := 80) dX5_readKeeps_22 (by decide) ?_ ?_
    · refine g_iload_n dX5_readKeeps_80 rfl rfl ?_
      exact g_iret dX5_readKeeps_81
    · refine g_aload_n dX5_readKeeps_25 rfl rfl ?_
      refine g_bipush dX5_readKeeps_26 (by decide) ?_
      refine g_callv3 (st := []) 6 mw_X7_isSignNext lk_RX5_118 rfl kh_5 (ok_To_isSignNext 59 σ) (Nat.le_of_ble_eq_true rfl) rfl rfl (Nat.le_of_ble_eq_true rfl) dX5_readKeeps_28 ?_
      intro r5 s6
      refine g_ifne (tgt := 80) dX5_readKeeps_31 (by decide) ?_ ?_
      · refine g_aload_n dX5_readKeeps_34 rfl rfl ?_
        refine g_aload_n dX5_readKeeps_35 rfl rfl ?_
        refine g_callv0 (st := []) 6 mw_X7_takeWord lk_RX5_121 rfl kh_5 (ok_To_takeWord pr1 hpr1 s6) (Nat.le_of_ble_eq_true rfl) rfl rfl (Nat.le_of_ble_eq_true rfl) dX5_readKeeps_36 ?_
        intro r7 s8
        refine g_istore (lv' := [some (.inr (.inr 5)), some (.inr (.inr pr1)), some (.inl v2), some (.inl v3), some (.inl r7)]) dX5_readKeeps_39 (Nat.le_of_ble_eq_true rfl) rfl ?_
        refine g_iload dX5_readKeeps_41 rfl ?_
        refine g_iconst dX5_readKeeps_43 (by decide) ?_
        refine g_icmpne (tgt := 49) dX5_readKeeps_44 (by decide) ?_ ?_
        · refine g_iconst dX5_readKeeps_47 (by decide) ?_
          exact g_iret dX5_readKeeps_48
        · refine g_iload_n dX5_readKeeps_49 rfl rfl ?_
          refine g_iload dX5_readKeeps_50 rfl ?_
          refine g_ishr dX5_readKeeps_52 ?_
          refine g_iconst dX5_readKeeps_53 (by decide) ?_
          refine g_iand dX5_readKeeps_54 ?_
          refine g_iconst dX5_readKeeps_55 (by decide) ?_
          refine g_icmpne (tgt := 67) dX5_readKeeps_56 (by decide) ?_ ?_
          · refine g_aload_n dX5_readKeeps_59 rfl rfl ?_
            refine g_iconst dX5_readKeeps_60 (by decide) ?_
            refine g_callv3 (st := []) 6 mw_X7_reject lk_RX5_47 rfl kh_5 (ok_To_reject 5 s8) (Nat.le_of_ble_eq_true rfl) rfl rfl (Nat.le_of_ble_eq_true rfl) dX5_readKeeps_61 ?_
            intro r9 s10
            refine g_pop dX5_readKeeps_64 rfl ?_
            refine g_iconst dX5_readKeeps_65 (by decide) ?_
            exact g_iret dX5_readKeeps_66
          · refine g_iload_n dX5_readKeeps_67 rfl rfl ?_
            refine g_iconst dX5_readKeeps_68 (by decide) ?_
            refine g_iload dX5_readKeeps_69 rfl ?_
            refine g_ishl dX5_readKeeps_71 ?_
            refine g_ior dX5_readKeeps_72 ?_
            refine n_istore_n (fun x11 => [some (.inr (.inr 5)), some (.inr (.inr pr1)), some (.inl x11), some (.inl v3), some (.inl r7)]) dX5_readKeeps_73 rfl (Nat.le_of_ble_eq_true rfl) (fun _ => rfl) ?_
            intro x11
            refine n_iinc (fun x12 => [some (.inr (.inr 5)), some (.inr (.inr pr1)), some (.inl x11), some (.inl x12), some (.inl r7)]) dX5_readKeeps_74 rfl (Nat.le_of_ble_eq_true rfl) (fun _ => rfl) ?_
            intro x12
            refine g_goto (tgt := 19) dX5_readKeeps_77 (by decide) ?_
            exact (g_weak [true, true, true, true, false] (ih x11 x12 s8))
      · refine g_iload_n dX5_readKeeps_80 rfl rfl ?_
        exact g_iret dX5_readKeeps_81
def PR_readKeeps (pr1 : Nat) (σ : Sg) : Rs := (bd (To_keyNext σ) (fun r1 s2 => (if r1 = 8 then (bd (To_take s2) (fun r3 s4 => (PR_readKeeps_L19 pr1 fu 0 0 s4))) else (some (0, s2)))))
theorem ok_PR_readKeeps (pr1 : Nat) (hpr1 : Kh[pr1]? = some (.inl 4)) (σ : Sg) : MC l Kh Ph yX5_readKeeps cX5_readKeeps 5 0 3 [.inr (.inr 5), .inr (.inr pr1)] σ (PR_readKeeps pr1 σ) := by
  refine mc_of (by decide) (Nat.le_of_ble_eq_true rfl) ?_
  change G l Kh Ph RX5 cX5_readKeeps 5 0 3 0 [some (.inr (.inr 5)), some (.inr (.inr pr1)), none, none, none] [] σ (PR_readKeeps pr1 σ)
  unfold PR_readKeeps
  refine g_aload_n dX5_readKeeps_0 rfl rfl ?_
  refine g_callv0 (st := []) 6 mw_X7_keyNext lk_RX5_33 rfl kh_5 (ok_To_keyNext σ) (Nat.le_of_ble_eq_true rfl) rfl rfl (Nat.le_of_ble_eq_true rfl) dX5_readKeeps_1 ?_
  intro r1 s2
  refine g_bipush dX5_readKeeps_4 (by decide) ?_
  refine g_icmpeq (tgt := 11) dX5_readKeeps_6 (by decide) ?_ ?_
  · refine g_aload_n dX5_readKeeps_11 rfl rfl ?_
    refine g_callv2 (st := []) 6 mw_X7_take lk_RX5_37 rfl kh_5 (ok_To_take s2) (Nat.le_of_ble_eq_true rfl) rfl rfl (Nat.le_of_ble_eq_true rfl) dX5_readKeeps_12 ?_
    intro r3 s4
    refine g_iconst dX5_readKeeps_15 (by decide) ?_
    refine g_istore_n (lv' := [some (.inr (.inr 5)), some (.inr (.inr pr1)), some (.inl 0), none, none]) dX5_readKeeps_16 rfl (Nat.le_of_ble_eq_true rfl) rfl ?_
    refine g_iconst dX5_readKeeps_17 (by decide) ?_
    refine g_istore_n (lv' := [some (.inr (.inr 5)), some (.inr (.inr pr1)), some (.inl 0), some (.inl 0), none]) dX5_readKeeps_18 rfl (Nat.le_of_ble_eq_true rfl) rfl ?_
    refine (ok_PR_readKeeps_L19 pr1 hpr1 fu 0 0 s4)
  · refine g_iconst dX5_readKeeps_9 (by decide) ?_
    exact g_iret dX5_readKeeps_10
theorem dX7_takeName_0 : decode cX7_takeName 0 = .ok (.aload_n 0, 1) := by decide +kernel
theorem dX7_takeName_1 : decode cX7_takeName 1 = .ok (.getfield 115, 3) := by decide +kernel
theorem dX7_takeName_4 : decode cX7_takeName 4 = .ok (.iconst 3, 1) := by decide +kernel
theorem dX7_takeName_5 : decode cX7_takeName 5 = .ok (.if_icmp .eq 8, 3) := by decide +kernel
theorem dX7_takeName_8 : decode cX7_takeName 8 = .ok (.aload_n 0, 1) := by decide +kernel
theorem dX7_takeName_9 : decode cX7_takeName 9 = .ok (.invokevirtual 118, 3) := by decide +kernel
theorem dX7_takeName_12 : decode cX7_takeName 12 = .ok (.ireturn, 1) := by decide +kernel
theorem dX7_takeName_13 : decode cX7_takeName 13 = .ok (.aload_n 0, 1) := by decide +kernel
theorem dX7_takeName_14 : decode cX7_takeName 14 = .ok (.invokevirtual 91, 3) := by decide +kernel
theorem dX7_takeName_17 : decode cX7_takeName 17 = .ok (.iconst 1, 1) := by decide +kernel
theorem dX7_takeName_18 : decode cX7_takeName 18 = .ok (.ireturn, 1) := by decide +kernel
theorem mw_X7_takeName : MW yX7_takeName cX7_takeName 1 3 0 false := ⟨tm 887 (by decide +kernel) rfl, tm 237 (by decide +kernel) rfl, by decide, by decide, (by rw [if_neg (by decide)]; exact ⟨tm 886 (by decide +kernel) rfl, tm 31 (by decide +kernel) rfl⟩)⟩
def To_takeName  (σ : Sg) : Rs := (if (σ 5 6) = 3 then (bd (To_take σ) (fun r1 s2 => (some (1, s2)))) else (bd (To_misfit σ) (fun r3 s4 => (zb r3 (some (r3, s4))))))
theorem ok_To_takeName (σ : Sg) : MC l Kh Ph yX7_takeName cX7_takeName 1 3 2 [.inr (.inr 5)] σ (To_takeName σ) := by
  refine mc_of (by decide) (Nat.le_of_ble_eq_true rfl) ?_
  change G l Kh Ph RX7 cX7_takeName 1 3 2 0 [some (.inr (.inr 5))] [] σ (To_takeName  σ)
  unfold To_takeName
  refine g_aload_n dX7_takeName_0 rfl rfl ?_
  refine g_geti fl_RX7_115 kh_5 (by decide) dX7_takeName_1 ?_
  refine g_iconst dX7_takeName_4 (by decide) ?_
  refine g_icmpeq (tgt := 13) dX7_takeName_5 (by decide) ?_ ?_
  · refine g_aload_n dX7_takeName_13 rfl rfl ?_
    refine g_callv2 (st := []) 6 mw_X7_take lk_RX7_91 rfl kh_5 (ok_To_take σ) (Nat.le_of_ble_eq_true rfl) rfl rfl (Nat.le_of_ble_eq_true rfl) dX7_takeName_14 ?_
    intro r1 s2
    refine g_iconst dX7_takeName_17 (by decide) ?_
    exact g_zret1 dX7_takeName_18
  · refine g_aload_n dX7_takeName_8 rfl rfl ?_
    refine g_callv3 (st := []) 6 mw_X7_misfit lk_RX7_118 rfl kh_5 (ok_To_misfit σ) (Nat.le_of_ble_eq_true rfl) rfl rfl (Nat.le_of_ble_eq_true rfl) dX7_takeName_9 ?_
    intro r3 s4
    exact g_zret dX7_takeName_12
theorem dX5_takeNewName_0 : decode cX5_takeNewName 0 = .ok (.aload_n 0, 1) := by decide +kernel
theorem dX5_takeNewName_1 : decode cX5_takeNewName 1 = .ok (.invokevirtual 82, 3) := by decide +kernel
theorem dX5_takeNewName_4 : decode cX5_takeNewName 4 = .ok (.ifCond .ne 7, 3) := by decide +kernel
theorem dX5_takeNewName_7 : decode cX5_takeNewName 7 = .ok (.ldc2_w 85, 3) := by decide +kernel
theorem dX5_takeNewName_10 : decode cX5_takeNewName 10 = .ok (.lreturn, 1) := by decide +kernel
theorem dX5_takeNewName_11 : decode cX5_takeNewName 11 = .ok (.aload_n 0, 1) := by decide +kernel
theorem dX5_takeNewName_12 : decode cX5_takeNewName 12 = .ok (.getfield 87, 3) := by decide +kernel
theorem dX5_takeNewName_15 : decode cX5_takeNewName 15 = .ok (.lstore_n 2, 1) := by decide +kernel
theorem dX5_takeNewName_16 : decode cX5_takeNewName 16 = .ok (.aload_n 1, 1) := by decide +kernel
theorem dX5_takeNewName_17 : decode cX5_takeNewName 17 = .ok (.lload_n 2, 1) := by decide +kernel
theorem dX5_takeNewName_18 : decode cX5_takeNewName 18 = .ok (.invokevirtual 91, 3) := by decide +kernel
theorem dX5_takeNewName_21 : decode cX5_takeNewName 21 = .ok (.iconst (-1), 1) := by decide +kernel
theorem dX5_takeNewName_22 : decode cX5_takeNewName 22 = .ok (.if_icmp .ne 12, 3) := by decide +kernel
theorem dX5_takeNewName_25 : decode cX5_takeNewName 25 = .ok (.aload_n 1, 1) := by decide +kernel
theorem dX5_takeNewName_26 : decode cX5_takeNewName 26 = .ok (.lload_n 2, 1) := by decide +kernel
theorem dX5_takeNewName_27 : decode cX5_takeNewName 27 = .ok (.invokevirtual 95, 3) := by decide +kernel
theorem dX5_takeNewName_30 : decode cX5_takeNewName 30 = .ok (.iconst (-1), 1) := by decide +kernel
theorem dX5_takeNewName_31 : decode cX5_takeNewName 31 = .ok (.if_icmp .eq 13, 3) := by decide +kernel
theorem dX5_takeNewName_34 : decode cX5_takeNewName 34 = .ok (.aload_n 0, 1) := by decide +kernel
theorem dX5_takeNewName_35 : decode cX5_takeNewName 35 = .ok (.iconst 3, 1) := by decide +kernel
theorem dX5_takeNewName_36 : decode cX5_takeNewName 36 = .ok (.invokevirtual 47, 3) := by decide +kernel
theorem dX5_takeNewName_39 : decode cX5_takeNewName 39 = .ok (.pop, 1) := by decide +kernel
theorem dX5_takeNewName_40 : decode cX5_takeNewName 40 = .ok (.ldc2_w 85, 3) := by decide +kernel
theorem dX5_takeNewName_43 : decode cX5_takeNewName 43 = .ok (.lreturn, 1) := by decide +kernel
theorem dX5_takeNewName_44 : decode cX5_takeNewName 44 = .ok (.lload_n 2, 1) := by decide +kernel
theorem dX5_takeNewName_45 : decode cX5_takeNewName 45 = .ok (.lreturn, 1) := by decide +kernel
theorem mw_X5_takeNewName : MW yX5_takeNewName cX5_takeNewName 4 1 2 true := ⟨tm 883 (by decide +kernel) rfl, tm 252 (by decide +kernel) rfl, by decide, by decide, (by rw [if_pos rfl]; exact tm 882 (by decide +kernel) rfl)⟩
theorem lk_RX5_82 : LK RX5 82 yX7_takeName := Or.inr ⟨"HairProvince", tm 884 (by decide +kernel) rfl⟩
theorem lk_RX5_91 : LK RX5 91 yX4_findWord := Or.inr ⟨"HairProvince", tm 889 (by decide +kernel) rfl⟩
theorem lk_RX5_95 : LK RX5 95 yX4_findPerson := Or.inr ⟨"HairProvince", tm 893 (by decide +kernel) rfl⟩
theorem fl_RX5_87 : FL RX5 87 6 10 := ⟨_, _, _, _, cw_6, by decide, Or.inr (Or.inl (by decide)), Or.inr (by decide), Or.inr ⟨"HairProvince", tm 354 (by decide +kernel) rfl⟩⟩
def PR_takeNewName (pr1 : Nat) (σ : Sg) : Rs := (bd (To_takeName σ) (fun r1 s2 => (if r1 = 0 then (some ((-1), s2)) else (nm (s2 5 10) (fun x3 => (bd (Pr_findWord pr1 x3 s2) (fun r4 s5 => (if r4 = (-1) then (bd (Pr_findPerson pr1 x3 s5) (fun r6 s7 => (if r6 = (-1) then (some (x3, s7)) else (bd (To_reject 3 s7) (fun r8 s9 => (some ((-1), s9))))))) else (bd (To_reject 3 s5) (fun r10 s11 => (some ((-1), s11))))))))))))
theorem ok_PR_takeNewName (pr1 : Nat) (hpr1 : Kh[pr1]? = some (.inl 4)) (σ : Sg) : MC l Kh Ph yX5_takeNewName cX5_takeNewName 4 1 3 [.inr (.inr 5), .inr (.inr pr1)] σ (PR_takeNewName pr1 σ) := by
  refine mc_of (by decide) (Nat.le_of_ble_eq_true rfl) ?_
  change G l Kh Ph RX5 cX5_takeNewName 4 1 3 0 [some (.inr (.inr 5)), some (.inr (.inr pr1)), none, none] [] σ (PR_takeNewName pr1 σ)
  unfold PR_takeNewName
  refine g_aload_n dX5_takeNewName_0 rfl rfl ?_
  refine g_callv3 (st := []) 6 mw_X7_takeName lk_RX5_82 rfl kh_5 (ok_To_takeName σ) (Nat.le_of_ble_eq_true rfl) rfl rfl (Nat.le_of_ble_eq_true rfl) dX5_takeNewName_1 ?_
  intro r1 s2
  refine g_ifne (tgt := 11) dX5_takeNewName_4 (by decide) ?_ ?_
  · refine g_ldc2 (n := (-1)) (tm 888 (by decide +kernel) rfl) (by decide) dX5_takeNewName_7 ?_
    exact g_lret dX5_takeNewName_10
  · refine g_aload_n dX5_takeNewName_11 rfl rfl ?_
    refine g_getl fl_RX5_87 kh_5 (by decide) dX5_takeNewName_12 ?_
    refine n_lstore_n (fun x3 => [some (.inr (.inr 5)), some (.inr (.inr pr1)), some (.inr (.inl x3)), none]) dX5_takeNewName_15 rfl (Nat.le_of_ble_eq_true rfl) (fun _ => rfl) ?_
    intro x3
    refine g_aload_n dX5_takeNewName_16 rfl rfl ?_
    refine g_lload_n dX5_takeNewName_17 rfl rfl ?_
    refine g_callv0 (st := []) 4 mw_X4_findWord lk_RX5_91 rfl hpr1 (ok_Pr_findWord pr1 x3 hpr1 s2) (Nat.le_of_ble_eq_true rfl) rfl rfl (Nat.le_of_ble_eq_true rfl) dX5_takeNewName_18 ?_
    intro r4 s5
    refine g_iconst dX5_takeNewName_21 (by decide) ?_
    refine g_icmpne (tgt := 34) dX5_takeNewName_22 (by decide) ?_ ?_
    · refine g_aload_n dX5_takeNewName_25 rfl rfl ?_
      refine g_lload_n dX5_takeNewName_26 rfl rfl ?_
      refine g_callv0 (st := []) 4 mw_X4_findPerson lk_RX5_95 rfl hpr1 (ok_Pr_findPerson pr1 x3 hpr1 s5) (Nat.le_of_ble_eq_true rfl) rfl rfl (Nat.le_of_ble_eq_true rfl) dX5_takeNewName_27 ?_
      intro r6 s7
      refine g_iconst dX5_takeNewName_30 (by decide) ?_
      refine g_icmpeq (tgt := 44) dX5_takeNewName_31 (by decide) ?_ ?_
      · refine g_lload_n dX5_takeNewName_44 rfl rfl ?_
        exact g_lret dX5_takeNewName_45
      · refine g_aload_n dX5_takeNewName_34 rfl rfl ?_
        refine g_iconst dX5_takeNewName_35 (by decide) ?_
        refine g_callv3 (st := []) 6 mw_X7_reject lk_RX5_47 rfl kh_5 (ok_To_reject 3 s7) (Nat.le_of_ble_eq_true rfl) rfl rfl (Nat.le_of_ble_eq_true rfl) dX5_takeNewName_36 ?_
        intro r8 s9
        refine g_pop dX5_takeNewName_39 rfl ?_
        refine g_ldc2 (n := (-1)) (tm 888 (by decide +kernel) rfl) (by decide) dX5_takeNewName_40 ?_
        exact g_lret dX5_takeNewName_43
    · refine g_aload_n dX5_takeNewName_34 rfl rfl ?_
      refine g_iconst dX5_takeNewName_35 (by decide) ?_
      refine g_callv3 (st := []) 6 mw_X7_reject lk_RX5_47 rfl kh_5 (ok_To_reject 3 s5) (Nat.le_of_ble_eq_true rfl) rfl rfl (Nat.le_of_ble_eq_true rfl) dX5_takeNewName_36 ?_
      intro r10 s11
      refine g_pop dX5_takeNewName_39 rfl ?_
      refine g_ldc2 (n := (-1)) (tm 888 (by decide +kernel) rfl) (by decide) dX5_takeNewName_40 ?_
      exact g_lret dX5_takeNewName_43
theorem dX5_takePerhaps_0 : decode cX5_takePerhaps 0 = .ok (.aload_n 0, 1) := by decide +kernel
theorem dX5_takePerhaps_1 : decode cX5_takePerhaps 1 = .ok (.invokevirtual 33, 3) := by decide +kernel
theorem dX5_takePerhaps_4 : decode cX5_takePerhaps 4 = .ok (.iload_n 1, 1) := by decide +kernel
theorem dX5_takePerhaps_5 : decode cX5_takePerhaps 5 = .ok (.if_icmp .eq 6, 3) := by decide +kernel
theorem dX5_takePerhaps_8 : decode cX5_takePerhaps 8 = .ok (.iload 4, 2) := by decide +kernel
theorem dX5_takePerhaps_10 : decode cX5_takePerhaps 10 = .ok (.ireturn, 1) := by decide +kernel
theorem dX5_takePerhaps_11 : decode cX5_takePerhaps 11 = .ok (.aload_n 0, 1) := by decide +kernel
theorem dX5_takePerhaps_12 : decode cX5_takePerhaps 12 = .ok (.invokevirtual 37, 3) := by decide +kernel
theorem dX5_takePerhaps_15 : decode cX5_takePerhaps 15 = .ok (.aload_n 0, 1) := by decide +kernel
theorem dX5_takePerhaps_16 : decode cX5_takePerhaps 16 = .ok (.iload_n 2, 1) := by decide +kernel
theorem dX5_takePerhaps_17 : decode cX5_takePerhaps 17 = .ok (.iload_n 3, 1) := by decide +kernel
theorem dX5_takePerhaps_18 : decode cX5_takePerhaps 18 = .ok (.invokevirtual 75, 3) := by decide +kernel
theorem dX5_takePerhaps_21 : decode cX5_takePerhaps 21 = .ok (.ireturn, 1) := by decide +kernel
theorem mw_X5_takePerhaps : MW yX5_takePerhaps cX5_takePerhaps 5 0 5 true := ⟨tm 899 (by decide +kernel) rfl, tm 252 (by decide +kernel) rfl, by decide, by decide, (by rw [if_pos rfl]; exact tm 898 (by decide +kernel) rfl)⟩
def PR_takePerhaps (a1 : Int) (a2 : Int) (a3 : Int) (a4 : Int) (σ : Sg) : Rs := (bd (To_keyNext σ) (fun r1 s2 => (if r1 = a1 then (bd (To_take s2) (fun r3 s4 => (bd (To_takeNumber a2 a3 s4) (fun r5 s6 => (some (r5, s6)))))) else (some (a4, s2)))))
theorem ok_PR_takePerhaps (a1 : Int) (a2 : Int) (a3 : Int) (a4 : Int) (σ : Sg) : MC l Kh Ph yX5_takePerhaps cX5_takePerhaps 5 0 3 [.inr (.inr 5), .inl a1, .inl a2, .inl a3, .inl a4] σ (PR_takePerhaps a1 a2 a3 a4 σ) := by
  refine mc_of (by decide) (Nat.le_of_ble_eq_true rfl) ?_
  change G l Kh Ph RX5 cX5_takePerhaps 5 0 3 0 [some (.inr (.inr 5)), some (.inl a1), some (.inl a2), some (.inl a3), some (.inl a4)] [] σ (PR_takePerhaps a1 a2 a3 a4 σ)
  unfold PR_takePerhaps
  refine g_aload_n dX5_takePerhaps_0 rfl rfl ?_
  refine g_callv0 (st := []) 6 mw_X7_keyNext lk_RX5_33 rfl kh_5 (ok_To_keyNext σ) (Nat.le_of_ble_eq_true rfl) rfl rfl (Nat.le_of_ble_eq_true rfl) dX5_takePerhaps_1 ?_
  intro r1 s2
  refine g_iload_n dX5_takePerhaps_4 rfl rfl ?_
  refine g_icmpeq (tgt := 11) dX5_takePerhaps_5 (by decide) ?_ ?_
  · refine g_aload_n dX5_takePerhaps_11 rfl rfl ?_
    refine g_callv2 (st := []) 6 mw_X7_take lk_RX5_37 rfl kh_5 (ok_To_take s2) (Nat.le_of_ble_eq_true rfl) rfl rfl (Nat.le_of_ble_eq_true rfl) dX5_takePerhaps_12 ?_
    intro r3 s4
    refine g_aload_n dX5_takePerhaps_15 rfl rfl ?_
    refine g_iload_n dX5_takePerhaps_16 rfl rfl ?_
    refine g_iload_n dX5_takePerhaps_17 rfl rfl ?_
    refine g_callv0 (st := []) 6 mw_X7_takeNumber lk_RX5_75 rfl kh_5 (ok_To_takeNumber a2 a3 s4) (Nat.le_of_ble_eq_true rfl) rfl rfl (Nat.le_of_ble_eq_true rfl) dX5_takePerhaps_18 ?_
    intro r5 s6
    exact g_iret dX5_takePerhaps_21
  · refine g_iload dX5_takePerhaps_8 rfl ?_
    exact g_iret dX5_takePerhaps_10
theorem dX5_readPerson_0 : decode cX5_readPerson 0 = .ok (.aload_n 0, 1) := by decide +kernel
theorem dX5_readPerson_1 : decode cX5_readPerson 1 = .ok (.aload_n 1, 1) := by decide +kernel
theorem dX5_readPerson_2 : decode cX5_readPerson 2 = .ok (.invokestatic 98, 3) := by decide +kernel
theorem dX5_readPerson_5 : decode cX5_readPerson 5 = .ok (.lstore_n 2, 1) := by decide +kernel
theorem dX5_readPerson_6 : decode cX5_readPerson 6 = .ok (.lload_n 2, 1) := by decide +kernel
theorem dX5_readPerson_7 : decode cX5_readPerson 7 = .ok (.ldc2_w 85, 3) := by decide +kernel
theorem dX5_readPerson_10 : decode cX5_readPerson 10 = .ok (.lcmp, 1) := by decide +kernel
theorem dX5_readPerson_11 : decode cX5_readPerson 11 = .ok (.ifCond .ne 5, 3) := by decide +kernel
theorem dX5_readPerson_14 : decode cX5_readPerson 14 = .ok (.iconst 0, 1) := by decide +kernel
theorem dX5_readPerson_15 : decode cX5_readPerson 15 = .ok (.ireturn, 1) := by decide +kernel
theorem dX5_readPerson_16 : decode cX5_readPerson 16 = .ok (.aload_n 0, 1) := by decide +kernel
theorem dX5_readPerson_17 : decode cX5_readPerson 17 = .ok (.bipush 6, 2) := by decide +kernel
theorem dX5_readPerson_19 : decode cX5_readPerson 19 = .ok (.iconst 0, 1) := by decide +kernel
theorem dX5_readPerson_20 : decode cX5_readPerson 20 = .ok (.sipush 999, 3) := by decide +kernel
theorem dX5_readPerson_23 : decode cX5_readPerson 23 = .ok (.bipush 50, 2) := by decide +kernel
theorem dX5_readPerson_25 : decode cX5_readPerson 25 = .ok (.invokestatic 102, 3) := by decide +kernel
theorem dX5_readPerson_28 : decode cX5_readPerson 28 = .ok (.istore 4, 2) := by decide +kernel
theorem dX5_readPerson_30 : decode cX5_readPerson 30 = .ok (.iload 4, 2) := by decide +kernel
theorem dX5_readPerson_32 : decode cX5_readPerson 32 = .ok (.iconst (-1), 1) := by decide +kernel
theorem dX5_readPerson_33 : decode cX5_readPerson 33 = .ok (.if_icmp .ne 5, 3) := by decide +kernel
theorem dX5_readPerson_36 : decode cX5_readPerson 36 = .ok (.iconst 0, 1) := by decide +kernel
theorem dX5_readPerson_37 : decode cX5_readPerson 37 = .ok (.ireturn, 1) := by decide +kernel
theorem dX5_readPerson_38 : decode cX5_readPerson 38 = .ok (.aload_n 0, 1) := by decide +kernel
theorem dX5_readPerson_39 : decode cX5_readPerson 39 = .ok (.invokevirtual 33, 3) := by decide +kernel
theorem dX5_readPerson_42 : decode cX5_readPerson 42 = .ok (.bipush 7, 2) := by decide +kernel
theorem dX5_readPerson_44 : decode cX5_readPerson 44 = .ok (.if_icmp .ne 7, 3) := by decide +kernel
theorem dX5_readPerson_47 : decode cX5_readPerson 47 = .ok (.iconst 1, 1) := by decide +kernel
theorem dX5_readPerson_48 : decode cX5_readPerson 48 = .ok (.goto 4, 3) := by decide +kernel
theorem dX5_readPerson_51 : decode cX5_readPerson 51 = .ok (.iconst 0, 1) := by decide +kernel
theorem dX5_readPerson_52 : decode cX5_readPerson 52 = .ok (.istore 5, 2) := by decide +kernel
theorem dX5_readPerson_54 : decode cX5_readPerson 54 = .ok (.iload 5, 2) := by decide +kernel
theorem dX5_readPerson_56 : decode cX5_readPerson 56 = .ok (.ifCond .eq 7, 3) := by decide +kernel
theorem dX5_readPerson_59 : decode cX5_readPerson 59 = .ok (.aload_n 0, 1) := by decide +kernel
theorem dX5_readPerson_60 : decode cX5_readPerson 60 = .ok (.invokevirtual 37, 3) := by decide +kernel
theorem dX5_readPerson_63 : decode cX5_readPerson 63 = .ok (.aload_n 0, 1) := by decide +kernel
theorem dX5_readPerson_64 : decode cX5_readPerson 64 = .ok (.aload_n 1, 1) := by decide +kernel
theorem dX5_readPerson_65 : decode cX5_readPerson 65 = .ok (.invokestatic 110, 3) := by decide +kernel
theorem dX5_readPerson_68 : decode cX5_readPerson 68 = .ok (.istore 6, 2) := by decide +kernel
theorem dX5_readPerson_70 : decode cX5_readPerson 70 = .ok (.iload 6, 2) := by decide +kernel
theorem dX5_readPerson_72 : decode cX5_readPerson 72 = .ok (.iconst (-1), 1) := by decide +kernel
theorem dX5_readPerson_73 : decode cX5_readPerson 73 = .ok (.if_icmp .eq 10, 3) := by decide +kernel
theorem dX5_readPerson_76 : decode cX5_readPerson 76 = .ok (.aload_n 0, 1) := by decide +kernel
theorem dX5_readPerson_77 : decode cX5_readPerson 77 = .ok (.invokevirtual 79, 3) := by decide +kernel
theorem dX5_readPerson_80 : decode cX5_readPerson 80 = .ok (.ifCond .ne 5, 3) := by decide +kernel
theorem dX5_readPerson_83 : decode cX5_readPerson 83 = .ok (.iconst 0, 1) := by decide +kernel
theorem dX5_readPerson_84 : decode cX5_readPerson 84 = .ok (.ireturn, 1) := by decide +kernel
theorem dX5_readPerson_85 : decode cX5_readPerson 85 = .ok (.aload_n 1, 1) := by decide +kernel
theorem dX5_readPerson_86 : decode cX5_readPerson 86 = .ok (.lload_n 2, 1) := by decide +kernel
theorem dX5_readPerson_87 : decode cX5_readPerson 87 = .ok (.iload 4, 2) := by decide +kernel
theorem dX5_readPerson_89 : decode cX5_readPerson 89 = .ok (.iload 5, 2) := by decide +kernel
theorem dX5_readPerson_91 : decode cX5_readPerson 91 = .ok (.iload 6, 2) := by decide +kernel
theorem dX5_readPerson_93 : decode cX5_readPerson 93 = .ok (.invokevirtual 114, 3) := by decide +kernel
theorem dX5_readPerson_96 : decode cX5_readPerson 96 = .ok (.iconst 1, 1) := by decide +kernel
theorem dX5_readPerson_97 : decode cX5_readPerson 97 = .ok (.ireturn, 1) := by decide +kernel
theorem mw_X5_readPerson : MW yX5_readPerson cX5_readPerson 7 3 2 true := ⟨tm 906 (by decide +kernel) rfl, tm 252 (by decide +kernel) rfl, by decide, by decide, (by rw [if_pos rfl]; exact tm 905 (by decide +kernel) rfl)⟩
theorem lk_RX5_98 : LK RX5 98 yX5_takeNewName := Or.inl (tm 881 (by decide +kernel) rfl)
theorem lk_RX5_102 : LK RX5 102 yX5_takePerhaps := Or.inl (tm 897 (by decide +kernel) rfl)
theorem lk_RX5_110 : LK RX5 110 yX5_readKeeps := Or.inl (tm 907 (by decide +kernel) rfl)
theorem lk_RX5_114 : LK RX5 114 yX4_addPerson := Or.inr ⟨"HairProvince", tm 919 (by decide +kernel) rfl⟩
def PR_readPerson_J63 (pr1 : Nat) (v2 : Int) (v4 : Int) (v5 : Int) (σ : Sg) : Rs := (bd (PR_readKeeps pr1 σ) (fun r7 s8 => (if r7 = (-1) then (some (0, s8)) else (bd (To_takeClosing s8) (fun r9 s10 => (if r9 = 0 then (some (0, s10)) else (bd (Pr_addPerson pr1 v2 v4 v5 r7 s10) (fun r11 s12 => (some (1, s12))))))))))
theorem ok_PR_readPerson_J63 (pr1 : Nat) (v2 : Int) (v4 : Int) (v5 : Int) (hpr1 : Kh[pr1]? = some (.inl 4)) : ∀ (σ : Sg), G l Kh Ph RX5 cX5_readPerson 7 3 4 63 [some (.inr (.inr 5)), some (.inr (.inr pr1)), some (.inr (.inl v2)), none, some (.inl v4), some (.inl v5), none] [] σ (PR_readPerson_J63 pr1 v2 v4 v5  σ) := by
  intro σ
  unfold PR_readPerson_J63
  refine g_aload_n dX5_readPerson_63 rfl rfl ?_
  refine g_aload_n dX5_readPerson_64 rfl rfl ?_
  refine g_calls0 (st := []) mw_X5_readKeeps lk_RX5_110 (ok_PR_readKeeps pr1 hpr1 σ) (Nat.le_of_ble_eq_true rfl) rfl rfl (Nat.le_of_ble_eq_true rfl) dX5_readPerson_65 ?_
  intro r7 s8
  refine g_istore (lv' := [some (.inr (.inr 5)), some (.inr (.inr pr1)), some (.inr (.inl v2)), none, some (.inl v4), some (.inl v5), some (.inl r7)]) dX5_readPerson_68 (Nat.le_of_ble_eq_true rfl) rfl ?_
  refine g_iload dX5_readPerson_70 rfl ?_
  refine g_iconst dX5_readPerson_72 (by decide) ?_
  refine g_icmpeq (tgt := 83) dX5_readPerson_73 (by decide) ?_ ?_
  · refine g_iconst dX5_readPerson_83 (by decide) ?_
    exact g_zret0 dX5_readPerson_84
  · refine g_aload_n dX5_readPerson_76 rfl rfl ?_
    refine g_callv3 (st := []) 6 mw_X7_takeClosing lk_RX5_79 rfl kh_5 (ok_To_takeClosing s8) (Nat.le_of_ble_eq_true rfl) rfl rfl (Nat.le_of_ble_eq_true rfl) dX5_readPerson_77 ?_
    intro r9 s10
    refine g_ifne (tgt := 85) dX5_readPerson_80 (by decide) ?_ ?_
    · refine g_iconst dX5_readPerson_83 (by decide) ?_
      exact g_zret0 dX5_readPerson_84
    · refine g_aload_n dX5_readPerson_85 rfl rfl ?_
      refine g_lload_n dX5_readPerson_86 rfl rfl ?_
      refine g_iload dX5_readPerson_87 rfl ?_
      refine g_iload dX5_readPerson_89 rfl ?_
      refine g_iload dX5_readPerson_91 rfl ?_
      refine g_callv2 (st := []) 4 mw_X4_addPerson lk_RX5_114 rfl hpr1 (ok_Pr_addPerson pr1 v2 v4 v5 r7 hpr1 s10) (Nat.le_of_ble_eq_true rfl) rfl rfl (Nat.le_of_ble_eq_true rfl) dX5_readPerson_93 ?_
      intro r11 s12
      refine g_iconst dX5_readPerson_96 (by decide) ?_
      exact g_zret1 dX5_readPerson_97
def PR_readPerson_J52 (pr1 : Nat) (v2 : Int) (v4 : Int) (t0 : Int) (σ : Sg) : Rs := (if t0 = 0 then (PR_readPerson_J63 pr1 v2 v4 t0 σ) else (bd (To_take σ) (fun r13 s14 => (PR_readPerson_J63 pr1 v2 v4 t0 s14))))
theorem ok_PR_readPerson_J52 (pr1 : Nat) (v2 : Int) (v4 : Int) (hpr1 : Kh[pr1]? = some (.inl 4)) : ∀ (t0 : Int) (σ : Sg), G l Kh Ph RX5 cX5_readPerson 7 3 4 52 [some (.inr (.inr 5)), some (.inr (.inr pr1)), some (.inr (.inl v2)), none, some (.inl v4), none, none] [.inl t0] σ (PR_readPerson_J52 pr1 v2 v4 t0 σ) := by
  intro t0 σ
  unfold PR_readPerson_J52
  refine g_istore (lv' := [some (.inr (.inr 5)), some (.inr (.inr pr1)), some (.inr (.inl v2)), none, some (.inl v4), some (.inl t0), none]) dX5_readPerson_52 (Nat.le_of_ble_eq_true rfl) rfl ?_
  refine g_iload dX5_readPerson_54 rfl ?_
  refine g_ifeq (tgt := 63) dX5_readPerson_56 (by decide) ?_ ?_
  · refine (ok_PR_readPerson_J63 pr1 v2 v4 t0 hpr1 σ)
  · refine g_aload_n dX5_readPerson_59 rfl rfl ?_
    refine g_callv2 (st := []) 6 mw_X7_take lk_RX5_37 rfl kh_5 (ok_To_take σ) (Nat.le_of_ble_eq_true rfl) rfl rfl (Nat.le_of_ble_eq_true rfl) dX5_readPerson_60 ?_
    intro r13 s14
    refine (ok_PR_readPerson_J63 pr1 v2 v4 t0 hpr1 s14)
def PR_readPerson (pr1 : Nat) (σ : Sg) : Rs := (bd (PR_takeNewName pr1 σ) (fun r1 s2 => (if r1 = (-1) then (some (0, s2)) else (bd (PR_takePerhaps 6 0 999 50 s2) (fun r3 s4 => (if r3 = (-1) then (some (0, s4)) else (bd (To_keyNext s4) (fun r5 s6 => (if r5 = 7 then (PR_readPerson_J52 pr1 r1 r3 1 s6) else (PR_readPerson_J52 pr1 r1 r3 0 s6))))))))))
theorem ok_PR_readPerson (pr1 : Nat) (hpr1 : Kh[pr1]? = some (.inl 4)) (σ : Sg) : MC l Kh Ph yX5_readPerson cX5_readPerson 7 3 4 [.inr (.inr 5), .inr (.inr pr1)] σ (PR_readPerson pr1 σ) := by
  refine mc_of (by decide) (Nat.le_of_ble_eq_true rfl) ?_
  change G l Kh Ph RX5 cX5_readPerson 7 3 4 0 [some (.inr (.inr 5)), some (.inr (.inr pr1)), none, none, none, none, none] [] σ (PR_readPerson pr1 σ)
  unfold PR_readPerson
  refine g_aload_n dX5_readPerson_0 rfl rfl ?_
  refine g_aload_n dX5_readPerson_1 rfl rfl ?_
  refine g_calls1 (st := []) mw_X5_takeNewName lk_RX5_98 (ok_PR_takeNewName pr1 hpr1 σ) (Nat.le_of_ble_eq_true rfl) rfl rfl (Nat.le_of_ble_eq_true rfl) dX5_readPerson_2 ?_
  intro r1 s2
  refine g_lstore_n (lv' := [some (.inr (.inr 5)), some (.inr (.inr pr1)), some (.inr (.inl r1)), none, none, none, none]) dX5_readPerson_5 rfl (Nat.le_of_ble_eq_true rfl) rfl ?_
  refine g_lload_n dX5_readPerson_6 rfl rfl ?_
  refine g_ldc2 (n := (-1)) (tm 888 (by decide +kernel) rfl) (by decide) dX5_readPerson_7 ?_
  refine g_lcmpne (tgt := 16) dX5_readPerson_10 dX5_readPerson_11 (by decide) ?_ ?_
  · refine g_iconst dX5_readPerson_14 (by decide) ?_
    exact g_zret0 dX5_readPerson_15
  · refine g_aload_n dX5_readPerson_16 rfl rfl ?_
    refine g_bipush dX5_readPerson_17 (by decide) ?_
    refine g_iconst dX5_readPerson_19 (by decide) ?_
    refine g_sipush dX5_readPerson_20 (by decide) ?_
    refine g_bipush dX5_readPerson_23 (by decide) ?_
    refine g_calls0 (st := []) mw_X5_takePerhaps lk_RX5_102 (ok_PR_takePerhaps 6 0 999 50 s2) (Nat.le_of_ble_eq_true rfl) rfl rfl (Nat.le_of_ble_eq_true rfl) dX5_readPerson_25 ?_
    intro r3 s4
    refine g_istore (lv' := [some (.inr (.inr 5)), some (.inr (.inr pr1)), some (.inr (.inl r1)), none, some (.inl r3), none, none]) dX5_readPerson_28 (Nat.le_of_ble_eq_true rfl) rfl ?_
    refine g_iload dX5_readPerson_30 rfl ?_
    refine g_iconst dX5_readPerson_32 (by decide) ?_
    refine g_icmpne (tgt := 38) dX5_readPerson_33 (by decide) ?_ ?_
    · refine g_iconst dX5_readPerson_36 (by decide) ?_
      exact g_zret0 dX5_readPerson_37
    · refine g_aload_n dX5_readPerson_38 rfl rfl ?_
      refine g_callv0 (st := []) 6 mw_X7_keyNext lk_RX5_33 rfl kh_5 (ok_To_keyNext s4) (Nat.le_of_ble_eq_true rfl) rfl rfl (Nat.le_of_ble_eq_true rfl) dX5_readPerson_39 ?_
      intro r5 s6
      refine g_bipush dX5_readPerson_42 (by decide) ?_
      refine g_icmpne (tgt := 51) dX5_readPerson_44 (by decide) ?_ ?_
      · refine g_iconst dX5_readPerson_47 (by decide) ?_
        refine g_goto (tgt := 52) dX5_readPerson_48 (by decide) ?_
        refine (ok_PR_readPerson_J52 pr1 r1 r3 hpr1 1 s6)
      · refine g_iconst dX5_readPerson_51 (by decide) ?_
        refine (ok_PR_readPerson_J52 pr1 r1 r3 hpr1 0 s6)
theorem dX5_readRule_0 : decode cX5_readRule 0 = .ok (.iload_n 2, 1) := by decide +kernel
theorem dX5_readRule_1 : decode cX5_readRule 1 = .ok (.ifCond .ne 7, 3) := by decide +kernel
theorem dX5_readRule_4 : decode cX5_readRule 4 = .ok (.iconst 1, 1) := by decide +kernel
theorem dX5_readRule_5 : decode cX5_readRule 5 = .ok (.goto 4, 3) := by decide +kernel
theorem dX5_readRule_8 : decode cX5_readRule 8 = .ok (.iconst 0, 1) := by decide +kernel
theorem dX5_readRule_9 : decode cX5_readRule 9 = .ok (.istore_n 3, 1) := by decide +kernel
theorem dX5_readRule_10 : decode cX5_readRule 10 = .ok (.iload_n 3, 1) := by decide +kernel
theorem dX5_readRule_11 : decode cX5_readRule 11 = .ok (.ifCond .eq 10, 3) := by decide +kernel
theorem dX5_readRule_14 : decode cX5_readRule 14 = .ok (.aload_n 1, 1) := by decide +kernel
theorem dX5_readRule_15 : decode cX5_readRule 15 = .ok (.getfield 14, 3) := by decide +kernel
theorem dX5_readRule_18 : decode cX5_readRule 18 = .ok (.goto 7, 3) := by decide +kernel
theorem dX5_readRule_21 : decode cX5_readRule 21 = .ok (.aload_n 1, 1) := by decide +kernel
theorem dX5_readRule_22 : decode cX5_readRule 22 = .ok (.getfield 18, 3) := by decide +kernel
theorem dX5_readRule_25 : decode cX5_readRule 25 = .ok (.iconst (-1), 1) := by decide +kernel
theorem dX5_readRule_26 : decode cX5_readRule 26 = .ok (.if_icmp .eq 9, 3) := by decide +kernel
theorem dX5_readRule_29 : decode cX5_readRule 29 = .ok (.aload_n 0, 1) := by decide +kernel
theorem dX5_readRule_30 : decode cX5_readRule 30 = .ok (.iconst 5, 1) := by decide +kernel
theorem dX5_readRule_31 : decode cX5_readRule 31 = .ok (.invokevirtual 47, 3) := by decide +kernel
theorem dX5_readRule_34 : decode cX5_readRule 34 = .ok (.ireturn, 1) := by decide +kernel
theorem dX5_readRule_35 : decode cX5_readRule 35 = .ok (.aload_n 0, 1) := by decide +kernel
theorem dX5_readRule_36 : decode cX5_readRule 36 = .ok (.iconst 0, 1) := by decide +kernel
theorem dX5_readRule_37 : decode cX5_readRule 37 = .ok (.iload_n 3, 1) := by decide +kernel
theorem dX5_readRule_38 : decode cX5_readRule 38 = .ok (.ifCond .eq 8, 3) := by decide +kernel
theorem dX5_readRule_41 : decode cX5_readRule 41 = .ok (.bipush 99, 2) := by decide +kernel
theorem dX5_readRule_43 : decode cX5_readRule 43 = .ok (.goto 5, 3) := by decide +kernel
theorem dX5_readRule_46 : decode cX5_readRule 46 = .ok (.bipush 16, 2) := by decide +kernel
theorem dX5_readRule_48 : decode cX5_readRule 48 = .ok (.invokevirtual 75, 3) := by decide +kernel
theorem dX5_readRule_51 : decode cX5_readRule 51 = .ok (.istore 4, 2) := by decide +kernel
theorem dX5_readRule_53 : decode cX5_readRule 53 = .ok (.iload 4, 2) := by decide +kernel
theorem dX5_readRule_55 : decode cX5_readRule 55 = .ok (.iconst (-1), 1) := by decide +kernel
theorem dX5_readRule_56 : decode cX5_readRule 56 = .ok (.if_icmp .eq 10, 3) := by decide +kernel
theorem dX5_readRule_59 : decode cX5_readRule 59 = .ok (.aload_n 0, 1) := by decide +kernel
theorem dX5_readRule_60 : decode cX5_readRule 60 = .ok (.invokevirtual 79, 3) := by decide +kernel
theorem dX5_readRule_63 : decode cX5_readRule 63 = .ok (.ifCond .ne 5, 3) := by decide +kernel
theorem dX5_readRule_66 : decode cX5_readRule 66 = .ok (.iconst 0, 1) := by decide +kernel
theorem dX5_readRule_67 : decode cX5_readRule 67 = .ok (.ireturn, 1) := by decide +kernel
theorem dX5_readRule_68 : decode cX5_readRule 68 = .ok (.iload_n 3, 1) := by decide +kernel
theorem dX5_readRule_69 : decode cX5_readRule 69 = .ok (.ifCond .eq 12, 3) := by decide +kernel
theorem dX5_readRule_72 : decode cX5_readRule 72 = .ok (.aload_n 1, 1) := by decide +kernel
theorem dX5_readRule_73 : decode cX5_readRule 73 = .ok (.iload 4, 2) := by decide +kernel
theorem dX5_readRule_75 : decode cX5_readRule 75 = .ok (.putfield 14, 3) := by decide +kernel
theorem dX5_readRule_78 : decode cX5_readRule 78 = .ok (.goto 9, 3) := by decide +kernel
theorem dX5_readRule_81 : decode cX5_readRule 81 = .ok (.aload_n 1, 1) := by decide +kernel
theorem dX5_readRule_82 : decode cX5_readRule 82 = .ok (.iload 4, 2) := by decide +kernel
theorem dX5_readRule_84 : decode cX5_readRule 84 = .ok (.putfield 18, 3) := by decide +kernel
theorem dX5_readRule_87 : decode cX5_readRule 87 = .ok (.iconst 1, 1) := by decide +kernel
theorem dX5_readRule_88 : decode cX5_readRule 88 = .ok (.ireturn, 1) := by decide +kernel
theorem mw_X5_readRule : MW yX5_readRule cX5_readRule 5 3 3 true := ⟨tm 859 (by decide +kernel) rfl, tm 252 (by decide +kernel) rfl, by decide, by decide, (by rw [if_pos rfl]; exact tm 858 (by decide +kernel) rfl)⟩
theorem fl_RX5_14 : FL RX5 14 4 14 := ⟨_, _, _, _, cw_4, by decide, Or.inl (by decide), Or.inr (by decide), Or.inr ⟨"HairProvince", tm 436 (by decide +kernel) rfl⟩⟩
theorem fl_RX5_18 : FL RX5 18 4 15 := ⟨_, _, _, _, cw_4, by decide, Or.inl (by decide), Or.inr (by decide), Or.inr ⟨"HairProvince", tm 439 (by decide +kernel) rfl⟩⟩
def PR_readRule_J48 (pr1 : Nat) (v3 : Int) (t1 t2 : Int) (σ : Sg) : Rs := (bd (To_takeNumber t1 t2 σ) (fun r1 s2 => (if r1 = (-1) then (some (0, s2)) else (bd (To_takeClosing s2) (fun r3 s4 => (if r3 = 0 then (some (0, s4)) else (if v3 = 0 then (nm (up_s s4 pr1 15 r1) (fun s5 => (some (1, s5)))) else (nm (up_s s4 pr1 14 r1) (fun s6 => (some (1, s6)))))))))))
theorem ok_PR_readRule_J48 (pr1 : Nat) (v3 : Int) (hpr1 : Kh[pr1]? = some (.inl 4)) : ∀ (t1 t2 : Int) (σ : Sg), G l Kh Ph RX5 cX5_readRule 5 3 3 48 [some (.inr (.inr 5)), some (.inr (.inr pr1)), none, some (.inl v3), none] [.inl t2, .inl t1, .inr (.inr 5)] σ (PR_readRule_J48 pr1 v3 t1 t2 σ) := by
  intro t1 t2 σ
  unfold PR_readRule_J48
  refine g_callv0 (st := []) 6 mw_X7_takeNumber lk_RX5_75 rfl kh_5 (ok_To_takeNumber t1 t2 σ) (Nat.le_of_ble_eq_true rfl) rfl rfl (Nat.le_of_ble_eq_true rfl) dX5_readRule_48 ?_
  intro r1 s2
  refine g_istore (lv' := [some (.inr (.inr 5)), some (.inr (.inr pr1)), none, some (.inl v3), some (.inl r1)]) dX5_readRule_51 (Nat.le_of_ble_eq_true rfl) rfl ?_
  refine g_iload dX5_readRule_53 rfl ?_
  refine g_iconst dX5_readRule_55 (by decide) ?_
  refine g_icmpeq (tgt := 66) dX5_readRule_56 (by decide) ?_ ?_
  · refine g_iconst dX5_readRule_66 (by decide) ?_
    exact g_zret0 dX5_readRule_67
  · refine g_aload_n dX5_readRule_59 rfl rfl ?_
    refine g_callv3 (st := []) 6 mw_X7_takeClosing lk_RX5_79 rfl kh_5 (ok_To_takeClosing s2) (Nat.le_of_ble_eq_true rfl) rfl rfl (Nat.le_of_ble_eq_true rfl) dX5_readRule_60 ?_
    intro r3 s4
    refine g_ifne (tgt := 68) dX5_readRule_63 (by decide) ?_ ?_
    · refine g_iconst dX5_readRule_66 (by decide) ?_
      exact g_zret0 dX5_readRule_67
    · refine g_iload_n dX5_readRule_68 rfl rfl ?_
      refine g_ifeq (tgt := 81) dX5_readRule_69 (by decide) ?_ ?_
      · refine g_aload_n dX5_readRule_81 rfl rfl ?_
        refine g_iload dX5_readRule_82 rfl ?_
        refine g_puti fl_RX5_18 hpr1 (by decide) dX5_readRule_84 ?_
        intro s5
        refine g_iconst dX5_readRule_87 (by decide) ?_
        exact g_zret1 dX5_readRule_88
      · refine g_aload_n dX5_readRule_72 rfl rfl ?_
        refine g_iload dX5_readRule_73 rfl ?_
        refine g_puti fl_RX5_14 hpr1 (by decide) dX5_readRule_75 ?_
        intro s6
        refine g_goto (tgt := 87) dX5_readRule_78 (by decide) ?_
        refine g_iconst dX5_readRule_87 (by decide) ?_
        exact g_zret1 dX5_readRule_88
def PR_readRule_J25 (pr1 : Nat) (v3 : Int) (t0 : Int) (σ : Sg) : Rs := (if t0 = (-1) then (if v3 = 0 then (PR_readRule_J48 pr1 v3 0 16 σ) else (PR_readRule_J48 pr1 v3 0 99 σ)) else (bd (To_reject 5 σ) (fun r7 s8 => (zb r7 (some (r7, s8))))))
theorem ok_PR_readRule_J25 (pr1 : Nat) (v3 : Int) (hpr1 : Kh[pr1]? = some (.inl 4)) : ∀ (t0 : Int) (σ : Sg), G l Kh Ph RX5 cX5_readRule 5 3 3 25 [some (.inr (.inr 5)), some (.inr (.inr pr1)), none, some (.inl v3), none] [.inl t0] σ (PR_readRule_J25 pr1 v3 t0 σ) := by
  intro t0 σ
  unfold PR_readRule_J25
  refine g_iconst dX5_readRule_25 (by decide) ?_
  refine g_icmpeq (tgt := 35) dX5_readRule_26 (by decide) ?_ ?_
  · refine g_aload_n dX5_readRule_35 rfl rfl ?_
    refine g_iconst dX5_readRule_36 (by decide) ?_
    refine g_iload_n dX5_readRule_37 rfl rfl ?_
    refine g_ifeq (tgt := 46) dX5_readRule_38 (by decide) ?_ ?_
    · refine g_bipush dX5_readRule_46 (by decide) ?_
      refine (ok_PR_readRule_J48 pr1 v3 hpr1 0 16 σ)
    · refine g_bipush dX5_readRule_41 (by decide) ?_
      refine g_goto (tgt := 48) dX5_readRule_43 (by decide) ?_
      refine (ok_PR_readRule_J48 pr1 v3 hpr1 0 99 σ)
  · refine g_aload_n dX5_readRule_29 rfl rfl ?_
    refine g_iconst dX5_readRule_30 (by decide) ?_
    refine g_callv3 (st := []) 6 mw_X7_reject lk_RX5_47 rfl kh_5 (ok_To_reject 5 σ) (Nat.le_of_ble_eq_true rfl) rfl rfl (Nat.le_of_ble_eq_true rfl) dX5_readRule_31 ?_
    intro r7 s8
    exact g_zret dX5_readRule_34
def PR_readRule_J9 (pr1 : Nat) (t0 : Int) (σ : Sg) : Rs := (if t0 = 0 then (PR_readRule_J25 pr1 t0 (σ pr1 15) σ) else (PR_readRule_J25 pr1 t0 (σ pr1 14) σ))
theorem ok_PR_readRule_J9 (pr1 : Nat) (hpr1 : Kh[pr1]? = some (.inl 4)) : ∀ (t0 : Int) (σ : Sg), G l Kh Ph RX5 cX5_readRule 5 3 3 9 [some (.inr (.inr 5)), some (.inr (.inr pr1)), none, none, none] [.inl t0] σ (PR_readRule_J9 pr1 t0 σ) := by
  intro t0 σ
  unfold PR_readRule_J9
  refine g_istore_n (lv' := [some (.inr (.inr 5)), some (.inr (.inr pr1)), none, some (.inl t0), none]) dX5_readRule_9 rfl (Nat.le_of_ble_eq_true rfl) rfl ?_
  refine g_iload_n dX5_readRule_10 rfl rfl ?_
  refine g_ifeq (tgt := 21) dX5_readRule_11 (by decide) ?_ ?_
  · refine g_aload_n dX5_readRule_21 rfl rfl ?_
    refine g_geti fl_RX5_18 hpr1 (by decide) dX5_readRule_22 ?_
    refine (ok_PR_readRule_J25 pr1 t0 hpr1 (σ pr1 15) σ)
  · refine g_aload_n dX5_readRule_14 rfl rfl ?_
    refine g_geti fl_RX5_14 hpr1 (by decide) dX5_readRule_15 ?_
    refine g_goto (tgt := 25) dX5_readRule_18 (by decide) ?_
    refine (ok_PR_readRule_J25 pr1 t0 hpr1 (σ pr1 14) σ)
def PR_readRule (pr1 : Nat) (a2 : Int) (σ : Sg) : Rs := (if a2 = 0 then (PR_readRule_J9 pr1 1 σ) else (PR_readRule_J9 pr1 0 σ))
theorem ok_PR_readRule (pr1 : Nat) (a2 : Int) (hpr1 : Kh[pr1]? = some (.inl 4)) (σ : Sg) : MC l Kh Ph yX5_readRule cX5_readRule 5 3 3 [.inr (.inr 5), .inr (.inr pr1), .inl a2] σ (PR_readRule pr1 a2 σ) := by
  refine mc_of (by decide) (Nat.le_of_ble_eq_true rfl) ?_
  change G l Kh Ph RX5 cX5_readRule 5 3 3 0 [some (.inr (.inr 5)), some (.inr (.inr pr1)), some (.inl a2), none, none] [] σ (PR_readRule pr1 a2 σ)
  unfold PR_readRule
  refine g_iload_n dX5_readRule_0 rfl rfl ?_
  refine g_ifne (tgt := 8) dX5_readRule_1 (by decide) ?_ ?_
  · refine g_iconst dX5_readRule_4 (by decide) ?_
    refine g_goto (tgt := 9) dX5_readRule_5 (by decide) ?_
    refine (g_weak [true, true, false, false, false] (ok_PR_readRule_J9 pr1 hpr1 1 σ))
  · refine g_iconst dX5_readRule_8 (by decide) ?_
    refine (g_weak [true, true, false, false, false] (ok_PR_readRule_J9 pr1 hpr1 0 σ))
theorem dX4_addWord_0 : decode cX4_addWord 0 = .ok (.aload_n 0, 1) := by decide +kernel
theorem dX4_addWord_1 : decode cX4_addWord 1 = .ok (.getfield 50, 3) := by decide +kernel
theorem dX4_addWord_4 : decode cX4_addWord 4 = .ok (.bipush 8, 2) := by decide +kernel
theorem dX4_addWord_6 : decode cX4_addWord 6 = .ok (.if_icmp .ge 54, 3) := by decide +kernel
theorem dX4_addWord_9 : decode cX4_addWord 9 = .ok (.aload_n 0, 1) := by decide +kernel
theorem dX4_addWord_10 : decode cX4_addWord 10 = .ok (.getfield 9, 3) := by decide +kernel
theorem dX4_addWord_13 : decode cX4_addWord 13 = .ok (.aload_n 0, 1) := by decide +kernel
theorem dX4_addWord_14 : decode cX4_addWord 14 = .ok (.getfield 50, 3) := by decide +kernel
theorem dX4_addWord_17 : decode cX4_addWord 17 = .ok (.lload_n 1, 1) := by decide +kernel
theorem dX4_addWord_18 : decode cX4_addWord 18 = .ok (.lastore, 1) := by decide +kernel
theorem dX4_addWord_19 : decode cX4_addWord 19 = .ok (.aload_n 0, 1) := by decide +kernel
theorem dX4_addWord_20 : decode cX4_addWord 20 = .ok (.getfield 15, 3) := by decide +kernel
theorem dX4_addWord_23 : decode cX4_addWord 23 = .ok (.aload_n 0, 1) := by decide +kernel
theorem dX4_addWord_24 : decode cX4_addWord 24 = .ok (.getfield 50, 3) := by decide +kernel
theorem dX4_addWord_27 : decode cX4_addWord 27 = .ok (.iload_n 3, 1) := by decide +kernel
theorem dX4_addWord_28 : decode cX4_addWord 28 = .ok (.iastore, 1) := by decide +kernel
theorem dX4_addWord_29 : decode cX4_addWord 29 = .ok (.aload_n 0, 1) := by decide +kernel
theorem dX4_addWord_30 : decode cX4_addWord 30 = .ok (.getfield 19, 3) := by decide +kernel
theorem dX4_addWord_33 : decode cX4_addWord 33 = .ok (.aload_n 0, 1) := by decide +kernel
theorem dX4_addWord_34 : decode cX4_addWord 34 = .ok (.getfield 50, 3) := by decide +kernel
theorem dX4_addWord_37 : decode cX4_addWord 37 = .ok (.iload 4, 2) := by decide +kernel
theorem dX4_addWord_39 : decode cX4_addWord 39 = .ok (.iastore, 1) := by decide +kernel
theorem dX4_addWord_40 : decode cX4_addWord 40 = .ok (.aload_n 0, 1) := by decide +kernel
theorem dX4_addWord_41 : decode cX4_addWord 41 = .ok (.getfield 22, 3) := by decide +kernel
theorem dX4_addWord_44 : decode cX4_addWord 44 = .ok (.aload_n 0, 1) := by decide +kernel
theorem dX4_addWord_45 : decode cX4_addWord 45 = .ok (.getfield 50, 3) := by decide +kernel
theorem dX4_addWord_48 : decode cX4_addWord 48 = .ok (.iconst 0, 1) := by decide +kernel
theorem dX4_addWord_49 : decode cX4_addWord 49 = .ok (.iastore, 1) := by decide +kernel
theorem dX4_addWord_50 : decode cX4_addWord 50 = .ok (.aload_n 0, 1) := by decide +kernel
theorem dX4_addWord_51 : decode cX4_addWord 51 = .ok (.dup, 1) := by decide +kernel
theorem dX4_addWord_52 : decode cX4_addWord 52 = .ok (.getfield 50, 3) := by decide +kernel
theorem dX4_addWord_55 : decode cX4_addWord 55 = .ok (.iconst 1, 1) := by decide +kernel
theorem dX4_addWord_56 : decode cX4_addWord 56 = .ok (.iadd, 1) := by decide +kernel
theorem dX4_addWord_57 : decode cX4_addWord 57 = .ok (.putfield 50, 3) := by decide +kernel
theorem dX4_addWord_60 : decode cX4_addWord 60 = .ok (.return_, 1) := by decide +kernel
theorem mw_X4_addWord : MW yX4_addWord cX4_addWord 5 2 3 false := ⟨tm 903 (by decide +kernel) rfl, tm 242 (by decide +kernel) rfl, by decide, by decide, (by rw [if_neg (by decide)]; exact ⟨tm 902 (by decide +kernel) rfl, tm 34 (by decide +kernel) rfl⟩)⟩
def Pr_addWord (pr0 : Nat) (a1 : Int) (a3 : Int) (a4 : Int) (σ : Sg) : Rs := (if (σ pr0 10) < 8 then (wr 14 (σ pr0 10) (up_s σ (pr0 + 1) (Int.toNat (σ pr0 10)) a1) (fun s1 => (wr 8 (s1 pr0 10) (up_s s1 (pr0 + 2) (Int.toNat (s1 pr0 10)) a3) (fun s2 => (wr 8 (s2 pr0 10) (up_s s2 (pr0 + 3) (Int.toNat (s2 pr0 10)) a4) (fun s3 => (wr 8 (s3 pr0 10) (up_s s3 (pr0 + 4) (Int.toNat (s3 pr0 10)) 0) (fun s4 => (nm (up_s s4 pr0 10 (w32 ((s4 pr0 10) + 1))) (fun s5 => (some (0, s5)))))))))))) else (some (0, σ)))
theorem ok_Pr_addWord (pr0 : Nat) (a1 : Int) (a3 : Int) (a4 : Int) (hpr0 : Kh[pr0]? = some (.inl 4)) (σ : Sg) : MC l Kh Ph yX4_addWord cX4_addWord 5 2 1 [.inr (.inr pr0), .inr (.inl a1), .inl a3, .inl a4] σ (Pr_addWord pr0 a1 a3 a4 σ) := by
  refine mc_of (by decide) (Nat.le_of_ble_eq_true rfl) ?_
  change G l Kh Ph RX4 cX4_addWord 5 2 1 0 [some (.inr (.inr pr0)), some (.inr (.inl a1)), none, some (.inl a3), some (.inl a4)] [] σ (Pr_addWord pr0 a1 a3 a4 σ)
  unfold Pr_addWord
  refine g_aload_n dX4_addWord_0 rfl rfl ?_
  refine g_geti fl_RX4_50 hpr0 (by decide) dX4_addWord_1 ?_
  refine g_bipush dX4_addWord_4 (by decide) ?_
  refine g_icmpge (tgt := 60) dX4_addWord_6 (by decide) ?_ ?_
  · refine g_aload_n dX4_addWord_9 rfl rfl ?_
    refine g_getr' (q := (pr0 + 1)) fl_RX4_9 hpr0 (by decide) (qp0 hpr0) dX4_addWord_10 ?_
    refine g_aload_n dX4_addWord_13 rfl rfl ?_
    refine g_geti fl_RX4_50 hpr0 (by decide) dX4_addWord_14 ?_
    refine g_lload_n dX4_addWord_17 rfl rfl ?_
    refine g_last (kp0 hpr0) dX4_addWord_18 ?_
    intro s1
    refine g_aload_n dX4_addWord_19 rfl rfl ?_
    refine g_getr' (q := (pr0 + 2)) fl_RX4_15 hpr0 (by decide) (qp1 hpr0) dX4_addWord_20 ?_
    refine g_aload_n dX4_addWord_23 rfl rfl ?_
    refine g_geti fl_RX4_50 hpr0 (by decide) dX4_addWord_24 ?_
    refine g_iload_n dX4_addWord_27 rfl rfl ?_
    refine g_iast (kp1 hpr0) dX4_addWord_28 ?_
    intro s2
    refine g_aload_n dX4_addWord_29 rfl rfl ?_
    refine g_getr' (q := (pr0 + 3)) fl_RX4_19 hpr0 (by decide) (qp2 hpr0) dX4_addWord_30 ?_
    refine g_aload_n dX4_addWord_33 rfl rfl ?_
    refine g_geti fl_RX4_50 hpr0 (by decide) dX4_addWord_34 ?_
    refine g_iload dX4_addWord_37 rfl ?_
    refine g_iast (kp2 hpr0) dX4_addWord_39 ?_
    intro s3
    refine g_aload_n dX4_addWord_40 rfl rfl ?_
    refine g_getr' (q := (pr0 + 4)) fl_RX4_22 hpr0 (by decide) (qp3 hpr0) dX4_addWord_41 ?_
    refine g_aload_n dX4_addWord_44 rfl rfl ?_
    refine g_geti fl_RX4_50 hpr0 (by decide) dX4_addWord_45 ?_
    refine g_iconst dX4_addWord_48 (by decide) ?_
    refine g_iast (kp3 hpr0) dX4_addWord_49 ?_
    intro s4
    refine g_aload_n dX4_addWord_50 rfl rfl ?_
    refine g_dup dX4_addWord_51 rfl ?_
    refine g_geti fl_RX4_50 hpr0 (by decide) dX4_addWord_52 ?_
    refine g_iconst dX4_addWord_55 (by decide) ?_
    refine g_iadd dX4_addWord_56 ?_
    refine g_puti fl_RX4_50 hpr0 (by decide) dX4_addWord_57 ?_
    intro s5
    exact g_vret dX4_addWord_60
  · exact g_vret dX4_addWord_60
theorem dX5_readWord_0 : decode cX5_readWord 0 = .ok (.aload_n 0, 1) := by decide +kernel
theorem dX5_readWord_1 : decode cX5_readWord 1 = .ok (.aload_n 1, 1) := by decide +kernel
theorem dX5_readWord_2 : decode cX5_readWord 2 = .ok (.invokestatic 98, 3) := by decide +kernel
theorem dX5_readWord_5 : decode cX5_readWord 5 = .ok (.lstore_n 2, 1) := by decide +kernel
theorem dX5_readWord_6 : decode cX5_readWord 6 = .ok (.lload_n 2, 1) := by decide +kernel
theorem dX5_readWord_7 : decode cX5_readWord 7 = .ok (.ldc2_w 85, 3) := by decide +kernel
theorem dX5_readWord_10 : decode cX5_readWord 10 = .ok (.lcmp, 1) := by decide +kernel
theorem dX5_readWord_11 : decode cX5_readWord 11 = .ok (.ifCond .ne 5, 3) := by decide +kernel
theorem dX5_readWord_14 : decode cX5_readWord 14 = .ok (.iconst 0, 1) := by decide +kernel
theorem dX5_readWord_15 : decode cX5_readWord 15 = .ok (.ireturn, 1) := by decide +kernel
theorem dX5_readWord_16 : decode cX5_readWord 16 = .ok (.aload_n 0, 1) := by decide +kernel
theorem dX5_readWord_17 : decode cX5_readWord 17 = .ok (.iconst 3, 1) := by decide +kernel
theorem dX5_readWord_18 : decode cX5_readWord 18 = .ok (.iconst 1, 1) := by decide +kernel
theorem dX5_readWord_19 : decode cX5_readWord 19 = .ok (.bipush 9, 2) := by decide +kernel
theorem dX5_readWord_21 : decode cX5_readWord 21 = .ok (.iconst 1, 1) := by decide +kernel
theorem dX5_readWord_22 : decode cX5_readWord 22 = .ok (.invokestatic 102, 3) := by decide +kernel
theorem dX5_readWord_25 : decode cX5_readWord 25 = .ok (.istore 4, 2) := by decide +kernel
theorem dX5_readWord_27 : decode cX5_readWord 27 = .ok (.iload 4, 2) := by decide +kernel
theorem dX5_readWord_29 : decode cX5_readWord 29 = .ok (.iconst (-1), 1) := by decide +kernel
theorem dX5_readWord_30 : decode cX5_readWord 30 = .ok (.if_icmp .ne 5, 3) := by decide +kernel
theorem dX5_readWord_33 : decode cX5_readWord 33 = .ok (.iconst 0, 1) := by decide +kernel
theorem dX5_readWord_34 : decode cX5_readWord 34 = .ok (.ireturn, 1) := by decide +kernel
theorem dX5_readWord_35 : decode cX5_readWord 35 = .ok (.aload_n 0, 1) := by decide +kernel
theorem dX5_readWord_36 : decode cX5_readWord 36 = .ok (.iconst 4, 1) := by decide +kernel
theorem dX5_readWord_37 : decode cX5_readWord 37 = .ok (.iconst 1, 1) := by decide +kernel
theorem dX5_readWord_38 : decode cX5_readWord 38 = .ok (.bipush 99, 2) := by decide +kernel
theorem dX5_readWord_40 : decode cX5_readWord 40 = .ok (.bipush 30, 2) := by decide +kernel
theorem dX5_readWord_42 : decode cX5_readWord 42 = .ok (.invokestatic 102, 3) := by decide +kernel
theorem dX5_readWord_45 : decode cX5_readWord 45 = .ok (.istore 5, 2) := by decide +kernel
theorem dX5_readWord_47 : decode cX5_readWord 47 = .ok (.iload 5, 2) := by decide +kernel
theorem dX5_readWord_49 : decode cX5_readWord 49 = .ok (.iconst (-1), 1) := by decide +kernel
theorem dX5_readWord_50 : decode cX5_readWord 50 = .ok (.if_icmp .eq 10, 3) := by decide +kernel
theorem dX5_readWord_53 : decode cX5_readWord 53 = .ok (.aload_n 0, 1) := by decide +kernel
theorem dX5_readWord_54 : decode cX5_readWord 54 = .ok (.invokevirtual 79, 3) := by decide +kernel
theorem dX5_readWord_57 : decode cX5_readWord 57 = .ok (.ifCond .ne 5, 3) := by decide +kernel
theorem dX5_readWord_60 : decode cX5_readWord 60 = .ok (.iconst 0, 1) := by decide +kernel
theorem dX5_readWord_61 : decode cX5_readWord 61 = .ok (.ireturn, 1) := by decide +kernel
theorem dX5_readWord_62 : decode cX5_readWord 62 = .ok (.aload_n 1, 1) := by decide +kernel
theorem dX5_readWord_63 : decode cX5_readWord 63 = .ok (.lload_n 2, 1) := by decide +kernel
theorem dX5_readWord_64 : decode cX5_readWord 64 = .ok (.iload 4, 2) := by decide +kernel
theorem dX5_readWord_66 : decode cX5_readWord 66 = .ok (.iload 5, 2) := by decide +kernel
theorem dX5_readWord_68 : decode cX5_readWord 68 = .ok (.invokevirtual 106, 3) := by decide +kernel
theorem dX5_readWord_71 : decode cX5_readWord 71 = .ok (.iconst 1, 1) := by decide +kernel
theorem dX5_readWord_72 : decode cX5_readWord 72 = .ok (.ireturn, 1) := by decide +kernel
theorem mw_X5_readWord : MW yX5_readWord cX5_readWord 6 3 2 true := ⟨tm 880 (by decide +kernel) rfl, tm 252 (by decide +kernel) rfl, by decide, by decide, (by rw [if_pos rfl]; exact tm 879 (by decide +kernel) rfl)⟩
theorem lk_RX5_106 : LK RX5 106 yX4_addWord := Or.inr ⟨"HairProvince", tm 900 (by decide +kernel) rfl⟩
def PR_readWord (pr1 : Nat) (σ : Sg) : Rs := (bd (PR_takeNewName pr1 σ) (fun r1 s2 => (if r1 = (-1) then (some (0, s2)) else (bd (PR_takePerhaps 3 1 9 1 s2) (fun r3 s4 => (if r3 = (-1) then (some (0, s4)) else (bd (PR_takePerhaps 4 1 99 30 s4) (fun r5 s6 => (if r5 = (-1) then (some (0, s6)) else (bd (To_takeClosing s6) (fun r7 s8 => (if r7 = 0 then (some (0, s8)) else (bd (Pr_addWord pr1 r1 r3 r5 s8) (fun r9 s10 => (some (1, s10))))))))))))))))
theorem ok_PR_readWord (pr1 : Nat) (hpr1 : Kh[pr1]? = some (.inl 4)) (σ : Sg) : MC l Kh Ph yX5_readWord cX5_readWord 6 3 4 [.inr (.inr 5), .inr (.inr pr1)] σ (PR_readWord pr1 σ) := by
  refine mc_of (by decide) (Nat.le_of_ble_eq_true rfl) ?_
  change G l Kh Ph RX5 cX5_readWord 6 3 4 0 [some (.inr (.inr 5)), some (.inr (.inr pr1)), none, none, none, none] [] σ (PR_readWord pr1 σ)
  unfold PR_readWord
  refine g_aload_n dX5_readWord_0 rfl rfl ?_
  refine g_aload_n dX5_readWord_1 rfl rfl ?_
  refine g_calls1 (st := []) mw_X5_takeNewName lk_RX5_98 (ok_PR_takeNewName pr1 hpr1 σ) (Nat.le_of_ble_eq_true rfl) rfl rfl (Nat.le_of_ble_eq_true rfl) dX5_readWord_2 ?_
  intro r1 s2
  refine g_lstore_n (lv' := [some (.inr (.inr 5)), some (.inr (.inr pr1)), some (.inr (.inl r1)), none, none, none]) dX5_readWord_5 rfl (Nat.le_of_ble_eq_true rfl) rfl ?_
  refine g_lload_n dX5_readWord_6 rfl rfl ?_
  refine g_ldc2 (n := (-1)) (tm 888 (by decide +kernel) rfl) (by decide) dX5_readWord_7 ?_
  refine g_lcmpne (tgt := 16) dX5_readWord_10 dX5_readWord_11 (by decide) ?_ ?_
  · refine g_iconst dX5_readWord_14 (by decide) ?_
    exact g_zret0 dX5_readWord_15
  · refine g_aload_n dX5_readWord_16 rfl rfl ?_
    refine g_iconst dX5_readWord_17 (by decide) ?_
    refine g_iconst dX5_readWord_18 (by decide) ?_
    refine g_bipush dX5_readWord_19 (by decide) ?_
    refine g_iconst dX5_readWord_21 (by decide) ?_
    refine g_calls0 (st := []) mw_X5_takePerhaps lk_RX5_102 (ok_PR_takePerhaps 3 1 9 1 s2) (Nat.le_of_ble_eq_true rfl) rfl rfl (Nat.le_of_ble_eq_true rfl) dX5_readWord_22 ?_
    intro r3 s4
    refine g_istore (lv' := [some (.inr (.inr 5)), some (.inr (.inr pr1)), some (.inr (.inl r1)), none, some (.inl r3), none]) dX5_readWord_25 (Nat.le_of_ble_eq_true rfl) rfl ?_
    refine g_iload dX5_readWord_27 rfl ?_
    refine g_iconst dX5_readWord_29 (by decide) ?_
    refine g_icmpne (tgt := 35) dX5_readWord_30 (by decide) ?_ ?_
    · refine g_iconst dX5_readWord_33 (by decide) ?_
      exact g_zret0 dX5_readWord_34
    · refine g_aload_n dX5_readWord_35 rfl rfl ?_
      refine g_iconst dX5_readWord_36 (by decide) ?_
      refine g_iconst dX5_readWord_37 (by decide) ?_
      refine g_bipush dX5_readWord_38 (by decide) ?_
      refine g_bipush dX5_readWord_40 (by decide) ?_
      refine g_calls0 (st := []) mw_X5_takePerhaps lk_RX5_102 (ok_PR_takePerhaps 4 1 99 30 s4) (Nat.le_of_ble_eq_true rfl) rfl rfl (Nat.le_of_ble_eq_true rfl) dX5_readWord_42 ?_
      intro r5 s6
      refine g_istore (lv' := [some (.inr (.inr 5)), some (.inr (.inr pr1)), some (.inr (.inl r1)), none, some (.inl r3), some (.inl r5)]) dX5_readWord_45 (Nat.le_of_ble_eq_true rfl) rfl ?_
      refine g_iload dX5_readWord_47 rfl ?_
      refine g_iconst dX5_readWord_49 (by decide) ?_
      refine g_icmpeq (tgt := 60) dX5_readWord_50 (by decide) ?_ ?_
      · refine g_iconst dX5_readWord_60 (by decide) ?_
        exact g_zret0 dX5_readWord_61
      · refine g_aload_n dX5_readWord_53 rfl rfl ?_
        refine g_callv3 (st := []) 6 mw_X7_takeClosing lk_RX5_79 rfl kh_5 (ok_To_takeClosing s6) (Nat.le_of_ble_eq_true rfl) rfl rfl (Nat.le_of_ble_eq_true rfl) dX5_readWord_54 ?_
        intro r7 s8
        refine g_ifne (tgt := 62) dX5_readWord_57 (by decide) ?_ ?_
        · refine g_iconst dX5_readWord_60 (by decide) ?_
          exact g_zret0 dX5_readWord_61
        · refine g_aload_n dX5_readWord_62 rfl rfl ?_
          refine g_lload_n dX5_readWord_63 rfl rfl ?_
          refine g_iload dX5_readWord_64 rfl ?_
          refine g_iload dX5_readWord_66 rfl ?_
          refine g_callv2 (st := []) 4 mw_X4_addWord lk_RX5_106 rfl hpr1 (ok_Pr_addWord pr1 r1 r3 r5 hpr1 s8) (Nat.le_of_ble_eq_true rfl) rfl rfl (Nat.le_of_ble_eq_true rfl) dX5_readWord_68 ?_
          intro r9 s10
          refine g_iconst dX5_readWord_71 (by decide) ?_
          exact g_zret1 dX5_readWord_72
theorem dX5_readPart_0 : decode cX5_readPart 0 = .ok (.aload_n 0, 1) := by decide +kernel
theorem dX5_readPart_1 : decode cX5_readPart 1 = .ok (.invokevirtual 33, 3) := by decide +kernel
theorem dX5_readPart_4 : decode cX5_readPart 4 = .ok (.istore_n 2, 1) := by decide +kernel
theorem dX5_readPart_5 : decode cX5_readPart 5 = .ok (.iload_n 2, 1) := by decide +kernel
theorem dX5_readPart_6 : decode cX5_readPart 6 = .ok (.tableswitch 185 0 11 #[62, 62, 73, 185, 185, 101, 185, 185, 185, 129, 185, 157], 62) := by decide +kernel
theorem dX5_readPart_68 : decode cX5_readPart 68 = .ok (.aload_n 0, 1) := by decide +kernel
theorem dX5_readPart_69 : decode cX5_readPart 69 = .ok (.invokevirtual 37, 3) := by decide +kernel
theorem dX5_readPart_72 : decode cX5_readPart 72 = .ok (.aload_n 0, 1) := by decide +kernel
theorem dX5_readPart_73 : decode cX5_readPart 73 = .ok (.aload_n 1, 1) := by decide +kernel
theorem dX5_readPart_74 : decode cX5_readPart 74 = .ok (.iload_n 2, 1) := by decide +kernel
theorem dX5_readPart_75 : decode cX5_readPart 75 = .ok (.invokestatic 40, 3) := by decide +kernel
theorem dX5_readPart_78 : decode cX5_readPart 78 = .ok (.ireturn, 1) := by decide +kernel
theorem dX5_readPart_79 : decode cX5_readPart 79 = .ok (.aload_n 0, 1) := by decide +kernel
theorem dX5_readPart_80 : decode cX5_readPart 80 = .ok (.invokevirtual 37, 3) := by decide +kernel
theorem dX5_readPart_83 : decode cX5_readPart 83 = .ok (.aload_n 1, 1) := by decide +kernel
theorem dX5_readPart_84 : decode cX5_readPart 84 = .ok (.getfield 44, 3) := by decide +kernel
theorem dX5_readPart_87 : decode cX5_readPart 87 = .ok (.bipush 8, 2) := by decide +kernel
theorem dX5_readPart_89 : decode cX5_readPart 89 = .ok (.if_icmp .lt 12, 3) := by decide +kernel
theorem dX5_readPart_92 : decode cX5_readPart 92 = .ok (.aload_n 0, 1) := by decide +kernel
theorem dX5_readPart_93 : decode cX5_readPart 93 = .ok (.bipush 6, 2) := by decide +kernel
theorem dX5_readPart_95 : decode cX5_readPart 95 = .ok (.invokevirtual 47, 3) := by decide +kernel
theorem dX5_readPart_98 : decode cX5_readPart 98 = .ok (.goto 8, 3) := by decide +kernel
theorem dX5_readPart_101 : decode cX5_readPart 101 = .ok (.aload_n 0, 1) := by decide +kernel
theorem dX5_readPart_102 : decode cX5_readPart 102 = .ok (.aload_n 1, 1) := by decide +kernel
theorem dX5_readPart_103 : decode cX5_readPart 103 = .ok (.invokestatic 51, 3) := by decide +kernel
theorem dX5_readPart_106 : decode cX5_readPart 106 = .ok (.ireturn, 1) := by decide +kernel
theorem dX5_readPart_107 : decode cX5_readPart 107 = .ok (.aload_n 0, 1) := by decide +kernel
theorem dX5_readPart_108 : decode cX5_readPart 108 = .ok (.invokevirtual 37, 3) := by decide +kernel
theorem dX5_readPart_111 : decode cX5_readPart 111 = .ok (.aload_n 1, 1) := by decide +kernel
theorem dX5_readPart_112 : decode cX5_readPart 112 = .ok (.getfield 54, 3) := by decide +kernel
theorem dX5_readPart_115 : decode cX5_readPart 115 = .ok (.bipush 6, 2) := by decide +kernel
theorem dX5_readPart_117 : decode cX5_readPart 117 = .ok (.if_icmp .lt 12, 3) := by decide +kernel
theorem dX5_readPart_120 : decode cX5_readPart 120 = .ok (.aload_n 0, 1) := by decide +kernel
theorem dX5_readPart_121 : decode cX5_readPart 121 = .ok (.bipush 6, 2) := by decide +kernel
theorem dX5_readPart_123 : decode cX5_readPart 123 = .ok (.invokevirtual 47, 3) := by decide +kernel
theorem dX5_readPart_126 : decode cX5_readPart 126 = .ok (.goto 8, 3) := by decide +kernel
theorem dX5_readPart_129 : decode cX5_readPart 129 = .ok (.aload_n 0, 1) := by decide +kernel
theorem dX5_readPart_130 : decode cX5_readPart 130 = .ok (.aload_n 1, 1) := by decide +kernel
theorem dX5_readPart_131 : decode cX5_readPart 131 = .ok (.invokestatic 57, 3) := by decide +kernel
theorem dX5_readPart_134 : decode cX5_readPart 134 = .ok (.ireturn, 1) := by decide +kernel
theorem dX5_readPart_135 : decode cX5_readPart 135 = .ok (.aload_n 0, 1) := by decide +kernel
theorem dX5_readPart_136 : decode cX5_readPart 136 = .ok (.invokevirtual 37, 3) := by decide +kernel
theorem dX5_readPart_139 : decode cX5_readPart 139 = .ok (.aload_n 1, 1) := by decide +kernel
theorem dX5_readPart_140 : decode cX5_readPart 140 = .ok (.getfield 60, 3) := by decide +kernel
theorem dX5_readPart_143 : decode cX5_readPart 143 = .ok (.bipush 6, 2) := by decide +kernel
theorem dX5_readPart_145 : decode cX5_readPart 145 = .ok (.if_icmp .lt 12, 3) := by decide +kernel
theorem dX5_readPart_148 : decode cX5_readPart 148 = .ok (.aload_n 0, 1) := by decide +kernel
theorem dX5_readPart_149 : decode cX5_readPart 149 = .ok (.bipush 6, 2) := by decide +kernel
theorem dX5_readPart_151 : decode cX5_readPart 151 = .ok (.invokevirtual 47, 3) := by decide +kernel
theorem dX5_readPart_154 : decode cX5_readPart 154 = .ok (.goto 8, 3) := by decide +kernel
theorem dX5_readPart_157 : decode cX5_readPart 157 = .ok (.aload_n 0, 1) := by decide +kernel
theorem dX5_readPart_158 : decode cX5_readPart 158 = .ok (.aload_n 1, 1) := by decide +kernel
theorem dX5_readPart_159 : decode cX5_readPart 159 = .ok (.invokestatic 63, 3) := by decide +kernel
theorem dX5_readPart_162 : decode cX5_readPart 162 = .ok (.ireturn, 1) := by decide +kernel
theorem dX5_readPart_163 : decode cX5_readPart 163 = .ok (.aload_n 0, 1) := by decide +kernel
theorem dX5_readPart_164 : decode cX5_readPart 164 = .ok (.invokevirtual 37, 3) := by decide +kernel
theorem dX5_readPart_167 : decode cX5_readPart 167 = .ok (.aload_n 1, 1) := by decide +kernel
theorem dX5_readPart_168 : decode cX5_readPart 168 = .ok (.getfield 66, 3) := by decide +kernel
theorem dX5_readPart_171 : decode cX5_readPart 171 = .ok (.bipush 6, 2) := by decide +kernel
theorem dX5_readPart_173 : decode cX5_readPart 173 = .ok (.if_icmp .lt 12, 3) := by decide +kernel
theorem dX5_readPart_176 : decode cX5_readPart 176 = .ok (.aload_n 0, 1) := by decide +kernel
theorem dX5_readPart_177 : decode cX5_readPart 177 = .ok (.bipush 6, 2) := by decide +kernel
theorem dX5_readPart_179 : decode cX5_readPart 179 = .ok (.invokevirtual 47, 3) := by decide +kernel
theorem dX5_readPart_182 : decode cX5_readPart 182 = .ok (.goto 8, 3) := by decide +kernel
theorem dX5_readPart_185 : decode cX5_readPart 185 = .ok (.aload_n 0, 1) := by decide +kernel
theorem dX5_readPart_186 : decode cX5_readPart 186 = .ok (.aload_n 1, 1) := by decide +kernel
theorem dX5_readPart_187 : decode cX5_readPart 187 = .ok (.invokestatic 69, 3) := by decide +kernel
theorem dX5_readPart_190 : decode cX5_readPart 190 = .ok (.ireturn, 1) := by decide +kernel
theorem dX5_readPart_191 : decode cX5_readPart 191 = .ok (.aload_n 0, 1) := by decide +kernel
theorem dX5_readPart_192 : decode cX5_readPart 192 = .ok (.invokevirtual 72, 3) := by decide +kernel
theorem dX5_readPart_195 : decode cX5_readPart 195 = .ok (.ireturn, 1) := by decide +kernel
theorem mw_X5_readPart : MW yX5_readPart cX5_readPart 3 3 2 true := ⟨tm 851 (by decide +kernel) rfl, tm 252 (by decide +kernel) rfl, by decide, by decide, (by rw [if_pos rfl]; exact tm 850 (by decide +kernel) rfl)⟩
theorem lk_RX5_40 : LK RX5 40 yX5_readRule := Or.inl (tm 857 (by decide +kernel) rfl)
theorem lk_RX5_51 : LK RX5 51 yX5_readWord := Or.inl (tm 878 (by decide +kernel) rfl)
theorem lk_RX5_57 : LK RX5 57 yX5_readPerson := Or.inl (tm 904 (by decide +kernel) rfl)
theorem lk_RX5_63 : LK RX5 63 yX5_readDinner := Or.inl (tm 923 (by decide +kernel) rfl)
theorem lk_RX5_69 : LK RX5 69 yX5_readHalves := Or.inl (tm 939 (by decide +kernel) rfl)
theorem lk_RX5_72 : LK RX5 72 yX7_misfit := Or.inr ⟨"HairProvince", tm 950 (by decide +kernel) rfl⟩
theorem fl_RX5_44 : FL RX5 44 4 10 := ⟨_, _, _, _, cw_4, by decide, Or.inl (by decide), Or.inr (by decide), Or.inr ⟨"HairProvince", tm 420 (by decide +kernel) rfl⟩⟩
theorem fl_RX5_54 : FL RX5 54 4 11 := ⟨_, _, _, _, cw_4, by decide, Or.inl (by decide), Or.inr (by decide), Or.inr ⟨"HairProvince", tm 425 (by decide +kernel) rfl⟩⟩
theorem fl_RX5_60 : FL RX5 60 4 12 := ⟨_, _, _, _, cw_4, by decide, Or.inl (by decide), Or.inr (by decide), Or.inr ⟨"HairProvince", tm 430 (by decide +kernel) rfl⟩⟩
theorem fl_RX5_66 : FL RX5 66 4 13 := ⟨_, _, _, _, cw_4, by decide, Or.inl (by decide), Or.inr (by decide), Or.inr ⟨"HairProvince", tm 433 (by decide +kernel) rfl⟩⟩
def PR_readPart_J68 (pr1 : Nat) (v2 : Int) (σ : Sg) : Rs := (bd (To_take σ) (fun r3 s4 => (bd (PR_readRule pr1 v2 s4) (fun r5 s6 => (zb r5 (some (r5, s6)))))))
theorem ok_PR_readPart_J68 (pr1 : Nat) (v2 : Int) (hpr1 : Kh[pr1]? = some (.inl 4)) : ∀ (σ : Sg), G l Kh Ph RX5 cX5_readPart 3 3 5 68 [some (.inr (.inr 5)), some (.inr (.inr pr1)), some (.inl v2)] [] σ (PR_readPart_J68 pr1 v2  σ) := by
  intro σ
  unfold PR_readPart_J68
  refine g_aload_n dX5_readPart_68 rfl rfl ?_
  refine g_callv2 (st := []) 6 mw_X7_take lk_RX5_37 rfl kh_5 (ok_To_take σ) (Nat.le_of_ble_eq_true rfl) rfl rfl (Nat.le_of_ble_eq_true rfl) dX5_readPart_69 ?_
  intro r3 s4
  refine g_aload_n dX5_readPart_72 rfl rfl ?_
  refine g_aload_n dX5_readPart_73 rfl rfl ?_
  refine g_iload_n dX5_readPart_74 rfl rfl ?_
  refine g_calls3 (st := []) mw_X5_readRule lk_RX5_40 (ok_PR_readRule pr1 v2 hpr1 s4) (Nat.le_of_ble_eq_true rfl) rfl rfl (Nat.le_of_ble_eq_true rfl) dX5_readPart_75 ?_
  intro r5 s6
  exact g_zret dX5_readPart_78
def PR_readPart (pr1 : Nat) (σ : Sg) : Rs := (bd (To_keyNext σ) (fun r1 s2 => (sw r1 0 [(PR_readPart_J68 pr1 r1 s2), (PR_readPart_J68 pr1 r1 s2), (bd (To_take s2) (fun r7 s8 => (if (s8 pr1 10) < 8 then (bd (PR_readWord pr1 s8) (fun r9 s10 => (zb r9 (some (r9, s10))))) else (bd (To_reject 6 s8) (fun r11 s12 => (zb r11 (some (r11, s12)))))))), (bd (To_misfit s2) (fun r13 s14 => (zb r13 (some (r13, s14))))), (bd (To_misfit s2) (fun r15 s16 => (zb r15 (some (r15, s16))))), (bd (To_take s2) (fun r17 s18 => (if (s18 pr1 11) < 6 then (bd (PR_readPerson pr1 s18) (fun r19 s20 => (zb r19 (some (r19, s20))))) else (bd (To_reject 6 s18) (fun r21 s22 => (zb r21 (some (r21, s22)))))))), (bd (To_misfit s2) (fun r23 s24 => (zb r23 (some (r23, s24))))), (bd (To_misfit s2) (fun r25 s26 => (zb r25 (some (r25, s26))))), (bd (To_misfit s2) (fun r27 s28 => (zb r27 (some (r27, s28))))), (bd (To_take s2) (fun r29 s30 => (if (s30 pr1 12) < 6 then (bd (PR_readDinner pr1 s30) (fun r31 s32 => (zb r31 (some (r31, s32))))) else (bd (To_reject 6 s30) (fun r33 s34 => (zb r33 (some (r33, s34)))))))), (bd (To_misfit s2) (fun r35 s36 => (zb r35 (some (r35, s36))))), (bd (To_take s2) (fun r37 s38 => (if (s38 pr1 13) < 6 then (bd (PR_readHalves pr1 s38) (fun r39 s40 => (zb r39 (some (r39, s40))))) else (bd (To_reject 6 s38) (fun r41 s42 => (zb r41 (some (r41, s42))))))))] (bd (To_misfit s2) (fun r43 s44 => (zb r43 (some (r43, s44))))))))
theorem ok_PR_readPart (pr1 : Nat) (hpr1 : Kh[pr1]? = some (.inl 4)) (σ : Sg) : MC l Kh Ph yX5_readPart cX5_readPart 3 3 5 [.inr (.inr 5), .inr (.inr pr1)] σ (PR_readPart pr1 σ) := by
  refine mc_of (by decide) (Nat.le_of_ble_eq_true rfl) ?_
  change G l Kh Ph RX5 cX5_readPart 3 3 5 0 [some (.inr (.inr 5)), some (.inr (.inr pr1)), none] [] σ (PR_readPart pr1 σ)
  unfold PR_readPart
  refine g_aload_n dX5_readPart_0 rfl rfl ?_
  refine g_callv0 (st := []) 6 mw_X7_keyNext lk_RX5_33 rfl kh_5 (ok_To_keyNext σ) (Nat.le_of_ble_eq_true rfl) rfl rfl (Nat.le_of_ble_eq_true rfl) dX5_readPart_1 ?_
  intro r1 s2
  refine g_istore_n (lv' := [some (.inr (.inr 5)), some (.inr (.inr pr1)), some (.inl r1)]) dX5_readPart_4 rfl (Nat.le_of_ble_eq_true rfl) rfl ?_
  refine g_iload_n dX5_readPart_5 rfl rfl ?_
  refine g_tsw (td := 191) [68, 68, 79, 191, 191, 107, 191, 191, 191, 135, 191, 163] dX5_readPart_6 (by decide) rfl (And.intro ?_ (And.intro ?_ (And.intro ?_ (And.intro ?_ (And.intro ?_ (And.intro ?_ (And.intro ?_ (And.intro ?_ (And.intro ?_ (And.intro ?_ (And.intro ?_ (And.intro ?_ trivial)))))))))))) ?_
  · refine (ok_PR_readPart_J68 pr1 r1 hpr1 s2)
  · refine (ok_PR_readPart_J68 pr1 r1 hpr1 s2)
  · refine g_aload_n dX5_readPart_79 rfl rfl ?_
    refine g_callv2 (st := []) 6 mw_X7_take lk_RX5_37 rfl kh_5 (ok_To_take s2) (Nat.le_of_ble_eq_true rfl) rfl rfl (Nat.le_of_ble_eq_true rfl) dX5_readPart_80 ?_
    intro r7 s8
    refine g_aload_n dX5_readPart_83 rfl rfl ?_
    refine g_geti fl_RX5_44 hpr1 (by decide) dX5_readPart_84 ?_
    refine g_bipush dX5_readPart_87 (by decide) ?_
    refine g_icmplt (tgt := 101) dX5_readPart_89 (by decide) ?_ ?_
    · refine g_aload_n dX5_readPart_101 rfl rfl ?_
      refine g_aload_n dX5_readPart_102 rfl rfl ?_
      refine g_calls3 (st := []) mw_X5_readWord lk_RX5_51 (ok_PR_readWord pr1 hpr1 s8) (Nat.le_of_ble_eq_true rfl) rfl rfl (Nat.le_of_ble_eq_true rfl) dX5_readPart_103 ?_
      intro r9 s10
      exact g_zret dX5_readPart_106
    · refine g_aload_n dX5_readPart_92 rfl rfl ?_
      refine g_bipush dX5_readPart_93 (by decide) ?_
      refine g_callv3 (st := []) 6 mw_X7_reject lk_RX5_47 rfl kh_5 (ok_To_reject 6 s8) (Nat.le_of_ble_eq_true rfl) rfl rfl (Nat.le_of_ble_eq_true rfl) dX5_readPart_95 ?_
      intro r11 s12
      refine g_goto (tgt := 106) dX5_readPart_98 (by decide) ?_
      exact g_zret dX5_readPart_106
  · refine g_aload_n dX5_readPart_191 rfl rfl ?_
    refine g_callv3 (st := []) 6 mw_X7_misfit lk_RX5_72 rfl kh_5 (ok_To_misfit s2) (Nat.le_of_ble_eq_true rfl) rfl rfl (Nat.le_of_ble_eq_true rfl) dX5_readPart_192 ?_
    intro r13 s14
    exact g_zret dX5_readPart_195
  · refine g_aload_n dX5_readPart_191 rfl rfl ?_
    refine g_callv3 (st := []) 6 mw_X7_misfit lk_RX5_72 rfl kh_5 (ok_To_misfit s2) (Nat.le_of_ble_eq_true rfl) rfl rfl (Nat.le_of_ble_eq_true rfl) dX5_readPart_192 ?_
    intro r15 s16
    exact g_zret dX5_readPart_195
  · refine g_aload_n dX5_readPart_107 rfl rfl ?_
    refine g_callv2 (st := []) 6 mw_X7_take lk_RX5_37 rfl kh_5 (ok_To_take s2) (Nat.le_of_ble_eq_true rfl) rfl rfl (Nat.le_of_ble_eq_true rfl) dX5_readPart_108 ?_
    intro r17 s18
    refine g_aload_n dX5_readPart_111 rfl rfl ?_
    refine g_geti fl_RX5_54 hpr1 (by decide) dX5_readPart_112 ?_
    refine g_bipush dX5_readPart_115 (by decide) ?_
    refine g_icmplt (tgt := 129) dX5_readPart_117 (by decide) ?_ ?_
    · refine g_aload_n dX5_readPart_129 rfl rfl ?_
      refine g_aload_n dX5_readPart_130 rfl rfl ?_
      refine g_calls3 (st := []) mw_X5_readPerson lk_RX5_57 (ok_PR_readPerson pr1 hpr1 s18) (Nat.le_of_ble_eq_true rfl) rfl rfl (Nat.le_of_ble_eq_true rfl) dX5_readPart_131 ?_
      intro r19 s20
      exact g_zret dX5_readPart_134
    · refine g_aload_n dX5_readPart_120 rfl rfl ?_
      refine g_bipush dX5_readPart_121 (by decide) ?_
      refine g_callv3 (st := []) 6 mw_X7_reject lk_RX5_47 rfl kh_5 (ok_To_reject 6 s18) (Nat.le_of_ble_eq_true rfl) rfl rfl (Nat.le_of_ble_eq_true rfl) dX5_readPart_123 ?_
      intro r21 s22
      refine g_goto (tgt := 134) dX5_readPart_126 (by decide) ?_
      exact g_zret dX5_readPart_134
  · refine g_aload_n dX5_readPart_191 rfl rfl ?_
    refine g_callv3 (st := []) 6 mw_X7_misfit lk_RX5_72 rfl kh_5 (ok_To_misfit s2) (Nat.le_of_ble_eq_true rfl) rfl rfl (Nat.le_of_ble_eq_true rfl) dX5_readPart_192 ?_
    intro r23 s24
    exact g_zret dX5_readPart_195
  · refine g_aload_n dX5_readPart_191 rfl rfl ?_
    refine g_callv3 (st := []) 6 mw_X7_misfit lk_RX5_72 rfl kh_5 (ok_To_misfit s2) (Nat.le_of_ble_eq_true rfl) rfl rfl (Nat.le_of_ble_eq_true rfl) dX5_readPart_192 ?_
    intro r25 s26
    exact g_zret dX5_readPart_195
  · refine g_aload_n dX5_readPart_191 rfl rfl ?_
    refine g_callv3 (st := []) 6 mw_X7_misfit lk_RX5_72 rfl kh_5 (ok_To_misfit s2) (Nat.le_of_ble_eq_true rfl) rfl rfl (Nat.le_of_ble_eq_true rfl) dX5_readPart_192 ?_
    intro r27 s28
    exact g_zret dX5_readPart_195
  · refine g_aload_n dX5_readPart_135 rfl rfl ?_
    refine g_callv2 (st := []) 6 mw_X7_take lk_RX5_37 rfl kh_5 (ok_To_take s2) (Nat.le_of_ble_eq_true rfl) rfl rfl (Nat.le_of_ble_eq_true rfl) dX5_readPart_136 ?_
    intro r29 s30
    refine g_aload_n dX5_readPart_139 rfl rfl ?_
    refine g_geti fl_RX5_60 hpr1 (by decide) dX5_readPart_140 ?_
    refine g_bipush dX5_readPart_143 (by decide) ?_
    refine g_icmplt (tgt := 157) dX5_readPart_145 (by decide) ?_ ?_
    · refine g_aload_n dX5_readPart_157 rfl rfl ?_
      refine g_aload_n dX5_readPart_158 rfl rfl ?_
      refine g_calls3 (st := []) mw_X5_readDinner lk_RX5_63 (ok_PR_readDinner pr1 hpr1 s30) (Nat.le_of_ble_eq_true rfl) rfl rfl (Nat.le_of_ble_eq_true rfl) dX5_readPart_159 ?_
      intro r31 s32
      exact g_zret dX5_readPart_162
    · refine g_aload_n dX5_readPart_148 rfl rfl ?_
      refine g_bipush dX5_readPart_149 (by decide) ?_
      refine g_callv3 (st := []) 6 mw_X7_reject lk_RX5_47 rfl kh_5 (ok_To_reject 6 s30) (Nat.le_of_ble_eq_true rfl) rfl rfl (Nat.le_of_ble_eq_true rfl) dX5_readPart_151 ?_
      intro r33 s34
      refine g_goto (tgt := 162) dX5_readPart_154 (by decide) ?_
      exact g_zret dX5_readPart_162
  · refine g_aload_n dX5_readPart_191 rfl rfl ?_
    refine g_callv3 (st := []) 6 mw_X7_misfit lk_RX5_72 rfl kh_5 (ok_To_misfit s2) (Nat.le_of_ble_eq_true rfl) rfl rfl (Nat.le_of_ble_eq_true rfl) dX5_readPart_192 ?_
    intro r35 s36
    exact g_zret dX5_readPart_195
  · refine g_aload_n dX5_readPart_163 rfl rfl ?_
    refine g_callv2 (st := []) 6 mw_X7_take lk_RX5_37 rfl kh_5 (ok_To_take s2) (Nat.le_of_ble_eq_true rfl) rfl rfl (Nat.le_of_ble_eq_true rfl) dX5_readPart_164 ?_
    intro r37 s38
    refine g_aload_n dX5_readPart_167 rfl rfl ?_
    refine g_geti fl_RX5_66 hpr1 (by decide) dX5_readPart_168 ?_
    refine g_bipush dX5_readPart_171 (by decide) ?_
    refine g_icmplt (tgt := 185) dX5_readPart_173 (by decide) ?_ ?_
    · refine g_aload_n dX5_readPart_185 rfl rfl ?_
      refine g_aload_n dX5_readPart_186 rfl rfl ?_
      refine g_calls3 (st := []) mw_X5_readHalves lk_RX5_69 (ok_PR_readHalves pr1 hpr1 s38) (Nat.le_of_ble_eq_true rfl) rfl rfl (Nat.le_of_ble_eq_true rfl) dX5_readPart_187 ?_
      intro r39 s40
      exact g_zret dX5_readPart_190
    · refine g_aload_n dX5_readPart_176 rfl rfl ?_
      refine g_bipush dX5_readPart_177 (by decide) ?_
      refine g_callv3 (st := []) 6 mw_X7_reject lk_RX5_47 rfl kh_5 (ok_To_reject 6 s38) (Nat.le_of_ble_eq_true rfl) rfl rfl (Nat.le_of_ble_eq_true rfl) dX5_readPart_179 ?_
      intro r41 s42
      refine g_goto (tgt := 190) dX5_readPart_182 (by decide) ?_
      exact g_zret dX5_readPart_190
  · refine g_aload_n dX5_readPart_191 rfl rfl ?_
    refine g_callv3 (st := []) 6 mw_X7_misfit lk_RX5_72 rfl kh_5 (ok_To_misfit s2) (Nat.le_of_ble_eq_true rfl) rfl rfl (Nat.le_of_ble_eq_true rfl) dX5_readPart_192 ?_
    intro r43 s44
    exact g_zret dX5_readPart_195
theorem dX7_isEnd_0 : decode cX7_isEnd 0 = .ok (.aload_n 0, 1) := by decide +kernel
theorem dX7_isEnd_1 : decode cX7_isEnd 1 = .ok (.getfield 115, 3) := by decide +kernel
theorem dX7_isEnd_4 : decode cX7_isEnd 4 = .ok (.ifCond .ne 7, 3) := by decide +kernel
theorem dX7_isEnd_7 : decode cX7_isEnd 7 = .ok (.iconst 1, 1) := by decide +kernel
theorem dX7_isEnd_8 : decode cX7_isEnd 8 = .ok (.goto 4, 3) := by decide +kernel
theorem dX7_isEnd_11 : decode cX7_isEnd 11 = .ok (.iconst 0, 1) := by decide +kernel
theorem dX7_isEnd_12 : decode cX7_isEnd 12 = .ok (.ireturn, 1) := by decide +kernel
theorem mw_X7_isEnd : MW yX7_isEnd cX7_isEnd 1 3 0 false := ⟨tm 848 (by decide +kernel) rfl, tm 237 (by decide +kernel) rfl, by decide, by decide, (by rw [if_neg (by decide)]; exact ⟨tm 847 (by decide +kernel) rfl, tm 25 (by decide +kernel) rfl⟩)⟩
def To_isEnd  (σ : Sg) : Rs := (if (σ 5 6) = 0 then (some (1, σ)) else (some (0, σ)))
theorem ok_To_isEnd (σ : Sg) : MC l Kh Ph yX7_isEnd cX7_isEnd 1 3 1 [.inr (.inr 5)] σ (To_isEnd σ) := by
  refine mc_of (by decide) (Nat.le_of_ble_eq_true rfl) ?_
  change G l Kh Ph RX7 cX7_isEnd 1 3 1 0 [some (.inr (.inr 5))] [] σ (To_isEnd  σ)
  unfold To_isEnd
  refine g_aload_n dX7_isEnd_0 rfl rfl ?_
  refine g_geti fl_RX7_115 kh_5 (by decide) dX7_isEnd_1 ?_
  refine g_ifne (tgt := 11) dX7_isEnd_4 (by decide) ?_ ?_
  · refine g_iconst dX7_isEnd_7 (by decide) ?_
    refine g_goto (tgt := 12) dX7_isEnd_8 (by decide) ?_
    exact g_zret1 dX7_isEnd_12
  · refine g_iconst dX7_isEnd_11 (by decide) ?_
    exact g_zret0 dX7_isEnd_12
theorem dX5_readAll_0 : decode cX5_readAll 0 = .ok (.aload_n 1, 1) := by decide +kernel
theorem dX5_readAll_1 : decode cX5_readAll 1 = .ok (.invokevirtual 9, 3) := by decide +kernel
theorem dX5_readAll_4 : decode cX5_readAll 4 = .ok (.aload_n 1, 1) := by decide +kernel
theorem dX5_readAll_5 : decode cX5_readAll 5 = .ok (.iconst (-1), 1) := by decide +kernel
theorem dX5_readAll_6 : decode cX5_readAll 6 = .ok (.putfield 14, 3) := by decide +kernel
theorem dX5_readAll_9 : decode cX5_readAll 9 = .ok (.aload_n 1, 1) := by decide +kernel
theorem dX5_readAll_10 : decode cX5_readAll 10 = .ok (.iconst (-1), 1) := by decide +kernel
theorem dX5_readAll_11 : decode cX5_readAll 11 = .ok (.putfield 18, 3) := by decide +kernel
theorem dX5_readAll_14 : decode cX5_readAll 14 = .ok (.iconst 0, 1) := by decide +kernel
theorem dX5_readAll_15 : decode cX5_readAll 15 = .ok (.istore_n 2, 1) := by decide +kernel
theorem dX5_readAll_16 : decode cX5_readAll 16 = .ok (.iload_n 2, 1) := by decide +kernel
theorem dX5_readAll_17 : decode cX5_readAll 17 = .ok (.sipush 900, 3) := by decide +kernel
theorem dX5_readAll_20 : decode cX5_readAll 20 = .ok (.if_icmp .ge 26, 3) := by decide +kernel
theorem dX5_readAll_23 : decode cX5_readAll 23 = .ok (.aload_n 0, 1) := by decide +kernel
theorem dX5_readAll_24 : decode cX5_readAll 24 = .ok (.invokevirtual 21, 3) := by decide +kernel
theorem dX5_readAll_27 : decode cX5_readAll 27 = .ok (.ifCond .ne 19, 3) := by decide +kernel
theorem dX5_readAll_30 : decode cX5_readAll 30 = .ok (.aload_n 0, 1) := by decide +kernel
theorem dX5_readAll_31 : decode cX5_readAll 31 = .ok (.aload_n 1, 1) := by decide +kernel
theorem dX5_readAll_32 : decode cX5_readAll 32 = .ok (.invokestatic 27, 3) := by decide +kernel
theorem dX5_readAll_35 : decode cX5_readAll 35 = .ok (.ifCond .ne 5, 3) := by decide +kernel
theorem dX5_readAll_38 : decode cX5_readAll 38 = .ok (.iconst 0, 1) := by decide +kernel
theorem dX5_readAll_39 : decode cX5_readAll 39 = .ok (.ireturn, 1) := by decide +kernel
theorem dX5_readAll_40 : decode cX5_readAll 40 = .ok (.iinc 2 1, 3) := by decide +kernel
theorem dX5_readAll_43 : decode cX5_readAll 43 = .ok (.goto (-27), 3) := by decide +kernel
theorem dX5_readAll_46 : decode cX5_readAll 46 = .ok (.aload_n 1, 1) := by decide +kernel
theorem dX5_readAll_47 : decode cX5_readAll 47 = .ok (.aload_n 1, 1) := by decide +kernel
theorem dX5_readAll_48 : decode cX5_readAll 48 = .ok (.getfield 14, 3) := by decide +kernel
theorem dX5_readAll_51 : decode cX5_readAll 51 = .ok (.iconst (-1), 1) := by decide +kernel
theorem dX5_readAll_52 : decode cX5_readAll 52 = .ok (.if_icmp .ne 7, 3) := by decide +kernel
theorem dX5_readAll_55 : decode cX5_readAll 55 = .ok (.iconst 3, 1) := by decide +kernel
theorem dX5_readAll_56 : decode cX5_readAll 56 = .ok (.goto 7, 3) := by decide +kernel
theorem dX5_readAll_59 : decode cX5_readAll 59 = .ok (.aload_n 1, 1) := by decide +kernel
theorem dX5_readAll_60 : decode cX5_readAll 60 = .ok (.getfield 14, 3) := by decide +kernel
theorem dX5_readAll_63 : decode cX5_readAll 63 = .ok (.putfield 14, 3) := by decide +kernel
theorem dX5_readAll_66 : decode cX5_readAll 66 = .ok (.aload_n 1, 1) := by decide +kernel
theorem dX5_readAll_67 : decode cX5_readAll 67 = .ok (.aload_n 1, 1) := by decide +kernel
theorem dX5_readAll_68 : decode cX5_readAll 68 = .ok (.getfield 18, 3) := by decide +kernel
theorem dX5_readAll_71 : decode cX5_readAll 71 = .ok (.iconst (-1), 1) := by decide +kernel
theorem dX5_readAll_72 : decode cX5_readAll 72 = .ok (.if_icmp .ne 7, 3) := by decide +kernel
theorem dX5_readAll_75 : decode cX5_readAll 75 = .ok (.iconst 1, 1) := by decide +kernel
theorem dX5_readAll_76 : decode cX5_readAll 76 = .ok (.goto 7, 3) := by decide +kernel
theorem dX5_readAll_79 : decode cX5_readAll 79 = .ok (.aload_n 1, 1) := by decide +kernel
theorem dX5_readAll_80 : decode cX5_readAll 80 = .ok (.getfield 18, 3) := by decide +kernel
theorem dX5_readAll_83 : decode cX5_readAll 83 = .ok (.putfield 18, 3) := by decide +kernel
theorem dX5_readAll_86 : decode cX5_readAll 86 = .ok (.iconst 1, 1) := by decide +kernel
theorem dX5_readAll_87 : decode cX5_readAll 87 = .ok (.ireturn, 1) := by decide +kernel
theorem mw_X5_readAll : MW yX5_readAll cX5_readAll 3 3 2 true := ⟨tm 840 (by decide +kernel) rfl, tm 252 (by decide +kernel) rfl, by decide, by decide, (by rw [if_pos rfl]; exact tm 839 (by decide +kernel) rfl)⟩
theorem lk_RX5_9 : LK RX5 9 yX4_clear := Or.inr ⟨"HairProvince", tm 841 (by decide +kernel) rfl⟩
theorem lk_RX5_21 : LK RX5 21 yX7_isEnd := Or.inr ⟨"HairProvince", tm 845 (by decide +kernel) rfl⟩
theorem lk_RX5_27 : LK RX5 27 yX5_readPart := Or.inl (tm 849 (by decide +kernel) rfl)
def PR_readAll_L16 (pr1 : Nat) (k46 : Sg → Rs) : Nat → Int → Sg → Rs
  | 0, _, _ => none
  | n + 1, v2, σ => (if v2 < 900 then (bd (To_isEnd σ) (fun r5 s6 => (if r5 = 0 then (bd (PR_readPart pr1 s6) (fun r7 s8 => (if r7 = 0 then (some (0, s8)) else (nm (w32 (v2 + 1)) (fun x9 => (PR_readAll_L16 pr1 k46 n x9 s8)))))) else (k46 s6)))) else (k46 σ))
theorem ok_PR_readAll_L16 (pr1 : Nat) (hpr1 : Kh[pr1]? = some (.inl 4)) (k46 : Sg → Rs) (hk46 : ∀ (σ : Sg), G l Kh Ph RX5 cX5_readAll 3 3 6 46 [none, some (.inr (.inr pr1)), none] [] σ (k46 σ)) : ∀ (n : Nat) (v2 : Int) (σ : Sg), G l Kh Ph RX5 cX5_readAll 3 3 6 16 [some (.inr (.inr 5)), some (.inr (.inr pr1)), some (.inl v2)] [] σ (PR_readAll_L16 pr1 k46 n v2 σ) := by
  intro n
  induction n with
  | zero => intros; exact G.none_
  | succ n ih =>
    intro v2 σ
    rw [PR_readAll_L16]
    refine g_iload_n dX5_readAll_16 rfl rfl ?_
    refine g_sipush dX5_readAll_17 (by decide) ?_
    refine g_icmpge (tgt := 46) dX5_readAll_20 (by decide) ?_ ?_
    · refine g_aload_n dX5_readAll_23 rfl rfl ?_
      refine g_callv3 (st := []) 6 mw_X7_isEnd lk_RX5_21 rfl kh_5 (ok_To_isEnd σ) (Nat.le_of_ble_eq_true rfl) rfl rfl (Nat.le_of_ble_eq_true rfl) dX5_readAll_24 ?_
      intro r5 s6
      refine g_ifne (tgt := 46) dX5_readAll_27 (by decide) ?_ ?_
      · refine g_aload_n dX5_readAll_30 rfl rfl ?_
        refine g_aload_n dX5_readAll_31 rfl rfl ?_
        refine g_calls3 (st := []) mw_X5_readPart lk_RX5_27 (ok_PR_readPart pr1 hpr1 s6) (Nat.le_of_ble_eq_true rfl) rfl rfl (Nat.le_of_ble_eq_true rfl) dX5_readAll_32 ?_
        intro r7 s8
        refine g_ifne (tgt := 40) dX5_readAll_35 (by decide) ?_ ?_
        · refine g_iconst dX5_readAll_38 (by decide) ?_
          exact g_zret0 dX5_readAll_39
        · refine n_iinc (fun x9 => [some (.inr (.inr 5)), some (.inr (.inr pr1)), some (.inl x9)]) dX5_readAll_40 rfl (Nat.le_of_ble_eq_true rfl) (fun _ => rfl) ?_
          intro x9
          refine g_goto (tgt := 16) dX5_readAll_43 (by decide) ?_
          exact (ih x9 s8)
      · exact (g_weak [false, true, false] (hk46 s6))
    · exact (g_weak [false, true, false] (hk46 σ))
def PR_readAll_J63 (pr1 : Nat) (t1 : Int) (σ : Sg) : Rs := (nm (up_s σ pr1 14 t1) (fun s11 => (if (s11 pr1 15) = (-1) then (nm (up_s s11 pr1 15 1) (fun s12 => (some (1, s12)))) else (nm (up_s s11 pr1 15 (s11 pr1 15)) (fun s13 => (some (1, s13)))))))
theorem ok_PR_readAll_J63 (pr1 : Nat) (hpr1 : Kh[pr1]? = some (.inl 4)) : ∀ (t1 : Int) (σ : Sg), G l Kh Ph RX5 cX5_readAll 3 3 6 63 [none, some (.inr (.inr pr1)), none] [.inl t1, .inr (.inr pr1)] σ (PR_readAll_J63 pr1 t1 σ) := by
  intro t1 σ
  unfold PR_readAll_J63
  refine g_puti fl_RX5_14 hpr1 (by decide) dX5_readAll_63 ?_
  intro s11
  refine g_aload_n dX5_readAll_66 rfl rfl ?_
  refine g_aload_n dX5_readAll_67 rfl rfl ?_
  refine g_geti fl_RX5_18 hpr1 (by decide) dX5_readAll_68 ?_
  refine g_iconst dX5_readAll_71 (by decide) ?_
  refine g_icmpne (tgt := 79) dX5_readAll_72 (by decide) ?_ ?_
  · refine g_iconst dX5_readAll_75 (by decide) ?_
    refine g_goto (tgt := 83) dX5_readAll_76 (by decide) ?_
    refine g_puti fl_RX5_18 hpr1 (by decide) dX5_readAll_83 ?_
    intro s12
    refine g_iconst dX5_readAll_86 (by decide) ?_
    exact g_zret1 dX5_readAll_87
  · refine g_aload_n dX5_readAll_79 rfl rfl ?_
    refine g_geti fl_RX5_18 hpr1 (by decide) dX5_readAll_80 ?_
    refine g_puti fl_RX5_18 hpr1 (by decide) dX5_readAll_83 ?_
    intro s13
    refine g_iconst dX5_readAll_86 (by decide) ?_
    exact g_zret1 dX5_readAll_87
def PR_readAll_J46 (pr1 : Nat) (σ : Sg) : Rs := (if (σ pr1 14) = (-1) then (PR_readAll_J63 pr1 3 σ) else (PR_readAll_J63 pr1 (σ pr1 14) σ))
theorem ok_PR_readAll_J46 (pr1 : Nat) (hpr1 : Kh[pr1]? = some (.inl 4)) : ∀ (σ : Sg), G l Kh Ph RX5 cX5_readAll 3 3 6 46 [none, some (.inr (.inr pr1)), none] [] σ (PR_readAll_J46 pr1  σ) := by
  intro σ
  unfold PR_readAll_J46
  refine g_aload_n dX5_readAll_46 rfl rfl ?_
  refine g_aload_n dX5_readAll_47 rfl rfl ?_
  refine g_geti fl_RX5_14 hpr1 (by decide) dX5_readAll_48 ?_
  refine g_iconst dX5_readAll_51 (by decide) ?_
  refine g_icmpne (tgt := 59) dX5_readAll_52 (by decide) ?_ ?_
  · refine g_iconst dX5_readAll_55 (by decide) ?_
    refine g_goto (tgt := 63) dX5_readAll_56 (by decide) ?_
    refine (ok_PR_readAll_J63 pr1 hpr1 3 σ)
  · refine g_aload_n dX5_readAll_59 rfl rfl ?_
    refine g_geti fl_RX5_14 hpr1 (by decide) dX5_readAll_60 ?_
    refine (ok_PR_readAll_J63 pr1 hpr1 (σ pr1 14) σ)
def PR_readAll (pr1 : Nat) (σ : Sg) : Rs := (bd (Pr_clear pr1 σ) (fun r1 s2 => (nm (up_s s2 pr1 14 (-1)) (fun s3 => (nm (up_s s3 pr1 15 (-1)) (fun s4 => (PR_readAll_L16 pr1 (fun s10 => (PR_readAll_J46 pr1 s10)) fu 0 s4)))))))
theorem ok_PR_readAll (pr1 : Nat) (hpr1 : Kh[pr1]? = some (.inl 4)) (σ : Sg) : MC l Kh Ph yX5_readAll cX5_readAll 3 3 6 [.inr (.inr 5), .inr (.inr pr1)] σ (PR_readAll pr1 σ) := by
  refine mc_of (by decide) (Nat.le_of_ble_eq_true rfl) ?_
  change G l Kh Ph RX5 cX5_readAll 3 3 6 0 [some (.inr (.inr 5)), some (.inr (.inr pr1)), none] [] σ (PR_readAll pr1 σ)
  unfold PR_readAll
  refine g_aload_n dX5_readAll_0 rfl rfl ?_
  refine g_callv2 (st := []) 4 mw_X4_clear lk_RX5_9 rfl hpr1 (ok_Pr_clear pr1 hpr1 σ) (Nat.le_of_ble_eq_true rfl) rfl rfl (Nat.le_of_ble_eq_true rfl) dX5_readAll_1 ?_
  intro r1 s2
  refine g_aload_n dX5_readAll_4 rfl rfl ?_
  refine g_iconst dX5_readAll_5 (by decide) ?_
  refine g_puti fl_RX5_14 hpr1 (by decide) dX5_readAll_6 ?_
  intro s3
  refine g_aload_n dX5_readAll_9 rfl rfl ?_
  refine g_iconst dX5_readAll_10 (by decide) ?_
  refine g_puti fl_RX5_18 hpr1 (by decide) dX5_readAll_11 ?_
  intro s4
  refine g_iconst dX5_readAll_14 (by decide) ?_
  refine g_istore_n (lv' := [some (.inr (.inr 5)), some (.inr (.inr pr1)), some (.inl 0)]) dX5_readAll_15 rfl (Nat.le_of_ble_eq_true rfl) rfl ?_
  refine (ok_PR_readAll_L16 pr1 hpr1 _ ?_ fu 0 s4)
  · intro s10
    refine (ok_PR_readAll_J46 pr1 hpr1 s10)
theorem dX7_add_0 : decode cX7_add 0 = .ok (.aload_n 0, 1) := by decide +kernel
theorem dX7_add_1 : decode cX7_add 1 = .ok (.getfield 57, 3) := by decide +kernel
theorem dX7_add_4 : decode cX7_add 4 = .ok (.aload_n 0, 1) := by decide +kernel
theorem dX7_add_5 : decode cX7_add 5 = .ok (.getfield 19, 3) := by decide +kernel
theorem dX7_add_8 : decode cX7_add 8 = .ok (.arraylength, 1) := by decide +kernel
theorem dX7_add_9 : decode cX7_add 9 = .ok (.if_icmp .ge 34, 3) := by decide +kernel
theorem dX7_add_12 : decode cX7_add 12 = .ok (.aload_n 0, 1) := by decide +kernel
theorem dX7_add_13 : decode cX7_add 13 = .ok (.getfield 19, 3) := by decide +kernel
theorem dX7_add_16 : decode cX7_add 16 = .ok (.aload_n 0, 1) := by decide +kernel
theorem dX7_add_17 : decode cX7_add 17 = .ok (.getfield 57, 3) := by decide +kernel
theorem dX7_add_20 : decode cX7_add 20 = .ok (.lload_n 3, 1) := by decide +kernel
theorem dX7_add_21 : decode cX7_add 21 = .ok (.bipush 16, 2) := by decide +kernel
theorem dX7_add_23 : decode cX7_add 23 = .ok (.lshl, 1) := by decide +kernel
theorem dX7_add_24 : decode cX7_add 24 = .ok (.iload_n 2, 1) := by decide +kernel
theorem dX7_add_25 : decode cX7_add 25 = .ok (.i2l, 1) := by decide +kernel
theorem dX7_add_26 : decode cX7_add 26 = .ok (.iconst 4, 1) := by decide +kernel
theorem dX7_add_27 : decode cX7_add 27 = .ok (.lshl, 1) := by decide +kernel
theorem dX7_add_28 : decode cX7_add 28 = .ok (.lor, 1) := by decide +kernel
theorem dX7_add_29 : decode cX7_add 29 = .ok (.iload_n 1, 1) := by decide +kernel
theorem dX7_add_30 : decode cX7_add 30 = .ok (.i2l, 1) := by decide +kernel
theorem dX7_add_31 : decode cX7_add 31 = .ok (.lor, 1) := by decide +kernel
theorem dX7_add_32 : decode cX7_add 32 = .ok (.lastore, 1) := by decide +kernel
theorem dX7_add_33 : decode cX7_add 33 = .ok (.aload_n 0, 1) := by decide +kernel
theorem dX7_add_34 : decode cX7_add 34 = .ok (.dup, 1) := by decide +kernel
theorem dX7_add_35 : decode cX7_add 35 = .ok (.getfield 57, 3) := by decide +kernel
theorem dX7_add_38 : decode cX7_add 38 = .ok (.iconst 1, 1) := by decide +kernel
theorem dX7_add_39 : decode cX7_add 39 = .ok (.iadd, 1) := by decide +kernel
theorem dX7_add_40 : decode cX7_add 40 = .ok (.putfield 57, 3) := by decide +kernel
theorem dX7_add_43 : decode cX7_add 43 = .ok (.return_, 1) := by decide +kernel
theorem mw_X7_add : MW yX7_add cX7_add 5 2 3 false := ⟨tm 816 (by decide +kernel) rfl, tm 237 (by decide +kernel) rfl, by decide, by decide, (by rw [if_neg (by decide)]; exact ⟨tm 815 (by decide +kernel) rfl, tm 19 (by decide +kernel) rfl⟩)⟩
def To_add (a1 : Int) (a2 : Int) (a3 : Int) (σ : Sg) : Rs := (if (σ 5 4) < ((901 : Nat) : Int) then (wr 901 (σ 5 4) (up_s σ 7 (Int.toNat (σ 5 4)) (or64 (or64 (sl64 a3 16) (sl64 a2 4)) a1)) (fun s1 => (nm (up_s s1 5 4 (w32 ((s1 5 4) + 1))) (fun s2 => (some (0, s2)))))) else (some (0, σ)))
theorem ok_To_add (a1 : Int) (a2 : Int) (a3 : Int) (σ : Sg) : MC l Kh Ph yX7_add cX7_add 5 2 1 [.inr (.inr 5), .inl a1, .inl a2, .inr (.inl a3)] σ (To_add a1 a2 a3 σ) := by
  refine mc_of (by decide) (Nat.le_of_ble_eq_true rfl) ?_
  change G l Kh Ph RX7 cX7_add 5 2 1 0 [some (.inr (.inr 5)), some (.inl a1), some (.inl a2), some (.inr (.inl a3)), none] [] σ (To_add a1 a2 a3 σ)
  unfold To_add
  refine g_aload_n dX7_add_0 rfl rfl ?_
  refine g_geti fl_RX7_57 kh_5 (by decide) dX7_add_1 ?_
  refine g_aload_n dX7_add_4 rfl rfl ?_
  refine g_getr' (q := 7) fl_RX7_19 kh_5 (by decide) rfl dX7_add_5 ?_
  refine g_alen kh_7 (by decide) (Nat.le_of_ble_eq_true rfl) dX7_add_8 ?_
  refine g_icmpge (tgt := 43) dX7_add_9 (by decide) ?_ ?_
  · refine g_aload_n dX7_add_12 rfl rfl ?_
    refine g_getr' (q := 7) fl_RX7_19 kh_5 (by decide) rfl dX7_add_13 ?_
    refine g_aload_n dX7_add_16 rfl rfl ?_
    refine g_geti fl_RX7_57 kh_5 (by decide) dX7_add_17 ?_
    refine g_lload_n dX7_add_20 rfl rfl ?_
    refine g_bipush dX7_add_21 (by decide) ?_
    refine g_lshl dX7_add_23 ?_
    refine g_iload_n dX7_add_24 rfl rfl ?_
    refine g_i2l dX7_add_25 ?_
    refine g_iconst dX7_add_26 (by decide) ?_
    refine g_lshl dX7_add_27 ?_
    refine g_lor dX7_add_28 ?_
    refine g_iload_n dX7_add_29 rfl rfl ?_
    refine g_i2l dX7_add_30 ?_
    refine g_lor dX7_add_31 ?_
    refine g_last kh_7 dX7_add_32 ?_
    intro s1
    refine g_aload_n dX7_add_33 rfl rfl ?_
    refine g_dup dX7_add_34 rfl ?_
    refine g_geti fl_RX7_57 kh_5 (by decide) dX7_add_35 ?_
    refine g_iconst dX7_add_38 (by decide) ?_
    refine g_iadd dX7_add_39 ?_
    refine g_puti fl_RX7_57 kh_5 (by decide) dX7_add_40 ?_
    intro s2
    exact g_vret dX7_add_43
  · exact g_vret dX7_add_43
theorem dX7_byteAt_0 : decode cX7_byteAt 0 = .ok (.iload_n 1, 1) := by decide +kernel
theorem dX7_byteAt_1 : decode cX7_byteAt 1 = .ok (.ifCond .lt 31, 3) := by decide +kernel
theorem dX7_byteAt_4 : decode cX7_byteAt 4 = .ok (.iload_n 1, 1) := by decide +kernel
theorem dX7_byteAt_5 : decode cX7_byteAt 5 = .ok (.aload_n 0, 1) := by decide +kernel
theorem dX7_byteAt_6 : decode cX7_byteAt 6 = .ok (.getfield 55, 3) := by decide +kernel
theorem dX7_byteAt_9 : decode cX7_byteAt 9 = .ok (.if_icmp .ge 23, 3) := by decide +kernel
theorem dX7_byteAt_12 : decode cX7_byteAt 12 = .ok (.iload_n 1, 1) := by decide +kernel
theorem dX7_byteAt_13 : decode cX7_byteAt 13 = .ok (.sipush 900, 3) := by decide +kernel
theorem dX7_byteAt_16 : decode cX7_byteAt 16 = .ok (.if_icmp .ge 16, 3) := by decide +kernel
theorem dX7_byteAt_19 : decode cX7_byteAt 19 = .ok (.aload_n 0, 1) := by decide +kernel
theorem dX7_byteAt_20 : decode cX7_byteAt 20 = .ok (.getfield 15, 3) := by decide +kernel
theorem dX7_byteAt_23 : decode cX7_byteAt 23 = .ok (.iload_n 1, 1) := by decide +kernel
theorem dX7_byteAt_24 : decode cX7_byteAt 24 = .ok (.baload, 1) := by decide +kernel
theorem dX7_byteAt_25 : decode cX7_byteAt 25 = .ok (.sipush 255, 3) := by decide +kernel
theorem dX7_byteAt_28 : decode cX7_byteAt 28 = .ok (.iand, 1) := by decide +kernel
theorem dX7_byteAt_29 : decode cX7_byteAt 29 = .ok (.goto 4, 3) := by decide +kernel
theorem dX7_byteAt_32 : decode cX7_byteAt 32 = .ok (.iconst 0, 1) := by decide +kernel
theorem dX7_byteAt_33 : decode cX7_byteAt 33 = .ok (.ireturn, 1) := by decide +kernel
theorem mw_X7_byteAt : MW yX7_byteAt cX7_byteAt 2 0 1 false := ⟨tm 805 (by decide +kernel) rfl, tm 237 (by decide +kernel) rfl, by decide, by decide, (by rw [if_neg (by decide)]; exact ⟨tm 804 (by decide +kernel) rfl, tm 17 (by decide +kernel) rfl⟩)⟩
theorem fl_RX7_55 : FL RX7 55 6 2 := ⟨_, _, _, _, cw_6, by decide, Or.inl (by decide), Or.inr (by decide), Or.inl (tm 345 (by decide +kernel) rfl)⟩
def To_byteAt (a1 : Int) (σ : Sg) : Rs := (if a1 < 0 then (some (0, σ)) else (if a1 < (σ 5 2) then (if a1 < 900 then (rd 900 a1 (σ 6 (Int.toNat a1)) (fun x1 => (some ((an32 x1 255), σ)))) else (some (0, σ))) else (some (0, σ))))
theorem ok_To_byteAt (a1 : Int) (σ : Sg) : MC l Kh Ph yX7_byteAt cX7_byteAt 2 0 1 [.inr (.inr 5), .inl a1] σ (To_byteAt a1 σ) := by
  refine mc_of (by decide) (Nat.le_of_ble_eq_true rfl) ?_
  change G l Kh Ph RX7 cX7_byteAt 2 0 1 0 [some (.inr (.inr 5)), some (.inl a1)] [] σ (To_byteAt a1 σ)
  unfold To_byteAt
  refine g_iload_n dX7_byteAt_0 rfl rfl ?_
  refine g_iflt (tgt := 32) dX7_byteAt_1 (by decide) ?_ ?_
  · refine g_iconst dX7_byteAt_32 (by decide) ?_
    exact g_iret dX7_byteAt_33
  · refine g_iload_n dX7_byteAt_4 rfl rfl ?_
    refine g_aload_n dX7_byteAt_5 rfl rfl ?_
    refine g_geti fl_RX7_55 kh_5 (by decide) dX7_byteAt_6 ?_
    refine g_icmpge (tgt := 32) dX7_byteAt_9 (by decide) ?_ ?_
    · refine g_iload_n dX7_byteAt_12 rfl rfl ?_
      refine g_sipush dX7_byteAt_13 (by decide) ?_
      refine g_icmpge (tgt := 32) dX7_byteAt_16 (by decide) ?_ ?_
      · refine g_aload_n dX7_byteAt_19 rfl rfl ?_
        refine g_getr' (q := 6) fl_RX7_15 kh_5 (by decide) rfl dX7_byteAt_20 ?_
        refine g_iload_n dX7_byteAt_23 rfl rfl ?_
        refine g_bald kh_6 dX7_byteAt_24 ?_
        intro x1
        refine g_sipush dX7_byteAt_25 (by decide) ?_
        refine g_iand dX7_byteAt_28 ?_
        refine g_goto (tgt := 33) dX7_byteAt_29 (by decide) ?_
        exact g_iret dX7_byteAt_33
      · refine g_iconst dX7_byteAt_32 (by decide) ?_
        exact g_iret dX7_byteAt_33
    · refine g_iconst dX7_byteAt_32 (by decide) ?_
      exact g_iret dX7_byteAt_33
theorem dX7_isDigit_0 : decode cX7_isDigit 0 = .ok (.iload_n 0, 1) := by decide +kernel
theorem dX7_isDigit_1 : decode cX7_isDigit 1 = .ok (.bipush 48, 2) := by decide +kernel
theorem dX7_isDigit_3 : decode cX7_isDigit 3 = .ok (.if_icmp .lt 13, 3) := by decide +kernel
theorem dX7_isDigit_6 : decode cX7_isDigit 6 = .ok (.iload_n 0, 1) := by decide +kernel
theorem dX7_isDigit_7 : decode cX7_isDigit 7 = .ok (.bipush 57, 2) := by decide +kernel
theorem dX7_isDigit_9 : decode cX7_isDigit 9 = .ok (.if_icmp .gt 7, 3) := by decide +kernel
theorem dX7_isDigit_12 : decode cX7_isDigit 12 = .ok (.iconst 1, 1) := by decide +kernel
theorem dX7_isDigit_13 : decode cX7_isDigit 13 = .ok (.goto 4, 3) := by decide +kernel
theorem dX7_isDigit_16 : decode cX7_isDigit 16 = .ok (.iconst 0, 1) := by decide +kernel
theorem dX7_isDigit_17 : decode cX7_isDigit 17 = .ok (.ireturn, 1) := by decide +kernel
theorem mw_X7_isDigit : MW yX7_isDigit cX7_isDigit 1 3 1 true := ⟨tm 823 (by decide +kernel) rfl, tm 237 (by decide +kernel) rfl, by decide, by decide, (by rw [if_pos rfl]; exact tm 822 (by decide +kernel) rfl)⟩
def To_isDigit (a0 : Int) (σ : Sg) : Rs := (if a0 < 48 then (some (0, σ)) else (if 57 < a0 then (some (0, σ)) else (some (1, σ))))
theorem ok_To_isDigit (a0 : Int) (σ : Sg) : MC l Kh Ph yX7_isDigit cX7_isDigit 1 3 1 [.inl a0] σ (To_isDigit a0 σ) := by
  refine mc_of (by decide) (Nat.le_of_ble_eq_true rfl) ?_
  change G l Kh Ph RX7 cX7_isDigit 1 3 1 0 [some (.inl a0)] [] σ (To_isDigit a0 σ)
  unfold To_isDigit
  refine g_iload_n dX7_isDigit_0 rfl rfl ?_
  refine g_bipush dX7_isDigit_1 (by decide) ?_
  refine g_icmplt (tgt := 16) dX7_isDigit_3 (by decide) ?_ ?_
  · refine g_iconst dX7_isDigit_16 (by decide) ?_
    exact g_zret0 dX7_isDigit_17
  · refine g_iload_n dX7_isDigit_6 rfl rfl ?_
    refine g_bipush dX7_isDigit_7 (by decide) ?_
    refine g_icmpgt (tgt := 16) dX7_isDigit_9 (by decide) ?_ ?_
    · refine g_iconst dX7_isDigit_16 (by decide) ?_
      exact g_zret0 dX7_isDigit_17
    · refine g_iconst dX7_isDigit_12 (by decide) ?_
      refine g_goto (tgt := 17) dX7_isDigit_13 (by decide) ?_
      exact g_zret1 dX7_isDigit_17
theorem dX7_isLetter_0 : decode cX7_isLetter 0 = .ok (.iload_n 0, 1) := by decide +kernel
theorem dX7_isLetter_1 : decode cX7_isLetter 1 = .ok (.bipush 97, 2) := by decide +kernel
theorem dX7_isLetter_3 : decode cX7_isLetter 3 = .ok (.if_icmp .lt 13, 3) := by decide +kernel
theorem dX7_isLetter_6 : decode cX7_isLetter 6 = .ok (.iload_n 0, 1) := by decide +kernel
theorem dX7_isLetter_7 : decode cX7_isLetter 7 = .ok (.bipush 122, 2) := by decide +kernel
theorem dX7_isLetter_9 : decode cX7_isLetter 9 = .ok (.if_icmp .gt 7, 3) := by decide +kernel
theorem dX7_isLetter_12 : decode cX7_isLetter 12 = .ok (.iconst 1, 1) := by decide +kernel
theorem dX7_isLetter_13 : decode cX7_isLetter 13 = .ok (.goto 4, 3) := by decide +kernel
theorem dX7_isLetter_16 : decode cX7_isLetter 16 = .ok (.iconst 0, 1) := by decide +kernel
theorem dX7_isLetter_17 : decode cX7_isLetter 17 = .ok (.ireturn, 1) := by decide +kernel
theorem mw_X7_isLetter : MW yX7_isLetter cX7_isLetter 1 3 1 true := ⟨tm 808 (by decide +kernel) rfl, tm 237 (by decide +kernel) rfl, by decide, by decide, (by rw [if_pos rfl]; exact tm 807 (by decide +kernel) rfl)⟩
def To_isLetter (a0 : Int) (σ : Sg) : Rs := (if a0 < 97 then (some (0, σ)) else (if 122 < a0 then (some (0, σ)) else (some (1, σ))))
theorem ok_To_isLetter (a0 : Int) (σ : Sg) : MC l Kh Ph yX7_isLetter cX7_isLetter 1 3 1 [.inl a0] σ (To_isLetter a0 σ) := by
  refine mc_of (by decide) (Nat.le_of_ble_eq_true rfl) ?_
  change G l Kh Ph RX7 cX7_isLetter 1 3 1 0 [some (.inl a0)] [] σ (To_isLetter a0 σ)
  unfold To_isLetter
  refine g_iload_n dX7_isLetter_0 rfl rfl ?_
  refine g_bipush dX7_isLetter_1 (by decide) ?_
  refine g_icmplt (tgt := 16) dX7_isLetter_3 (by decide) ?_ ?_
  · refine g_iconst dX7_isLetter_16 (by decide) ?_
    exact g_zret0 dX7_isLetter_17
  · refine g_iload_n dX7_isLetter_6 rfl rfl ?_
    refine g_bipush dX7_isLetter_7 (by decide) ?_
    refine g_icmpgt (tgt := 16) dX7_isLetter_9 (by decide) ?_ ?_
    · refine g_iconst dX7_isLetter_16 (by decide) ?_
      exact g_zret0 dX7_isLetter_17
    · refine g_iconst dX7_isLetter_12 (by decide) ?_
      refine g_goto (tgt := 17) dX7_isLetter_13 (by decide) ?_
      exact g_zret1 dX7_isLetter_17
theorem dX7_codeWith_0 : decode cX7_codeWith 0 = .ok (.lload_n 0, 1) := by decide +kernel
theorem dX7_codeWith_1 : decode cX7_codeWith 1 = .ok (.ldc2_w 42, 3) := by decide +kernel
theorem dX7_codeWith_4 : decode cX7_codeWith 4 = .ok (.lmul, 1) := by decide +kernel
theorem dX7_codeWith_5 : decode cX7_codeWith 5 = .ok (.iload_n 2, 1) := by decide +kernel
theorem dX7_codeWith_6 : decode cX7_codeWith 6 = .ok (.i2l, 1) := by decide +kernel
theorem dX7_codeWith_7 : decode cX7_codeWith 7 = .ok (.ladd, 1) := by decide +kernel
theorem dX7_codeWith_8 : decode cX7_codeWith 8 = .ok (.ldc2_w 44, 3) := by decide +kernel
theorem dX7_codeWith_11 : decode cX7_codeWith 11 = .ok (.lsub, 1) := by decide +kernel
theorem dX7_codeWith_12 : decode cX7_codeWith 12 = .ok (.lconst 1, 1) := by decide +kernel
theorem dX7_codeWith_13 : decode cX7_codeWith 13 = .ok (.ladd, 1) := by decide +kernel
theorem dX7_codeWith_14 : decode cX7_codeWith 14 = .ok (.lreturn, 1) := by decide +kernel
theorem mw_X7_codeWith : MW yX7_codeWith cX7_codeWith 3 1 2 true := ⟨tm 338 (by decide +kernel) rfl, tm 237 (by decide +kernel) rfl, by decide, by decide, (by rw [if_pos rfl]; exact tm 337 (by decide +kernel) rfl)⟩
def To_codeWith (a0 : Int) (a2 : Int) (σ : Sg) : Rs := (some ((w64 ((w64 ((w64 ((w64 (a0 * 27)) + a2)) - 97)) + 1)), σ))
theorem ok_To_codeWith (a0 : Int) (a2 : Int) (σ : Sg) : MC l Kh Ph yX7_codeWith cX7_codeWith 3 1 1 [.inr (.inl a0), .inl a2] σ (To_codeWith a0 a2 σ) := by
  refine mc_of (by decide) (Nat.le_of_ble_eq_true rfl) ?_
  change G l Kh Ph RX7 cX7_codeWith 3 1 1 0 [some (.inr (.inl a0)), none, some (.inl a2)] [] σ (To_codeWith a0 a2 σ)
  unfold To_codeWith
  refine g_lload_n dX7_codeWith_0 rfl rfl ?_
  refine g_ldc2 (n := 27) (tm 339 (by decide +kernel) rfl) (by decide) dX7_codeWith_1 ?_
  refine g_lmul dX7_codeWith_4 ?_
  refine g_iload_n dX7_codeWith_5 rfl rfl ?_
  refine g_i2l dX7_codeWith_6 ?_
  refine g_ladd dX7_codeWith_7 ?_
  refine g_ldc2 (n := 97) (tm 340 (by decide +kernel) rfl) (by decide) dX7_codeWith_8 ?_
  refine g_lsub dX7_codeWith_11 ?_
  refine g_lconst (v := 1) dX7_codeWith_12 (by decide) ?_
  refine g_ladd dX7_codeWith_13 ?_
  exact g_lret dX7_codeWith_14
theorem dX7_findKey_0 : decode cX7_findKey 0 = .ok (.iconst 0, 1) := by decide +kernel
theorem dX7_findKey_1 : decode cX7_findKey 1 = .ok (.istore_n 3, 1) := by decide +kernel
theorem dX7_findKey_2 : decode cX7_findKey 2 = .ok (.iload_n 3, 1) := by decide +kernel
theorem dX7_findKey_3 : decode cX7_findKey 3 = .ok (.bipush 25, 2) := by decide +kernel
theorem dX7_findKey_5 : decode cX7_findKey 5 = .ok (.if_icmp .ge 22, 3) := by decide +kernel
theorem dX7_findKey_8 : decode cX7_findKey 8 = .ok (.aload_n 0, 1) := by decide +kernel
theorem dX7_findKey_9 : decode cX7_findKey 9 = .ok (.getfield 11, 3) := by decide +kernel
theorem dX7_findKey_12 : decode cX7_findKey 12 = .ok (.iload_n 3, 1) := by decide +kernel
theorem dX7_findKey_13 : decode cX7_findKey 13 = .ok (.laload, 1) := by decide +kernel
theorem dX7_findKey_14 : decode cX7_findKey 14 = .ok (.lload_n 1, 1) := by decide +kernel
theorem dX7_findKey_15 : decode cX7_findKey 15 = .ok (.lcmp, 1) := by decide +kernel
theorem dX7_findKey_16 : decode cX7_findKey 16 = .ok (.ifCond .ne 5, 3) := by decide +kernel
theorem dX7_findKey_19 : decode cX7_findKey 19 = .ok (.iload_n 3, 1) := by decide +kernel
theorem dX7_findKey_20 : decode cX7_findKey 20 = .ok (.ireturn, 1) := by decide +kernel
theorem dX7_findKey_21 : decode cX7_findKey 21 = .ok (.iinc 3 1, 3) := by decide +kernel
theorem dX7_findKey_24 : decode cX7_findKey 24 = .ok (.goto (-22), 3) := by decide +kernel
theorem dX7_findKey_27 : decode cX7_findKey 27 = .ok (.iconst (-1), 1) := by decide +kernel
theorem dX7_findKey_28 : decode cX7_findKey 28 = .ok (.ireturn, 1) := by decide +kernel
theorem mw_X7_findKey : MW yX7_findKey cX7_findKey 4 0 1 false := ⟨tm 820 (by decide +kernel) rfl, tm 237 (by decide +kernel) rfl, by decide, by decide, (by rw [if_neg (by decide)]; exact ⟨tm 819 (by decide +kernel) rfl, tm 20 (by decide +kernel) rfl⟩)⟩
theorem fl_RX7_11 : FL RX7 11 6 13 := ⟨_, _, _, _, cw_6, by decide, Or.inr (Or.inr (Or.inr (by decide))), Or.inl (by decide), Or.inl (tm 341 (by decide +kernel) rfl)⟩
def To_findKey_L2 (a1 : Int) : Nat → Int → Sg → Rs
  | 0, _, _ => none
  | n + 1, v3, σ => (if v3 < 25 then (rd 25 v3 (σ 113 (Int.toNat v3)) (fun x1 => (if x1 = a1 then (some (v3, σ)) else (nm (w32 (v3 + 1)) (fun x2 => (To_findKey_L2 a1 n x2 σ)))))) else (some ((-1), σ)))
theorem ok_To_findKey_L2 (a1 : Int) : ∀ (n : Nat) (v3 : Int) (σ : Sg), G l Kh Ph RX7 cX7_findKey 4 0 1 2 [some (.inr (.inr 5)), some (.inr (.inl a1)), none, some (.inl v3)] [] σ (To_findKey_L2 a1 n v3 σ) := by
  intro n
  induction n with
  | zero => intros; exact G.none_
  | succ n ih =>
    intro v3 σ
    rw [To_findKey_L2]
    refine g_iload_n dX7_findKey_2 rfl rfl ?_
    refine g_bipush dX7_findKey_3 (by decide) ?_
    refine g_icmpge (tgt := 27) dX7_findKey_5 (by decide) ?_ ?_
    · refine g_aload_n dX7_findKey_8 rfl rfl ?_
      refine g_getr' (q := 113) fl_RX7_11 kh_5 (by decide) rfl dX7_findKey_9 ?_
      refine g_iload_n dX7_findKey_12 rfl rfl ?_
      refine g_lald kh_113 dX7_findKey_13 ?_
      intro x1
      refine g_lload_n dX7_findKey_14 rfl rfl ?_
      refine g_lcmpne (tgt := 21) dX7_findKey_15 dX7_findKey_16 (by decide) ?_ ?_
      · refine g_iload_n dX7_findKey_19 rfl rfl ?_
        exact g_iret dX7_findKey_20
      · refine n_iinc (fun x2 => [some (.inr (.inr 5)), some (.inr (.inl a1)), none, some (.inl x2)]) dX7_findKey_21 rfl (Nat.le_of_ble_eq_true rfl) (fun _ => rfl) ?_
        intro x2
        refine g_goto (tgt := 2) dX7_findKey_24 (by decide) ?_
        exact (ih x2 σ)
    · refine g_iconst dX7_findKey_27 (by decide) ?_
      exact g_iret dX7_findKey_28
def To_findKey (a1 : Int) (σ : Sg) : Rs := (To_findKey_L2 a1 fu 0 σ)
theorem ok_To_findKey (a1 : Int) (σ : Sg) : MC l Kh Ph yX7_findKey cX7_findKey 4 0 1 [.inr (.inr 5), .inr (.inl a1)] σ (To_findKey a1 σ) := by
  refine mc_of (by decide) (Nat.le_of_ble_eq_true rfl) ?_
  change G l Kh Ph RX7 cX7_findKey 4 0 1 0 [some (.inr (.inr 5)), some (.inr (.inl a1)), none, none] [] σ (To_findKey a1 σ)
  unfold To_findKey
  refine g_iconst dX7_findKey_0 (by decide) ?_
  refine g_istore_n (lv' := [some (.inr (.inr 5)), some (.inr (.inl a1)), none, some (.inl 0)]) dX7_findKey_1 rfl (Nat.le_of_ble_eq_true rfl) rfl ?_
  refine (ok_To_findKey_L2 a1 fu 0 σ)
theorem dX7_splitLetters_0 : decode cX7_splitLetters 0 = .ok (.iload_n 1, 1) := by decide +kernel
theorem dX7_splitLetters_1 : decode cX7_splitLetters 1 = .ok (.istore_n 2, 1) := by decide +kernel
theorem dX7_splitLetters_2 : decode cX7_splitLetters 2 = .ok (.lconst 0, 1) := by decide +kernel
theorem dX7_splitLetters_3 : decode cX7_splitLetters 3 = .ok (.lstore_n 3, 1) := by decide +kernel
theorem dX7_splitLetters_4 : decode cX7_splitLetters 4 = .ok (.iload_n 2, 1) := by decide +kernel
theorem dX7_splitLetters_5 : decode cX7_splitLetters 5 = .ok (.aload_n 0, 1) := by decide +kernel
theorem dX7_splitLetters_6 : decode cX7_splitLetters 6 = .ok (.getfield 55, 3) := by decide +kernel
theorem dX7_splitLetters_9 : decode cX7_splitLetters 9 = .ok (.if_icmp .ge 30, 3) := by decide +kernel
theorem dX7_splitLetters_12 : decode cX7_splitLetters 12 = .ok (.aload_n 0, 1) := by decide +kernel
theorem dX7_splitLetters_13 : decode cX7_splitLetters 13 = .ok (.iload_n 2, 1) := by decide +kernel
theorem dX7_splitLetters_14 : decode cX7_splitLetters 14 = .ok (.invokevirtual 66, 3) := by decide +kernel
theorem dX7_splitLetters_17 : decode cX7_splitLetters 17 = .ok (.invokestatic 70, 3) := by decide +kernel
theorem dX7_splitLetters_20 : decode cX7_splitLetters 20 = .ok (.ifCond .eq 19, 3) := by decide +kernel
theorem dX7_splitLetters_23 : decode cX7_splitLetters 23 = .ok (.lload_n 3, 1) := by decide +kernel
theorem dX7_splitLetters_24 : decode cX7_splitLetters 24 = .ok (.aload_n 0, 1) := by decide +kernel
theorem dX7_splitLetters_25 : decode cX7_splitLetters 25 = .ok (.iload_n 2, 1) := by decide +kernel
theorem dX7_splitLetters_26 : decode cX7_splitLetters 26 = .ok (.invokevirtual 66, 3) := by decide +kernel
theorem dX7_splitLetters_29 : decode cX7_splitLetters 29 = .ok (.invokestatic 38, 3) := by decide +kernel
theorem dX7_splitLetters_32 : decode cX7_splitLetters 32 = .ok (.lstore_n 3, 1) := by decide +kernel
theorem dX7_splitLetters_33 : decode cX7_splitLetters 33 = .ok (.iinc 2 1, 3) := by decide +kernel
theorem dX7_splitLetters_36 : decode cX7_splitLetters 36 = .ok (.goto (-32), 3) := by decide +kernel
theorem dX7_splitLetters_39 : decode cX7_splitLetters 39 = .ok (.iload_n 2, 1) := by decide +kernel
theorem dX7_splitLetters_40 : decode cX7_splitLetters 40 = .ok (.iload_n 1, 1) := by decide +kernel
theorem dX7_splitLetters_41 : decode cX7_splitLetters 41 = .ok (.isub, 1) := by decide +kernel
theorem dX7_splitLetters_42 : decode cX7_splitLetters 42 = .ok (.bipush 8, 2) := by decide +kernel
theorem dX7_splitLetters_44 : decode cX7_splitLetters 44 = .ok (.if_icmp .le 12, 3) := by decide +kernel
theorem dX7_splitLetters_47 : decode cX7_splitLetters 47 = .ok (.aload_n 0, 1) := by decide +kernel
theorem dX7_splitLetters_48 : decode cX7_splitLetters 48 = .ok (.iconst 4, 1) := by decide +kernel
theorem dX7_splitLetters_49 : decode cX7_splitLetters 49 = .ok (.iload_n 1, 1) := by decide +kernel
theorem dX7_splitLetters_50 : decode cX7_splitLetters 50 = .ok (.lconst 0, 1) := by decide +kernel
theorem dX7_splitLetters_51 : decode cX7_splitLetters 51 = .ok (.invokevirtual 87, 3) := by decide +kernel
theorem dX7_splitLetters_54 : decode cX7_splitLetters 54 = .ok (.iload_n 2, 1) := by decide +kernel
theorem dX7_splitLetters_55 : decode cX7_splitLetters 55 = .ok (.ireturn, 1) := by decide +kernel
theorem dX7_splitLetters_56 : decode cX7_splitLetters 56 = .ok (.aload_n 0, 1) := by decide +kernel
theorem dX7_splitLetters_57 : decode cX7_splitLetters 57 = .ok (.lload_n 3, 1) := by decide +kernel
theorem dX7_splitLetters_58 : decode cX7_splitLetters 58 = .ok (.invokevirtual 94, 3) := by decide +kernel
theorem dX7_splitLetters_61 : decode cX7_splitLetters 61 = .ok (.istore 5, 2) := by decide +kernel
theorem dX7_splitLetters_63 : decode cX7_splitLetters 63 = .ok (.aload_n 0, 1) := by decide +kernel
theorem dX7_splitLetters_64 : decode cX7_splitLetters 64 = .ok (.iload 5, 2) := by decide +kernel
theorem dX7_splitLetters_66 : decode cX7_splitLetters 66 = .ok (.iconst (-1), 1) := by decide +kernel
theorem dX7_splitLetters_67 : decode cX7_splitLetters 67 = .ok (.if_icmp .ne 7, 3) := by decide +kernel
theorem dX7_splitLetters_70 : decode cX7_splitLetters 70 = .ok (.iconst 3, 1) := by decide +kernel
theorem dX7_splitLetters_71 : decode cX7_splitLetters 71 = .ok (.goto 4, 3) := by decide +kernel
theorem dX7_splitLetters_74 : decode cX7_splitLetters 74 = .ok (.iconst 2, 1) := by decide +kernel
theorem dX7_splitLetters_75 : decode cX7_splitLetters 75 = .ok (.iload_n 1, 1) := by decide +kernel
theorem dX7_splitLetters_76 : decode cX7_splitLetters 76 = .ok (.iload 5, 2) := by decide +kernel
theorem dX7_splitLetters_78 : decode cX7_splitLetters 78 = .ok (.iconst (-1), 1) := by decide +kernel
theorem dX7_splitLetters_79 : decode cX7_splitLetters 79 = .ok (.if_icmp .ne 7, 3) := by decide +kernel
theorem dX7_splitLetters_82 : decode cX7_splitLetters 82 = .ok (.lload_n 3, 1) := by decide +kernel
theorem dX7_splitLetters_83 : decode cX7_splitLetters 83 = .ok (.goto 6, 3) := by decide +kernel
theorem dX7_splitLetters_86 : decode cX7_splitLetters 86 = .ok (.iload 5, 2) := by decide +kernel
theorem dX7_splitLetters_88 : decode cX7_splitLetters 88 = .ok (.i2l, 1) := by decide +kernel
theorem dX7_splitLetters_89 : decode cX7_splitLetters 89 = .ok (.invokevirtual 87, 3) := by decide +kernel
theorem dX7_splitLetters_92 : decode cX7_splitLetters 92 = .ok (.iload_n 2, 1) := by decide +kernel
theorem dX7_splitLetters_93 : decode cX7_splitLetters 93 = .ok (.ireturn, 1) := by decide +kernel
theorem mw_X7_splitLetters : MW yX7_splitLetters cX7_splitLetters 6 0 1 false := ⟨tm 812 (by decide +kernel) rfl, tm 237 (by decide +kernel) rfl, by decide, by decide, (by rw [if_neg (by decide)]; exact ⟨tm 811 (by decide +kernel) rfl, tm 18 (by decide +kernel) rfl⟩)⟩
theorem lk_RX7_38 : LK RX7 38 yX7_codeWith := Or.inl (tm 336 (by decide +kernel) rfl)
theorem lk_RX7_66 : LK RX7 66 yX7_byteAt := Or.inl (tm 802 (by decide +kernel) rfl)
theorem lk_RX7_70 : LK RX7 70 yX7_isLetter := Or.inl (tm 806 (by decide +kernel) rfl)
theorem lk_RX7_87 : LK RX7 87 yX7_add := Or.inl (tm 813 (by decide +kernel) rfl)
theorem lk_RX7_94 : LK RX7 94 yX7_findKey := Or.inl (tm 817 (by decide +kernel) rfl)
def To_splitLetters_L4 (a1 : Int) (k39 : Int → Int → Sg → Rs) : Nat → Int → Int → Sg → Rs
  | 0, _, _, _ => none
  | n + 1, v2, v3, σ => (if v2 < (σ 5 2) then (bd (To_byteAt v2 σ) (fun r1 s2 => (bd (To_isLetter r1 s2) (fun r3 s4 => (if r3 = 0 then (k39 v2 v3 s4) else (bd (To_byteAt v2 s4) (fun r5 s6 => (bd (To_codeWith v3 r5 s6) (fun r7 s8 => (nm (w32 (v2 + 1)) (fun x9 => (To_splitLetters_L4 a1 k39 n x9 r7 s8)))))))))))) else (k39 v2 v3 σ))
theorem ok_To_splitLetters_L4 (a1 : Int) (k39 : Int → Int → Sg → Rs) (hk39 : ∀ (y2 y3 : Int) (σ : Sg), G l Kh Ph RX7 cX7_splitLetters 6 0 2 39 [some (.inr (.inr 5)), some (.inl a1), some (.inl y2), some (.inr (.inl y3)), none, none] [] σ (k39 y2 y3 σ)) : ∀ (n : Nat) (v2 v3 : Int) (σ : Sg), G l Kh Ph RX7 cX7_splitLetters 6 0 2 4 [some (.inr (.inr 5)), some (.inl a1), some (.inl v2), some (.inr (.inl v3)), none, none] [] σ (To_splitLetters_L4 a1 k39 n v2 v3 σ) := by
  intro n
  induction n with
  | zero => intros; exact G.none_
  | succ n ih =>
    intro v2 v3 σ
    rw [To_splitLetters_L4]
    refine g_iload_n dX7_splitLetters_4 rfl rfl ?_
    refine g_aload_n dX7_splitLetters_5 rfl rfl ?_
    refine g_geti fl_RX7_55 kh_5 (by decide) dX7_splitLetters_6 ?_
    refine g_icmpge (tgt := 39) dX7_splitLetters_9 (by decide) ?_ ?_
    · refine g_aload_n dX7_splitLetters_12 rfl rfl ?_
      refine g_iload_n dX7_splitLetters_13 rfl rfl ?_
      refine g_callv0 (st := []) 6 mw_X7_byteAt lk_RX7_66 rfl kh_5 (ok_To_byteAt v2 σ) (Nat.le_of_ble_eq_true rfl) rfl rfl (Nat.le_of_ble_eq_true rfl) dX7_splitLetters_14 ?_
      intro r1 s2
      refine g_calls3 (st := []) mw_X7_isLetter lk_RX7_70 (ok_To_isLetter r1 s2) (Nat.le_of_ble_eq_true rfl) rfl rfl (Nat.le_of_ble_eq_true rfl) dX7_splitLetters_17 ?_
      intro r3 s4
      refine g_ifeq (tgt := 39) dX7_splitLetters_20 (by decide) ?_ ?_
      · exact (hk39 v2 v3 s4)
      · refine g_lload_n dX7_splitLetters_23 rfl rfl ?_
        refine g_aload_n dX7_splitLetters_24 rfl rfl ?_
        refine g_iload_n dX7_splitLetters_25 rfl rfl ?_
        refine g_callv0 (st := [.inr (.inl v3)]) 6 mw_X7_byteAt lk_RX7_66 rfl kh_5 (ok_To_byteAt v2 s4) (Nat.le_of_ble_eq_true rfl) rfl rfl (Nat.le_of_ble_eq_true rfl) dX7_splitLetters_26 ?_
        intro r5 s6
        refine g_calls1 (st := []) mw_X7_codeWith lk_RX7_38 (ok_To_codeWith v3 r5 s6) (Nat.le_of_ble_eq_true rfl) rfl rfl (Nat.le_of_ble_eq_true rfl) dX7_splitLetters_29 ?_
        intro r7 s8
        refine g_lstore_n (lv' := [some (.inr (.inr 5)), some (.inl a1), some (.inl v2), some (.inr (.inl r7)), none, none]) dX7_splitLetters_32 rfl (Nat.le_of_ble_eq_true rfl) rfl ?_
        refine n_iinc (fun x9 => [some (.inr (.inr 5)), some (.inl a1), some (.inl x9), some (.inr (.inl r7)), none, none]) dX7_splitLetters_33 rfl (Nat.le_of_ble_eq_true rfl) (fun _ => rfl) ?_
        intro x9
        refine g_goto (tgt := 4) dX7_splitLetters_36 (by decide) ?_
        exact (ih x9 r7 s8)
    · exact (hk39 v2 v3 σ)
def To_splitLetters_J75 (a1 : Int) (v2 : Int) (v3 : Int) (v5 : Int) (t1 : Int) (σ : Sg) : Rs := (if v5 = (-1) then (bd (To_add t1 a1 v3 σ) (fun r17 s18 => (some (v2, s18)))) else (bd (To_add t1 a1 v5 σ) (fun r19 s20 => (some (v2, s20)))))
theorem ok_To_splitLetters_J75 (a1 : Int) (v2 : Int) (v3 : Int) (v5 : Int) : ∀ (t1 : Int) (σ : Sg), G l Kh Ph RX7 cX7_splitLetters 6 0 2 75 [none, some (.inl a1), some (.inl v2), some (.inr (.inl v3)), none, some (.inl v5)] [.inl t1, .inr (.inr 5)] σ (To_splitLetters_J75 a1 v2 v3 v5 t1 σ) := by
  intro t1 σ
  unfold To_splitLetters_J75
  refine g_iload_n dX7_splitLetters_75 rfl rfl ?_
  refine g_iload dX7_splitLetters_76 rfl ?_
  refine g_iconst dX7_splitLetters_78 (by decide) ?_
  refine g_icmpne (tgt := 86) dX7_splitLetters_79 (by decide) ?_ ?_
  · refine g_lload_n dX7_splitLetters_82 rfl rfl ?_
    refine g_goto (tgt := 89) dX7_splitLetters_83 (by decide) ?_
    refine g_callv2 (st := []) 6 mw_X7_add lk_RX7_87 rfl kh_5 (ok_To_add t1 a1 v3 σ) (Nat.le_of_ble_eq_true rfl) rfl rfl (Nat.le_of_ble_eq_true rfl) dX7_splitLetters_89 ?_
    intro r17 s18
    refine g_iload_n dX7_splitLetters_92 rfl rfl ?_
    exact g_iret dX7_splitLetters_93
  · refine g_iload dX7_splitLetters_86 rfl ?_
    refine g_i2l dX7_splitLetters_88 ?_
    refine g_callv2 (st := []) 6 mw_X7_add lk_RX7_87 rfl kh_5 (ok_To_add t1 a1 v5 σ) (Nat.le_of_ble_eq_true rfl) rfl rfl (Nat.le_of_ble_eq_true rfl) dX7_splitLetters_89 ?_
    intro r19 s20
    refine g_iload_n dX7_splitLetters_92 rfl rfl ?_
    exact g_iret dX7_splitLetters_93
def To_splitLetters_J39 (a1 : Int) (v2 : Int) (v3 : Int) (σ : Sg) : Rs := (if 8 < (w32 (v2 - a1)) then (bd (To_add 4 a1 0 σ) (fun r13 s14 => (some (v2, s14)))) else (bd (To_findKey v3 σ) (fun r15 s16 => (if r15 = (-1) then (To_splitLetters_J75 a1 v2 v3 r15 3 s16) else (To_splitLetters_J75 a1 v2 v3 r15 2 s16)))))
theorem ok_To_splitLetters_J39 (a1 : Int) (v2 : Int) (v3 : Int) : ∀ (σ : Sg), G l Kh Ph RX7 cX7_splitLetters 6 0 2 39 [some (.inr (.inr 5)), some (.inl a1), some (.inl v2), some (.inr (.inl v3)), none, none] [] σ (To_splitLetters_J39 a1 v2 v3  σ) := by
  intro σ
  unfold To_splitLetters_J39
  refine g_iload_n dX7_splitLetters_39 rfl rfl ?_
  refine g_iload_n dX7_splitLetters_40 rfl rfl ?_
  refine g_isub dX7_splitLetters_41 ?_
  refine g_bipush dX7_splitLetters_42 (by decide) ?_
  refine g_icmple (tgt := 56) dX7_splitLetters_44 (by decide) ?_ ?_
  · refine g_aload_n dX7_splitLetters_47 rfl rfl ?_
    refine g_iconst dX7_splitLetters_48 (by decide) ?_
    refine g_iload_n dX7_splitLetters_49 rfl rfl ?_
    refine g_lconst (v := 0) dX7_splitLetters_50 (by decide) ?_
    refine g_callv2 (st := []) 6 mw_X7_add lk_RX7_87 rfl kh_5 (ok_To_add 4 a1 0 σ) (Nat.le_of_ble_eq_true rfl) rfl rfl (Nat.le_of_ble_eq_true rfl) dX7_splitLetters_51 ?_
    intro r13 s14
    refine g_iload_n dX7_splitLetters_54 rfl rfl ?_
    exact g_iret dX7_splitLetters_55
  · refine g_aload_n dX7_splitLetters_56 rfl rfl ?_
    refine g_lload_n dX7_splitLetters_57 rfl rfl ?_
    refine g_callv0 (st := []) 6 mw_X7_findKey lk_RX7_94 rfl kh_5 (ok_To_findKey v3 σ) (Nat.le_of_ble_eq_true rfl) rfl rfl (Nat.le_of_ble_eq_true rfl) dX7_splitLetters_58 ?_
    intro r15 s16
    refine g_istore (lv' := [some (.inr (.inr 5)), some (.inl a1), some (.inl v2), some (.inr (.inl v3)), none, some (.inl r15)]) dX7_splitLetters_61 (Nat.le_of_ble_eq_true rfl) rfl ?_
    refine g_aload_n dX7_splitLetters_63 rfl rfl ?_
    refine g_iload dX7_splitLetters_64 rfl ?_
    refine g_iconst dX7_splitLetters_66 (by decide) ?_
    refine g_icmpne (tgt := 74) dX7_splitLetters_67 (by decide) ?_ ?_
    · refine g_iconst dX7_splitLetters_70 (by decide) ?_
      refine g_goto (tgt := 75) dX7_splitLetters_71 (by decide) ?_
      refine (g_weak [false, true, true, true, false, true] (ok_To_splitLetters_J75 a1 v2 v3 r15 3 s16))
    · refine g_iconst dX7_splitLetters_74 (by decide) ?_
      refine (g_weak [false, true, true, true, false, true] (ok_To_splitLetters_J75 a1 v2 v3 r15 2 s16))
def To_splitLetters (a1 : Int) (σ : Sg) : Rs := (To_splitLetters_L4 a1 (fun x10 x11 s12 => (To_splitLetters_J39 a1 x10 x11 s12)) fu a1 0 σ)
theorem ok_To_splitLetters (a1 : Int) (σ : Sg) : MC l Kh Ph yX7_splitLetters cX7_splitLetters 6 0 2 [.inr (.inr 5), .inl a1] σ (To_splitLetters a1 σ) := by
  refine mc_of (by decide) (Nat.le_of_ble_eq_true rfl) ?_
  change G l Kh Ph RX7 cX7_splitLetters 6 0 2 0 [some (.inr (.inr 5)), some (.inl a1), none, none, none, none] [] σ (To_splitLetters a1 σ)
  unfold To_splitLetters
  refine g_iload_n dX7_splitLetters_0 rfl rfl ?_
  refine g_istore_n (lv' := [some (.inr (.inr 5)), some (.inl a1), some (.inl a1), none, none, none]) dX7_splitLetters_1 rfl (Nat.le_of_ble_eq_true rfl) rfl ?_
  refine g_lconst (v := 0) dX7_splitLetters_2 (by decide) ?_
  refine g_lstore_n (lv' := [some (.inr (.inr 5)), some (.inl a1), some (.inl a1), some (.inr (.inl 0)), none, none]) dX7_splitLetters_3 rfl (Nat.le_of_ble_eq_true rfl) rfl ?_
  refine (ok_To_splitLetters_L4 a1 _ ?_ fu a1 0 σ)
  · intro x10 x11 s12
    refine (ok_To_splitLetters_J39 a1 x10 x11 s12)
theorem dX7_splitNumber_0 : decode cX7_splitNumber 0 = .ok (.iload_n 1, 1) := by decide +kernel
theorem dX7_splitNumber_1 : decode cX7_splitNumber 1 = .ok (.istore_n 2, 1) := by decide +kernel
theorem dX7_splitNumber_2 : decode cX7_splitNumber 2 = .ok (.lconst 0, 1) := by decide +kernel
theorem dX7_splitNumber_3 : decode cX7_splitNumber 3 = .ok (.lstore_n 3, 1) := by decide +kernel
theorem dX7_splitNumber_4 : decode cX7_splitNumber 4 = .ok (.iload_n 2, 1) := by decide +kernel
theorem dX7_splitNumber_5 : decode cX7_splitNumber 5 = .ok (.aload_n 0, 1) := by decide +kernel
theorem dX7_splitNumber_6 : decode cX7_splitNumber 6 = .ok (.getfield 55, 3) := by decide +kernel
theorem dX7_splitNumber_9 : decode cX7_splitNumber 9 = .ok (.if_icmp .ge 37, 3) := by decide +kernel
theorem dX7_splitNumber_12 : decode cX7_splitNumber 12 = .ok (.aload_n 0, 1) := by decide +kernel
theorem dX7_splitNumber_13 : decode cX7_splitNumber 13 = .ok (.iload_n 2, 1) := by decide +kernel
theorem dX7_splitNumber_14 : decode cX7_splitNumber 14 = .ok (.invokevirtual 66, 3) := by decide +kernel
theorem dX7_splitNumber_17 : decode cX7_splitNumber 17 = .ok (.invokestatic 77, 3) := by decide +kernel
theorem dX7_splitNumber_20 : decode cX7_splitNumber 20 = .ok (.ifCond .eq 26, 3) := by decide +kernel
theorem dX7_splitNumber_23 : decode cX7_splitNumber 23 = .ok (.lload_n 3, 1) := by decide +kernel
theorem dX7_splitNumber_24 : decode cX7_splitNumber 24 = .ok (.ldc2_w 98, 3) := by decide +kernel
theorem dX7_splitNumber_27 : decode cX7_splitNumber 27 = .ok (.lmul, 1) := by decide +kernel
theorem dX7_splitNumber_28 : decode cX7_splitNumber 28 = .ok (.aload_n 0, 1) := by decide +kernel
theorem dX7_splitNumber_29 : decode cX7_splitNumber 29 = .ok (.iload_n 2, 1) := by decide +kernel
theorem dX7_splitNumber_30 : decode cX7_splitNumber 30 = .ok (.invokevirtual 66, 3) := by decide +kernel
theorem dX7_splitNumber_33 : decode cX7_splitNumber 33 = .ok (.i2l, 1) := by decide +kernel
theorem dX7_splitNumber_34 : decode cX7_splitNumber 34 = .ok (.ladd, 1) := by decide +kernel
theorem dX7_splitNumber_35 : decode cX7_splitNumber 35 = .ok (.ldc2_w 100, 3) := by decide +kernel
theorem dX7_splitNumber_38 : decode cX7_splitNumber 38 = .ok (.lsub, 1) := by decide +kernel
theorem dX7_splitNumber_39 : decode cX7_splitNumber 39 = .ok (.lstore_n 3, 1) := by decide +kernel
theorem dX7_splitNumber_40 : decode cX7_splitNumber 40 = .ok (.iinc 2 1, 3) := by decide +kernel
theorem dX7_splitNumber_43 : decode cX7_splitNumber 43 = .ok (.goto (-39), 3) := by decide +kernel
theorem dX7_splitNumber_46 : decode cX7_splitNumber 46 = .ok (.iload_n 2, 1) := by decide +kernel
theorem dX7_splitNumber_47 : decode cX7_splitNumber 47 = .ok (.iload_n 1, 1) := by decide +kernel
theorem dX7_splitNumber_48 : decode cX7_splitNumber 48 = .ok (.isub, 1) := by decide +kernel
theorem dX7_splitNumber_49 : decode cX7_splitNumber 49 = .ok (.iconst 4, 1) := by decide +kernel
theorem dX7_splitNumber_50 : decode cX7_splitNumber 50 = .ok (.if_icmp .gt 7, 3) := by decide +kernel
theorem dX7_splitNumber_53 : decode cX7_splitNumber 53 = .ok (.iconst 1, 1) := by decide +kernel
theorem dX7_splitNumber_54 : decode cX7_splitNumber 54 = .ok (.goto 4, 3) := by decide +kernel
theorem dX7_splitNumber_57 : decode cX7_splitNumber 57 = .ok (.iconst 0, 1) := by decide +kernel
theorem dX7_splitNumber_58 : decode cX7_splitNumber 58 = .ok (.istore 5, 2) := by decide +kernel
theorem dX7_splitNumber_60 : decode cX7_splitNumber 60 = .ok (.aload_n 0, 1) := by decide +kernel
theorem dX7_splitNumber_61 : decode cX7_splitNumber 61 = .ok (.iload 5, 2) := by decide +kernel
theorem dX7_splitNumber_63 : decode cX7_splitNumber 63 = .ok (.ifCond .eq 7, 3) := by decide +kernel
theorem dX7_splitNumber_66 : decode cX7_splitNumber 66 = .ok (.iconst 5, 1) := by decide +kernel
theorem dX7_splitNumber_67 : decode cX7_splitNumber 67 = .ok (.goto 4, 3) := by decide +kernel
theorem dX7_splitNumber_70 : decode cX7_splitNumber 70 = .ok (.iconst 1, 1) := by decide +kernel
theorem dX7_splitNumber_71 : decode cX7_splitNumber 71 = .ok (.iload_n 1, 1) := by decide +kernel
theorem dX7_splitNumber_72 : decode cX7_splitNumber 72 = .ok (.iload 5, 2) := by decide +kernel
theorem dX7_splitNumber_74 : decode cX7_splitNumber 74 = .ok (.ifCond .eq 7, 3) := by decide +kernel
theorem dX7_splitNumber_77 : decode cX7_splitNumber 77 = .ok (.lload_n 3, 1) := by decide +kernel
theorem dX7_splitNumber_78 : decode cX7_splitNumber 78 = .ok (.goto 4, 3) := by decide +kernel
theorem dX7_splitNumber_81 : decode cX7_splitNumber 81 = .ok (.lconst 0, 1) := by decide +kernel
theorem dX7_splitNumber_82 : decode cX7_splitNumber 82 = .ok (.invokevirtual 87, 3) := by decide +kernel
theorem dX7_splitNumber_85 : decode cX7_splitNumber 85 = .ok (.iload_n 2, 1) := by decide +kernel
theorem dX7_splitNumber_86 : decode cX7_splitNumber 86 = .ok (.ireturn, 1) := by decide +kernel
theorem mw_X7_splitNumber : MW yX7_splitNumber cX7_splitNumber 6 0 1 false := ⟨tm 827 (by decide +kernel) rfl, tm 237 (by decide +kernel) rfl, by decide, by decide, (by rw [if_neg (by decide)]; exact ⟨tm 826 (by decide +kernel) rfl, tm 21 (by decide +kernel) rfl⟩)⟩
theorem lk_RX7_77 : LK RX7 77 yX7_isDigit := Or.inl (tm 821 (by decide +kernel) rfl)
def To_splitNumber_L4 (a1 : Int) (k46 : Int → Int → Sg → Rs) : Nat → Int → Int → Sg → Rs
  | 0, _, _, _ => none
  | n + 1, v2, v3, σ => (if v2 < (σ 5 2) then (bd (To_byteAt v2 σ) (fun r1 s2 => (bd (To_isDigit r1 s2) (fun r3 s4 => (if r3 = 0 then (k46 v2 v3 s4) else (bd (To_byteAt v2 s4) (fun r5 s6 => (nm (w64 ((w64 ((w64 (v3 * 10)) + r5)) - 48)) (fun x7 => (nm (w32 (v2 + 1)) (fun x8 => (To_splitNumber_L4 a1 k46 n x8 x7 s6)))))))))))) else (k46 v2 v3 σ))
theorem ok_To_splitNumber_L4 (a1 : Int) (k46 : Int → Int → Sg → Rs) (hk46 : ∀ (y2 y3 : Int) (σ : Sg), G l Kh Ph RX7 cX7_splitNumber 6 0 2 46 [some (.inr (.inr 5)), some (.inl a1), some (.inl y2), some (.inr (.inl y3)), none, none] [] σ (k46 y2 y3 σ)) : ∀ (n : Nat) (v2 v3 : Int) (σ : Sg), G l Kh Ph RX7 cX7_splitNumber 6 0 2 4 [some (.inr (.inr 5)), some (.inl a1), some (.inl v2), some (.inr (.inl v3)), none, none] [] σ (To_splitNumber_L4 a1 k46 n v2 v3 σ) := by
  intro n
  induction n with
  | zero => intros; exact G.none_
  | succ n ih =>
    intro v2 v3 σ
    rw [To_splitNumber_L4]
    refine g_iload_n dX7_splitNumber_4 rfl rfl ?_
    refine g_aload_n dX7_splitNumber_5 rfl rfl ?_
    refine g_geti fl_RX7_55 kh_5 (by decide) dX7_splitNumber_6 ?_
    refine g_icmpge (tgt := 46) dX7_splitNumber_9 (by decide) ?_ ?_
    · refine g_aload_n dX7_splitNumber_12 rfl rfl ?_
      refine g_iload_n dX7_splitNumber_13 rfl rfl ?_
      refine g_callv0 (st := []) 6 mw_X7_byteAt lk_RX7_66 rfl kh_5 (ok_To_byteAt v2 σ) (Nat.le_of_ble_eq_true rfl) rfl rfl (Nat.le_of_ble_eq_true rfl) dX7_splitNumber_14 ?_
      intro r1 s2
      refine g_calls3 (st := []) mw_X7_isDigit lk_RX7_77 (ok_To_isDigit r1 s2) (Nat.le_of_ble_eq_true rfl) rfl rfl (Nat.le_of_ble_eq_true rfl) dX7_splitNumber_17 ?_
      intro r3 s4
      refine g_ifeq (tgt := 46) dX7_splitNumber_20 (by decide) ?_ ?_
      · exact (hk46 v2 v3 s4)
      · refine g_lload_n dX7_splitNumber_23 rfl rfl ?_
        refine g_ldc2 (n := 10) (tm 828 (by decide +kernel) rfl) (by decide) dX7_splitNumber_24 ?_
        refine g_lmul dX7_splitNumber_27 ?_
        refine g_aload_n dX7_splitNumber_28 rfl rfl ?_
        refine g_iload_n dX7_splitNumber_29 rfl rfl ?_
        refine g_callv0 (st := [.inr (.inl (w64 (v3 * 10)))]) 6 mw_X7_byteAt lk_RX7_66 rfl kh_5 (ok_To_byteAt v2 s4) (Nat.le_of_ble_eq_true rfl) rfl rfl (Nat.le_of_ble_eq_true rfl) dX7_splitNumber_30 ?_
        intro r5 s6
        refine g_i2l dX7_splitNumber_33 ?_
        refine g_ladd dX7_splitNumber_34 ?_
        refine g_ldc2 (n := 48) (tm 829 (by decide +kernel) rfl) (by decide) dX7_splitNumber_35 ?_
        refine g_lsub dX7_splitNumber_38 ?_
        refine n_lstore_n (fun x7 => [some (.inr (.inr 5)), some (.inl a1), some (.inl v2), some (.inr (.inl x7)), none, none]) dX7_splitNumber_39 rfl (Nat.le_of_ble_eq_true rfl) (fun _ => rfl) ?_
        intro x7
        refine n_iinc (fun x8 => [some (.inr (.inr 5)), some (.inl a1), some (.inl x8), some (.inr (.inl x7)), none, none]) dX7_splitNumber_40 rfl (Nat.le_of_ble_eq_true rfl) (fun _ => rfl) ?_
        intro x8
        refine g_goto (tgt := 4) dX7_splitNumber_43 (by decide) ?_
        exact (ih x8 x7 s6)
    · exact (hk46 v2 v3 σ)
def To_splitNumber_J71 (a1 : Int) (v2 : Int) (v3 : Int) (v5 : Int) (t1 : Int) (σ : Sg) : Rs := (if v5 = 0 then (bd (To_add t1 a1 0 σ) (fun r12 s13 => (some (v2, s13)))) else (bd (To_add t1 a1 v3 σ) (fun r14 s15 => (some (v2, s15)))))
theorem ok_To_splitNumber_J71 (a1 : Int) (v2 : Int) (v3 : Int) (v5 : Int) : ∀ (t1 : Int) (σ : Sg), G l Kh Ph RX7 cX7_splitNumber 6 0 2 71 [none, some (.inl a1), some (.inl v2), some (.inr (.inl v3)), none, some (.inl v5)] [.inl t1, .inr (.inr 5)] σ (To_splitNumber_J71 a1 v2 v3 v5 t1 σ) := by
  intro t1 σ
  unfold To_splitNumber_J71
  refine g_iload_n dX7_splitNumber_71 rfl rfl ?_
  refine g_iload dX7_splitNumber_72 rfl ?_
  refine g_ifeq (tgt := 81) dX7_splitNumber_74 (by decide) ?_ ?_
  · refine g_lconst (v := 0) dX7_splitNumber_81 (by decide) ?_
    refine g_callv2 (st := []) 6 mw_X7_add lk_RX7_87 rfl kh_5 (ok_To_add t1 a1 0 σ) (Nat.le_of_ble_eq_true rfl) rfl rfl (Nat.le_of_ble_eq_true rfl) dX7_splitNumber_82 ?_
    intro r12 s13
    refine g_iload_n dX7_splitNumber_85 rfl rfl ?_
    exact g_iret dX7_splitNumber_86
  · refine g_lload_n dX7_splitNumber_77 rfl rfl ?_
    refine g_goto (tgt := 82) dX7_splitNumber_78 (by decide) ?_
    refine g_callv2 (st := []) 6 mw_X7_add lk_RX7_87 rfl kh_5 (ok_To_add t1 a1 v3 σ) (Nat.le_of_ble_eq_true rfl) rfl rfl (Nat.le_of_ble_eq_true rfl) dX7_splitNumber_82 ?_
    intro r14 s15
    refine g_iload_n dX7_splitNumber_85 rfl rfl ?_
    exact g_iret dX7_splitNumber_86
def To_splitNumber_J58 (a1 : Int) (v2 : Int) (v3 : Int) (t0 : Int) (σ : Sg) : Rs := (if t0 = 0 then (To_splitNumber_J71 a1 v2 v3 t0 1 σ) else (To_splitNumber_J71 a1 v2 v3 t0 5 σ))
theorem ok_To_splitNumber_J58 (a1 : Int) (v2 : Int) (v3 : Int) : ∀ (t0 : Int) (σ : Sg), G l Kh Ph RX7 cX7_splitNumber 6 0 2 58 [some (.inr (.inr 5)), some (.inl a1), some (.inl v2), some (.inr (.inl v3)), none, none] [.inl t0] σ (To_splitNumber_J58 a1 v2 v3 t0 σ) := by
  intro t0 σ
  unfold To_splitNumber_J58
  refine g_istore (lv' := [some (.inr (.inr 5)), some (.inl a1), some (.inl v2), some (.inr (.inl v3)), none, some (.inl t0)]) dX7_splitNumber_58 (Nat.le_of_ble_eq_true rfl) rfl ?_
  refine g_aload_n dX7_splitNumber_60 rfl rfl ?_
  refine g_iload dX7_splitNumber_61 rfl ?_
  refine g_ifeq (tgt := 70) dX7_splitNumber_63 (by decide) ?_ ?_
  · refine g_iconst dX7_splitNumber_70 (by decide) ?_
    refine (g_weak [false, true, true, true, false, true] (ok_To_splitNumber_J71 a1 v2 v3 t0 1 σ))
  · refine g_iconst dX7_splitNumber_66 (by decide) ?_
    refine g_goto (tgt := 71) dX7_splitNumber_67 (by decide) ?_
    refine (g_weak [false, true, true, true, false, true] (ok_To_splitNumber_J71 a1 v2 v3 t0 5 σ))
def To_splitNumber_J46 (a1 : Int) (v2 : Int) (v3 : Int) (σ : Sg) : Rs := (if 4 < (w32 (v2 - a1)) then (To_splitNumber_J58 a1 v2 v3 0 σ) else (To_splitNumber_J58 a1 v2 v3 1 σ))
theorem ok_To_splitNumber_J46 (a1 : Int) (v2 : Int) (v3 : Int) : ∀ (σ : Sg), G l Kh Ph RX7 cX7_splitNumber 6 0 2 46 [some (.inr (.inr 5)), some (.inl a1), some (.inl v2), some (.inr (.inl v3)), none, none] [] σ (To_splitNumber_J46 a1 v2 v3  σ) := by
  intro σ
  unfold To_splitNumber_J46
  refine g_iload_n dX7_splitNumber_46 rfl rfl ?_
  refine g_iload_n dX7_splitNumber_47 rfl rfl ?_
  refine g_isub dX7_splitNumber_48 ?_
  refine g_iconst dX7_splitNumber_49 (by decide) ?_
  refine g_icmpgt (tgt := 57) dX7_splitNumber_50 (by decide) ?_ ?_
  · refine g_iconst dX7_splitNumber_57 (by decide) ?_
    refine (ok_To_splitNumber_J58 a1 v2 v3 0 σ)
  · refine g_iconst dX7_splitNumber_53 (by decide) ?_
    refine g_goto (tgt := 58) dX7_splitNumber_54 (by decide) ?_
    refine (ok_To_splitNumber_J58 a1 v2 v3 1 σ)
def To_splitNumber (a1 : Int) (σ : Sg) : Rs := (To_splitNumber_L4 a1 (fun x9 x10 s11 => (To_splitNumber_J46 a1 x9 x10 s11)) fu a1 0 σ)
theorem ok_To_splitNumber (a1 : Int) (σ : Sg) : MC l Kh Ph yX7_splitNumber cX7_splitNumber 6 0 2 [.inr (.inr 5), .inl a1] σ (To_splitNumber a1 σ) := by
  refine mc_of (by decide) (Nat.le_of_ble_eq_true rfl) ?_
  change G l Kh Ph RX7 cX7_splitNumber 6 0 2 0 [some (.inr (.inr 5)), some (.inl a1), none, none, none, none] [] σ (To_splitNumber a1 σ)
  unfold To_splitNumber
  refine g_iload_n dX7_splitNumber_0 rfl rfl ?_
  refine g_istore_n (lv' := [some (.inr (.inr 5)), some (.inl a1), some (.inl a1), none, none, none]) dX7_splitNumber_1 rfl (Nat.le_of_ble_eq_true rfl) rfl ?_
  refine g_lconst (v := 0) dX7_splitNumber_2 (by decide) ?_
  refine g_lstore_n (lv' := [some (.inr (.inr 5)), some (.inl a1), some (.inl a1), some (.inr (.inl 0)), none, none]) dX7_splitNumber_3 rfl (Nat.le_of_ble_eq_true rfl) rfl ?_
  refine (ok_To_splitNumber_L4 a1 _ ?_ fu a1 0 σ)
  · intro x9 x10 s11
    refine (ok_To_splitNumber_J46 a1 x9 x10 s11)
theorem dX7_splitSign_0 : decode cX7_splitSign 0 = .ok (.iload_n 2, 1) := by decide +kernel
theorem dX7_splitSign_1 : decode cX7_splitSign 1 = .ok (.bipush 59, 2) := by decide +kernel
theorem dX7_splitSign_3 : decode cX7_splitSign 3 = .ok (.if_icmp .eq 21, 3) := by decide +kernel
theorem dX7_splitSign_6 : decode cX7_splitSign 6 = .ok (.iload_n 2, 1) := by decide +kernel
theorem dX7_splitSign_7 : decode cX7_splitSign 7 = .ok (.bipush 60, 2) := by decide +kernel
theorem dX7_splitSign_9 : decode cX7_splitSign 9 = .ok (.if_icmp .eq 15, 3) := by decide +kernel
theorem dX7_splitSign_12 : decode cX7_splitSign 12 = .ok (.iload_n 2, 1) := by decide +kernel
theorem dX7_splitSign_13 : decode cX7_splitSign 13 = .ok (.bipush 62, 2) := by decide +kernel
theorem dX7_splitSign_15 : decode cX7_splitSign 15 = .ok (.if_icmp .eq 9, 3) := by decide +kernel
theorem dX7_splitSign_18 : decode cX7_splitSign 18 = .ok (.iload_n 2, 1) := by decide +kernel
theorem dX7_splitSign_19 : decode cX7_splitSign 19 = .ok (.bipush 61, 2) := by decide +kernel
theorem dX7_splitSign_21 : decode cX7_splitSign 21 = .ok (.if_icmp .ne 15, 3) := by decide +kernel
theorem dX7_splitSign_24 : decode cX7_splitSign 24 = .ok (.aload_n 0, 1) := by decide +kernel
theorem dX7_splitSign_25 : decode cX7_splitSign 25 = .ok (.bipush 6, 2) := by decide +kernel
theorem dX7_splitSign_27 : decode cX7_splitSign 27 = .ok (.iload_n 1, 1) := by decide +kernel
theorem dX7_splitSign_28 : decode cX7_splitSign 28 = .ok (.iload_n 2, 1) := by decide +kernel
theorem dX7_splitSign_29 : decode cX7_splitSign 29 = .ok (.i2l, 1) := by decide +kernel
theorem dX7_splitSign_30 : decode cX7_splitSign 30 = .ok (.invokevirtual 87, 3) := by decide +kernel
theorem dX7_splitSign_33 : decode cX7_splitSign 33 = .ok (.goto 22, 3) := by decide +kernel
theorem dX7_splitSign_36 : decode cX7_splitSign 36 = .ok (.iload_n 2, 1) := by decide +kernel
theorem dX7_splitSign_37 : decode cX7_splitSign 37 = .ok (.bipush 10, 2) := by decide +kernel
theorem dX7_splitSign_39 : decode cX7_splitSign 39 = .ok (.if_icmp .eq 16, 3) := by decide +kernel
theorem dX7_splitSign_42 : decode cX7_splitSign 42 = .ok (.iload_n 2, 1) := by decide +kernel
theorem dX7_splitSign_43 : decode cX7_splitSign 43 = .ok (.bipush 32, 2) := by decide +kernel
theorem dX7_splitSign_45 : decode cX7_splitSign 45 = .ok (.if_icmp .eq 10, 3) := by decide +kernel
theorem dX7_splitSign_48 : decode cX7_splitSign 48 = .ok (.aload_n 0, 1) := by decide +kernel
theorem dX7_splitSign_49 : decode cX7_splitSign 49 = .ok (.iconst 1, 1) := by decide +kernel
theorem dX7_splitSign_50 : decode cX7_splitSign 50 = .ok (.iload_n 1, 1) := by decide +kernel
theorem dX7_splitSign_51 : decode cX7_splitSign 51 = .ok (.lconst 0, 1) := by decide +kernel
theorem dX7_splitSign_52 : decode cX7_splitSign 52 = .ok (.invokevirtual 87, 3) := by decide +kernel
theorem dX7_splitSign_55 : decode cX7_splitSign 55 = .ok (.return_, 1) := by decide +kernel
theorem mw_X7_splitSign : MW yX7_splitSign cX7_splitSign 3 2 2 false := ⟨tm 833 (by decide +kernel) rfl, tm 237 (by decide +kernel) rfl, by decide, by decide, (by rw [if_neg (by decide)]; exact ⟨tm 832 (by decide +kernel) rfl, tm 22 (by decide +kernel) rfl⟩)⟩
def To_splitSign_J24 (a1 : Int) (a2 : Int) (σ : Sg) : Rs := (bd (To_add 6 a1 a2 σ) (fun r1 s2 => (some (0, s2))))
theorem ok_To_splitSign_J24 (a1 : Int) (a2 : Int) : ∀ (σ : Sg), G l Kh Ph RX7 cX7_splitSign 3 2 2 24 [some (.inr (.inr 5)), some (.inl a1), some (.inl a2)] [] σ (To_splitSign_J24 a1 a2  σ) := by
  intro σ
  unfold To_splitSign_J24
  refine g_aload_n dX7_splitSign_24 rfl rfl ?_
  refine g_bipush dX7_splitSign_25 (by decide) ?_
  refine g_iload_n dX7_splitSign_27 rfl rfl ?_
  refine g_iload_n dX7_splitSign_28 rfl rfl ?_
  refine g_i2l dX7_splitSign_29 ?_
  refine g_callv2 (st := []) 6 mw_X7_add lk_RX7_87 rfl kh_5 (ok_To_add 6 a1 a2 σ) (Nat.le_of_ble_eq_true rfl) rfl rfl (Nat.le_of_ble_eq_true rfl) dX7_splitSign_30 ?_
  intro r1 s2
  refine g_goto (tgt := 55) dX7_splitSign_33 (by decide) ?_
  exact g_vret dX7_splitSign_55
def To_splitSign (a1 : Int) (a2 : Int) (σ : Sg) : Rs := (if a2 = 59 then (To_splitSign_J24 a1 a2 σ) else (if a2 = 60 then (To_splitSign_J24 a1 a2 σ) else (if a2 = 62 then (To_splitSign_J24 a1 a2 σ) else (if a2 = 61 then (To_splitSign_J24 a1 a2 σ) else (if a2 = 10 then (some (0, σ)) else (if a2 = 32 then (some (0, σ)) else (bd (To_add 1 a1 0 σ) (fun r3 s4 => (some (0, s4))))))))))
theorem ok_To_splitSign (a1 : Int) (a2 : Int) (σ : Sg) : MC l Kh Ph yX7_splitSign cX7_splitSign 3 2 2 [.inr (.inr 5), .inl a1, .inl a2] σ (To_splitSign a1 a2 σ) := by
  refine mc_of (by decide) (Nat.le_of_ble_eq_true rfl) ?_
  change G l Kh Ph RX7 cX7_splitSign 3 2 2 0 [some (.inr (.inr 5)), some (.inl a1), some (.inl a2)] [] σ (To_splitSign a1 a2 σ)
  unfold To_splitSign
  refine g_iload_n dX7_splitSign_0 rfl rfl ?_
  refine g_bipush dX7_splitSign_1 (by decide) ?_
  refine g_icmpeq (tgt := 24) dX7_splitSign_3 (by decide) ?_ ?_
  · refine (ok_To_splitSign_J24 a1 a2 σ)
  · refine g_iload_n dX7_splitSign_6 rfl rfl ?_
    refine g_bipush dX7_splitSign_7 (by decide) ?_
    refine g_icmpeq (tgt := 24) dX7_splitSign_9 (by decide) ?_ ?_
    · refine (ok_To_splitSign_J24 a1 a2 σ)
    · refine g_iload_n dX7_splitSign_12 rfl rfl ?_
      refine g_bipush dX7_splitSign_13 (by decide) ?_
      refine g_icmpeq (tgt := 24) dX7_splitSign_15 (by decide) ?_ ?_
      · refine (ok_To_splitSign_J24 a1 a2 σ)
      · refine g_iload_n dX7_splitSign_18 rfl rfl ?_
        refine g_bipush dX7_splitSign_19 (by decide) ?_
        refine g_icmpne (tgt := 36) dX7_splitSign_21 (by decide) ?_ ?_
        · refine (ok_To_splitSign_J24 a1 a2 σ)
        · refine g_iload_n dX7_splitSign_36 rfl rfl ?_
          refine g_bipush dX7_splitSign_37 (by decide) ?_
          refine g_icmpeq (tgt := 55) dX7_splitSign_39 (by decide) ?_ ?_
          · exact g_vret dX7_splitSign_55
          · refine g_iload_n dX7_splitSign_42 rfl rfl ?_
            refine g_bipush dX7_splitSign_43 (by decide) ?_
            refine g_icmpeq (tgt := 55) dX7_splitSign_45 (by decide) ?_ ?_
            · exact g_vret dX7_splitSign_55
            · refine g_aload_n dX7_splitSign_48 rfl rfl ?_
              refine g_iconst dX7_splitSign_49 (by decide) ?_
              refine g_iload_n dX7_splitSign_50 rfl rfl ?_
              refine g_lconst (v := 0) dX7_splitSign_51 (by decide) ?_
              refine g_callv2 (st := []) 6 mw_X7_add lk_RX7_87 rfl kh_5 (ok_To_add 1 a1 0 σ) (Nat.le_of_ble_eq_true rfl) rfl rfl (Nat.le_of_ble_eq_true rfl) dX7_splitSign_52 ?_
              intro r3 s4
              exact g_vret dX7_splitSign_55
end WK
