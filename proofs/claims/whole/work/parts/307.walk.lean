section WK
variable {l : Launch}
theorem dX12_readKept_0 : decode cX12_readKept 0 = .ok (.iconst 0, 1) := by decide +kernel
theorem dX12_readKept_1 : decode cX12_readKept 1 = .ok (.istore_n 1, 1) := by decide +kernel
theorem dX12_readKept_2 : decode cX12_readKept 2 = .ok (.aload_n 0, 1) := by decide +kernel
theorem dX12_readKept_3 : decode cX12_readKept 3 = .ok (.getfield 211, 3) := by decide +kernel
theorem dX12_readKept_6 : decode cX12_readKept 6 = .ok (.ifCond .ne 56, 3) := by decide +kernel
theorem dX12_readKept_9 : decode cX12_readKept 9 = .ok (.aload_n 0, 1) := by decide +kernel
theorem dX12_readKept_10 : decode cX12_readKept 10 = .ok (.getfield 122, 3) := by decide +kernel
theorem dX12_readKept_13 : decode cX12_readKept 13 = .ok (.iconst 1, 1) := by decide +kernel
theorem dX12_readKept_14 : decode cX12_readKept 14 = .ok (.if_icmp .ne 48, 3) := by decide +kernel
theorem dX12_readKept_17 : decode cX12_readKept 17 = .ok (.aload_n 0, 1) := by decide +kernel
theorem dX12_readKept_18 : decode cX12_readKept 18 = .ok (.iconst 4, 1) := by decide +kernel
theorem dX12_readKept_19 : decode cX12_readKept 19 = .ok (.iconst 0, 1) := by decide +kernel
theorem dX12_readKept_20 : decode cX12_readKept 20 = .ok (.invokevirtual 249, 3) := by decide +kernel
theorem dX12_readKept_23 : decode cX12_readKept 23 = .ok (.istore_n 2, 1) := by decide +kernel
theorem dX12_readKept_24 : decode cX12_readKept 24 = .ok (.aload_n 0, 1) := by decide +kernel
theorem dX12_readKept_25 : decode cX12_readKept 25 = .ok (.getfield 211, 3) := by decide +kernel
theorem dX12_readKept_28 : decode cX12_readKept 28 = .ok (.ifCond .ne 20, 3) := by decide +kernel
theorem dX12_readKept_31 : decode cX12_readKept 31 = .ok (.iload_n 1, 1) := by decide +kernel
theorem dX12_readKept_32 : decode cX12_readKept 32 = .ok (.iload_n 2, 1) := by decide +kernel
theorem dX12_readKept_33 : decode cX12_readKept 33 = .ok (.invokestatic 106, 3) := by decide +kernel
theorem dX12_readKept_36 : decode cX12_readKept 36 = .ok (.ifCond .eq 12, 3) := by decide +kernel
theorem dX12_readKept_39 : decode cX12_readKept 39 = .ok (.aload_n 0, 1) := by decide +kernel
theorem dX12_readKept_40 : decode cX12_readKept 40 = .ok (.iconst 5, 1) := by decide +kernel
theorem dX12_readKept_41 : decode cX12_readKept 41 = .ok (.aload_n 0, 1) := by decide +kernel
theorem dX12_readKept_42 : decode cX12_readKept 42 = .ok (.getfield 116, 3) := by decide +kernel
theorem dX12_readKept_45 : decode cX12_readKept 45 = .ok (.invokevirtual 217, 3) := by decide +kernel
theorem dX12_readKept_48 : decode cX12_readKept 48 = .ok (.aload_n 0, 1) := by decide +kernel
theorem dX12_readKept_49 : decode cX12_readKept 49 = .ok (.iconst 1, 1) := by decide +kernel
theorem dX12_readKept_50 : decode cX12_readKept 50 = .ok (.invokevirtual 227, 3) := by decide +kernel
theorem dX12_readKept_53 : decode cX12_readKept 53 = .ok (.iload_n 1, 1) := by decide +kernel
theorem dX12_readKept_54 : decode cX12_readKept 54 = .ok (.iconst 1, 1) := by decide +kernel
theorem dX12_readKept_55 : decode cX12_readKept 55 = .ok (.iload_n 2, 1) := by decide +kernel
theorem dX12_readKept_56 : decode cX12_readKept 56 = .ok (.ishl, 1) := by decide +kernel
theorem dX12_readKept_57 : decode cX12_readKept 57 = .ok (.ior, 1) := by decide +kernel
theorem dX12_readKept_58 : decode cX12_readKept 58 = .ok (.istore_n 1, 1) := by decide +kernel
theorem dX12_readKept_59 : decode cX12_readKept 59 = .ok (.goto (-57), 3) := by decide +kernel
theorem dX12_readKept_62 : decode cX12_readKept 62 = .ok (.iload_n 1, 1) := by decide +kernel
theorem dX12_readKept_63 : decode cX12_readKept 63 = .ok (.ireturn, 1) := by decide +kernel
theorem mw_X12_readKept : MW yX12_readKept cX12_readKept 3 0 0 false := ⟨tm 1918 (by decide +kernel) rfl, tm 249 (by decide +kernel) rfl, by decide, by decide, (by rw [if_neg (by decide)]; exact ⟨tm 1917 (by decide +kernel) rfl, tm 160 (by decide +kernel) rfl⟩)⟩
def M_readKept_J48 (v1 : Int) (v2 : Int) (k2 : Int → Sg → Rs) (σ : Sg) : Rs := (bd (M_must 1 σ) (fun r5 s6 => (nm (or32 v1 (sl32 1 v2)) (fun x7 => (k2 x7 s6)))))
theorem ok_M_readKept_J48 (v1 : Int) (v2 : Int) (k2 : Int → Sg → Rs) (hk2 : ∀ (y1 : Int) (σ : Sg), G l Km Pm RX12 cX12_readKept 3 0 6 2 [some (.inr (.inr 0)), some (.inl y1), none] [] σ (k2 y1 σ)) : ∀ (σ : Sg), G l Km Pm RX12 cX12_readKept 3 0 6 48 [some (.inr (.inr 0)), some (.inl v1), some (.inl v2)] [] σ (M_readKept_J48 v1 v2 k2  σ) := by
  intro σ
  unfold M_readKept_J48
  refine g_aload_n dX12_readKept_48 rfl rfl ?_
  refine g_iconst dX12_readKept_49 (by decide) ?_
  refine g_callv2 (st := []) 10 mw_X12_must lk_RX12_227 rfl km_0 (ok_M_must 1 σ) (Nat.le_of_ble_eq_true rfl) rfl rfl (Nat.le_of_ble_eq_true rfl) dX12_readKept_50 ?_
  intro r5 s6
  refine g_iload_n dX12_readKept_53 rfl rfl ?_
  refine g_iconst dX12_readKept_54 (by decide) ?_
  refine g_iload_n dX12_readKept_55 rfl rfl ?_
  refine g_ishl dX12_readKept_56 ?_
  refine g_ior dX12_readKept_57 ?_
  refine n_istore_n (fun x7 => [some (.inr (.inr 0)), some (.inl x7), some (.inl v2)]) dX12_readKept_58 rfl (Nat.le_of_ble_eq_true rfl) (fun _ => rfl) ?_
  intro x7
  refine g_goto (tgt := 2) dX12_readKept_59 (by decide) ?_
  exact (g_weak [true, true, false] (hk2 x7 s6))
def M_readKept_L2  : Nat → Int → Sg → Rs
  | 0, _, _ => none
  | n + 1, v1, σ => (if (σ 0 12) = 0 then (if (σ 0 14) = 1 then (bd (M_told 4 0 σ) (fun r1 s2 => (if (s2 0 12) = 0 then (bd (M_has v1 r1 s2) (fun r3 s4 => (if r3 = 0 then (M_readKept_J48 v1 r1 (fun x8 s9 => (M_readKept_L2 n x8 s9)) s4) else (bd (M_fail 5 (s4 0 15) s4) (fun r10 s11 => (M_readKept_J48 v1 r1 (fun x12 s13 => (M_readKept_L2 n x12 s13)) s11)))))) else (M_readKept_J48 v1 r1 (fun x14 s15 => (M_readKept_L2 n x14 s15)) s2)))) else (some (v1, σ))) else (some (v1, σ)))
theorem ok_M_readKept_L2 : ∀ (n : Nat) (v1 : Int) (σ : Sg), G l Km Pm RX12 cX12_readKept 3 0 6 2 [some (.inr (.inr 0)), some (.inl v1), none] [] σ (M_readKept_L2  n v1 σ) := by
  intro n
  induction n with
  | zero => intros; exact G.none_
  | succ n ih =>
    intro v1 σ
    rw [M_readKept_L2]
    refine g_aload_n dX12_readKept_2 rfl rfl ?_
    refine g_geti fl_RX12_211 km_0 (by decide) dX12_readKept_3 ?_
    refine g_ifne (tgt := 62) dX12_readKept_6 (by decide) ?_ ?_
    · refine g_aload_n dX12_readKept_9 rfl rfl ?_
      refine g_geti fl_RX12_122 km_0 (by decide) dX12_readKept_10 ?_
      refine g_iconst dX12_readKept_13 (by decide) ?_
      refine g_icmpne (tgt := 62) dX12_readKept_14 (by decide) ?_ ?_
      · refine g_aload_n dX12_readKept_17 rfl rfl ?_
        refine g_iconst dX12_readKept_18 (by decide) ?_
        refine g_iconst dX12_readKept_19 (by decide) ?_
        refine g_callv0 (st := []) 10 mw_X12_told lk_RX12_249 rfl km_0 (ok_M_told 4 0 σ) (Nat.le_of_ble_eq_true rfl) rfl rfl (Nat.le_of_ble_eq_true rfl) dX12_readKept_20 ?_
        intro r1 s2
        refine g_istore_n (lv' := [some (.inr (.inr 0)), some (.inl v1), some (.inl r1)]) dX12_readKept_23 rfl (Nat.le_of_ble_eq_true rfl) rfl ?_
        refine g_aload_n dX12_readKept_24 rfl rfl ?_
        refine g_geti fl_RX12_211 km_0 (by decide) dX12_readKept_25 ?_
        refine g_ifne (tgt := 48) dX12_readKept_28 (by decide) ?_ ?_
        · refine g_iload_n dX12_readKept_31 rfl rfl ?_
          refine g_iload_n dX12_readKept_32 rfl rfl ?_
          refine g_calls3 (st := []) mw_X12_has lk_RX12_106 (ok_M_has v1 r1 s2) (Nat.le_of_ble_eq_true rfl) rfl rfl (Nat.le_of_ble_eq_true rfl) dX12_readKept_33 ?_
          intro r3 s4
          refine g_ifeq (tgt := 48) dX12_readKept_36 (by decide) ?_ ?_
          · refine (ok_M_readKept_J48 v1 r1 _ ?_ s4)
            · intro x8 s9
              exact (ih x8 s9)
          · refine g_aload_n dX12_readKept_39 rfl rfl ?_
            refine g_iconst dX12_readKept_40 (by decide) ?_
            refine g_aload_n dX12_readKept_41 rfl rfl ?_
            refine g_geti fl_RX12_116 km_0 (by decide) dX12_readKept_42 ?_
            refine g_callv2 (st := []) 10 mw_X12_fail lk_RX12_217 rfl km_0 (ok_M_fail 5 (s4 0 15) s4) (Nat.le_of_ble_eq_true rfl) rfl rfl (Nat.le_of_ble_eq_true rfl) dX12_readKept_45 ?_
            intro r10 s11
            refine (ok_M_readKept_J48 v1 r1 _ ?_ s11)
            · intro x12 s13
              exact (ih x12 s13)
        · refine (ok_M_readKept_J48 v1 r1 _ ?_ s2)
          · intro x14 s15
            exact (ih x14 s15)
      · refine g_iload_n dX12_readKept_62 rfl rfl ?_
        exact g_iret dX12_readKept_63
    · refine g_iload_n dX12_readKept_62 rfl rfl ?_
      exact g_iret dX12_readKept_63
def M_readKept  (σ : Sg) : Rs := (M_readKept_L2 fu 0 σ)
theorem ok_M_readKept (σ : Sg) : MC l Km Pm yX12_readKept cX12_readKept 3 0 6 [.inr (.inr 0)] σ (M_readKept σ) := by
  refine mc_of (by decide) (Nat.le_of_ble_eq_true rfl) ?_
  change G l Km Pm RX12 cX12_readKept 3 0 6 0 [some (.inr (.inr 0)), none, none] [] σ (M_readKept  σ)
  unfold M_readKept
  refine g_iconst dX12_readKept_0 (by decide) ?_
  refine g_istore_n (lv' := [some (.inr (.inr 0)), some (.inl 0), none]) dX12_readKept_1 rfl (Nat.le_of_ble_eq_true rfl) rfl ?_
  refine (ok_M_readKept_L2 fu 0 σ)
theorem dX12_readNew_0 : decode cX12_readNew 0 = .ok (.aload_n 0, 1) := by decide +kernel
theorem dX12_readNew_1 : decode cX12_readNew 1 = .ok (.getfield 35, 3) := by decide +kernel
theorem dX12_readNew_4 : decode cX12_readNew 4 = .ok (.sipush 1788, 3) := by decide +kernel
theorem dX12_readNew_7 : decode cX12_readNew 7 = .ok (.iload_n 1, 1) := by decide +kernel
theorem dX12_readNew_8 : decode cX12_readNew 8 = .ok (.iadd, 1) := by decide +kernel
theorem dX12_readNew_9 : decode cX12_readNew 9 = .ok (.iaload, 1) := by decide +kernel
theorem dX12_readNew_10 : decode cX12_readNew 10 = .ok (.istore_n 3, 1) := by decide +kernel
theorem dX12_readNew_11 : decode cX12_readNew 11 = .ok (.iload_n 3, 1) := by decide +kernel
theorem dX12_readNew_12 : decode cX12_readNew 12 = .ok (.iload_n 2, 1) := by decide +kernel
theorem dX12_readNew_13 : decode cX12_readNew 13 = .ok (.if_icmp .ne 13, 3) := by decide +kernel
theorem dX12_readNew_16 : decode cX12_readNew 16 = .ok (.aload_n 0, 1) := by decide +kernel
theorem dX12_readNew_17 : decode cX12_readNew 17 = .ok (.bipush 6, 2) := by decide +kernel
theorem dX12_readNew_19 : decode cX12_readNew 19 = .ok (.aload_n 0, 1) := by decide +kernel
theorem dX12_readNew_20 : decode cX12_readNew 20 = .ok (.getfield 116, 3) := by decide +kernel
theorem dX12_readNew_23 : decode cX12_readNew 23 = .ok (.invokevirtual 217, 3) := by decide +kernel
theorem dX12_readNew_26 : decode cX12_readNew 26 = .ok (.aload_n 0, 1) := by decide +kernel
theorem dX12_readNew_27 : decode cX12_readNew 27 = .ok (.getfield 211, 3) := by decide +kernel
theorem dX12_readNew_30 : decode cX12_readNew 30 = .ok (.ifCond .le 5, 3) := by decide +kernel
theorem dX12_readNew_33 : decode cX12_readNew 33 = .ok (.iconst 0, 1) := by decide +kernel
theorem dX12_readNew_34 : decode cX12_readNew 34 = .ok (.ireturn, 1) := by decide +kernel
theorem dX12_readNew_35 : decode cX12_readNew 35 = .ok (.aload_n 0, 1) := by decide +kernel
theorem dX12_readNew_36 : decode cX12_readNew 36 = .ok (.invokevirtual 221, 3) := by decide +kernel
theorem dX12_readNew_39 : decode cX12_readNew 39 = .ok (.aload_n 0, 1) := by decide +kernel
theorem dX12_readNew_40 : decode cX12_readNew 40 = .ok (.invokevirtual 240, 3) := by decide +kernel
theorem dX12_readNew_43 : decode cX12_readNew 43 = .ok (.ifCond .ne 7, 3) := by decide +kernel
theorem dX12_readNew_46 : decode cX12_readNew 46 = .ok (.aload_n 0, 1) := by decide +kernel
theorem dX12_readNew_47 : decode cX12_readNew 47 = .ok (.invokevirtual 224, 3) := by decide +kernel
theorem dX12_readNew_50 : decode cX12_readNew 50 = .ok (.aload_n 0, 1) := by decide +kernel
theorem dX12_readNew_51 : decode cX12_readNew 51 = .ok (.getfield 211, 3) := by decide +kernel
theorem dX12_readNew_54 : decode cX12_readNew 54 = .ok (.ifCond .ne 30, 3) := by decide +kernel
theorem dX12_readNew_57 : decode cX12_readNew 57 = .ok (.aload_n 0, 1) := by decide +kernel
theorem dX12_readNew_58 : decode cX12_readNew 58 = .ok (.iconst 4, 1) := by decide +kernel
theorem dX12_readNew_59 : decode cX12_readNew 59 = .ok (.iconst 0, 1) := by decide +kernel
theorem dX12_readNew_60 : decode cX12_readNew 60 = .ok (.invokevirtual 243, 3) := by decide +kernel
theorem dX12_readNew_63 : decode cX12_readNew 63 = .ok (.ifCond .ge 12, 3) := by decide +kernel
theorem dX12_readNew_66 : decode cX12_readNew 66 = .ok (.aload_n 0, 1) := by decide +kernel
theorem dX12_readNew_67 : decode cX12_readNew 67 = .ok (.iconst 4, 1) := by decide +kernel
theorem dX12_readNew_68 : decode cX12_readNew 68 = .ok (.iconst 1, 1) := by decide +kernel
theorem dX12_readNew_69 : decode cX12_readNew 69 = .ok (.invokevirtual 243, 3) := by decide +kernel
theorem dX12_readNew_72 : decode cX12_readNew 72 = .ok (.ifCond .lt 12, 3) := by decide +kernel
theorem dX12_readNew_75 : decode cX12_readNew 75 = .ok (.aload_n 0, 1) := by decide +kernel
theorem dX12_readNew_76 : decode cX12_readNew 76 = .ok (.iconst 3, 1) := by decide +kernel
theorem dX12_readNew_77 : decode cX12_readNew 77 = .ok (.aload_n 0, 1) := by decide +kernel
theorem dX12_readNew_78 : decode cX12_readNew 78 = .ok (.getfield 116, 3) := by decide +kernel
theorem dX12_readNew_81 : decode cX12_readNew 81 = .ok (.invokevirtual 217, 3) := by decide +kernel
theorem dX12_readNew_84 : decode cX12_readNew 84 = .ok (.aload_n 0, 1) := by decide +kernel
theorem dX12_readNew_85 : decode cX12_readNew 85 = .ok (.getfield 211, 3) := by decide +kernel
theorem dX12_readNew_88 : decode cX12_readNew 88 = .ok (.ifCond .le 5, 3) := by decide +kernel
theorem dX12_readNew_91 : decode cX12_readNew 91 = .ok (.iconst 0, 1) := by decide +kernel
theorem dX12_readNew_92 : decode cX12_readNew 92 = .ok (.ireturn, 1) := by decide +kernel
theorem dX12_readNew_93 : decode cX12_readNew 93 = .ok (.aload_n 0, 1) := by decide +kernel
theorem dX12_readNew_94 : decode cX12_readNew 94 = .ok (.getfield 44, 3) := by decide +kernel
theorem dX12_readNew_97 : decode cX12_readNew 97 = .ok (.bipush 56, 2) := by decide +kernel
theorem dX12_readNew_99 : decode cX12_readNew 99 = .ok (.bipush 8, 2) := by decide +kernel
theorem dX12_readNew_101 : decode cX12_readNew 101 = .ok (.iload_n 1, 1) := by decide +kernel
theorem dX12_readNew_102 : decode cX12_readNew 102 = .ok (.imul, 1) := by decide +kernel
theorem dX12_readNew_103 : decode cX12_readNew 103 = .ok (.iadd, 1) := by decide +kernel
theorem dX12_readNew_104 : decode cX12_readNew 104 = .ok (.iload_n 3, 1) := by decide +kernel
theorem dX12_readNew_105 : decode cX12_readNew 105 = .ok (.iadd, 1) := by decide +kernel
theorem dX12_readNew_106 : decode cX12_readNew 106 = .ok (.aload_n 0, 1) := by decide +kernel
theorem dX12_readNew_107 : decode cX12_readNew 107 = .ok (.getfield 128, 3) := by decide +kernel
theorem dX12_readNew_110 : decode cX12_readNew 110 = .ok (.lastore, 1) := by decide +kernel
theorem dX12_readNew_111 : decode cX12_readNew 111 = .ok (.aload_n 0, 1) := by decide +kernel
theorem dX12_readNew_112 : decode cX12_readNew 112 = .ok (.invokevirtual 221, 3) := by decide +kernel
theorem dX12_readNew_115 : decode cX12_readNew 115 = .ok (.iload_n 3, 1) := by decide +kernel
theorem dX12_readNew_116 : decode cX12_readNew 116 = .ok (.ireturn, 1) := by decide +kernel
theorem mw_X12_readNew : MW yX12_readNew cX12_readNew 4 0 2 false := ⟨tm 1838 (by decide +kernel) rfl, tm 249 (by decide +kernel) rfl, by decide, by decide, (by rw [if_neg (by decide)]; exact ⟨tm 1837 (by decide +kernel) rfl, tm 140 (by decide +kernel) rfl⟩)⟩
def M_readNew_J84 (a1 : Int) (v3 : Int) (σ : Sg) : Rs := (if 0 < (σ 0 12) then (some (0, σ)) else (wr 70 (w32 ((w32 (56 + (w32 (8 * a1)))) + v3)) (up_s σ 8 (Int.toNat (w32 ((w32 (56 + (w32 (8 * a1)))) + v3))) (σ 0 19)) (fun s14 => (bd (M_advance s14) (fun r15 s16 => (some (v3, s16)))))))
theorem ok_M_readNew_J84 (a1 : Int) (v3 : Int) : ∀ (σ : Sg), G l Km Pm RX12 cX12_readNew 4 0 5 84 [some (.inr (.inr 0)), some (.inl a1), none, some (.inl v3)] [] σ (M_readNew_J84 a1 v3  σ) := by
  intro σ
  unfold M_readNew_J84
  refine g_aload_n dX12_readNew_84 rfl rfl ?_
  refine g_geti fl_RX12_211 km_0 (by decide) dX12_readNew_85 ?_
  refine g_ifle (tgt := 93) dX12_readNew_88 (by decide) ?_ ?_
  · refine g_iconst dX12_readNew_91 (by decide) ?_
    exact g_iret dX12_readNew_92
  · refine g_aload_n dX12_readNew_93 rfl rfl ?_
    refine g_getr' (q := 8) fl_RX12_44 km_0 (by decide) rfl dX12_readNew_94 ?_
    refine g_bipush dX12_readNew_97 (by decide) ?_
    refine g_bipush dX12_readNew_99 (by decide) ?_
    refine g_iload_n dX12_readNew_101 rfl rfl ?_
    refine g_imul dX12_readNew_102 ?_
    refine g_iadd dX12_readNew_103 ?_
    refine g_iload_n dX12_readNew_104 rfl rfl ?_
    refine g_iadd dX12_readNew_105 ?_
    refine g_aload_n dX12_readNew_106 rfl rfl ?_
    refine g_getl fl_RX12_128 km_0 (by decide) dX12_readNew_107 ?_
    refine g_last km_8 dX12_readNew_110 ?_
    intro s14
    refine g_aload_n dX12_readNew_111 rfl rfl ?_
    refine g_callv2 (st := []) 10 mw_X12_advance lk_RX12_221 rfl km_0 (ok_M_advance s14) (Nat.le_of_ble_eq_true rfl) rfl rfl (Nat.le_of_ble_eq_true rfl) dX12_readNew_112 ?_
    intro r15 s16
    refine g_iload_n dX12_readNew_115 rfl rfl ?_
    exact g_iret dX12_readNew_116
def M_readNew_J75 (a1 : Int) (v3 : Int) (σ : Sg) : Rs := (bd (M_fail 3 (σ 0 15) σ) (fun r17 s18 => (M_readNew_J84 a1 v3 s18)))
theorem ok_M_readNew_J75 (a1 : Int) (v3 : Int) : ∀ (σ : Sg), G l Km Pm RX12 cX12_readNew 4 0 5 75 [some (.inr (.inr 0)), some (.inl a1), none, some (.inl v3)] [] σ (M_readNew_J75 a1 v3  σ) := by
  intro σ
  unfold M_readNew_J75
  refine g_aload_n dX12_readNew_75 rfl rfl ?_
  refine g_iconst dX12_readNew_76 (by decide) ?_
  refine g_aload_n dX12_readNew_77 rfl rfl ?_
  refine g_geti fl_RX12_116 km_0 (by decide) dX12_readNew_78 ?_
  refine g_callv2 (st := []) 10 mw_X12_fail lk_RX12_217 rfl km_0 (ok_M_fail 3 (σ 0 15) σ) (Nat.le_of_ble_eq_true rfl) rfl rfl (Nat.le_of_ble_eq_true rfl) dX12_readNew_81 ?_
  intro r17 s18
  refine (ok_M_readNew_J84 a1 v3 s18)
def M_readNew_J50 (a1 : Int) (v3 : Int) (σ : Sg) : Rs := (if (σ 0 12) = 0 then (bd (M_named 4 0 σ) (fun r10 s11 => (if r10 < 0 then (bd (M_named 4 1 s11) (fun r12 s13 => (if r12 < 0 then (M_readNew_J84 a1 v3 s13) else (M_readNew_J75 a1 v3 s13)))) else (M_readNew_J75 a1 v3 s11)))) else (M_readNew_J84 a1 v3 σ))
theorem ok_M_readNew_J50 (a1 : Int) (v3 : Int) : ∀ (σ : Sg), G l Km Pm RX12 cX12_readNew 4 0 5 50 [some (.inr (.inr 0)), some (.inl a1), none, some (.inl v3)] [] σ (M_readNew_J50 a1 v3  σ) := by
  intro σ
  unfold M_readNew_J50
  refine g_aload_n dX12_readNew_50 rfl rfl ?_
  refine g_geti fl_RX12_211 km_0 (by decide) dX12_readNew_51 ?_
  refine g_ifne (tgt := 84) dX12_readNew_54 (by decide) ?_ ?_
  · refine g_aload_n dX12_readNew_57 rfl rfl ?_
    refine g_iconst dX12_readNew_58 (by decide) ?_
    refine g_iconst dX12_readNew_59 (by decide) ?_
    refine g_callv0 (st := []) 10 mw_X12_named lk_RX12_243 rfl km_0 (ok_M_named 4 0 σ) (Nat.le_of_ble_eq_true rfl) rfl rfl (Nat.le_of_ble_eq_true rfl) dX12_readNew_60 ?_
    intro r10 s11
    refine g_ifge (tgt := 75) dX12_readNew_63 (by decide) ?_ ?_
    · refine g_aload_n dX12_readNew_66 rfl rfl ?_
      refine g_iconst dX12_readNew_67 (by decide) ?_
      refine g_iconst dX12_readNew_68 (by decide) ?_
      refine g_callv0 (st := []) 10 mw_X12_named lk_RX12_243 rfl km_0 (ok_M_named 4 1 s11) (Nat.le_of_ble_eq_true rfl) rfl rfl (Nat.le_of_ble_eq_true rfl) dX12_readNew_69 ?_
      intro r12 s13
      refine g_iflt (tgt := 84) dX12_readNew_72 (by decide) ?_ ?_
      · refine (ok_M_readNew_J84 a1 v3 s13)
      · refine (ok_M_readNew_J75 a1 v3 s13)
    · refine (ok_M_readNew_J75 a1 v3 s11)
  · refine (ok_M_readNew_J84 a1 v3 σ)
def M_readNew_J26 (a1 : Int) (v3 : Int) (σ : Sg) : Rs := (if 0 < (σ 0 12) then (some (0, σ)) else (bd (M_advance σ) (fun r4 s5 => (bd (M_isName s5) (fun r6 s7 => (if r6 = 0 then (bd (M_amiss s7) (fun r8 s9 => (M_readNew_J50 a1 v3 s9))) else (M_readNew_J50 a1 v3 s7)))))))
theorem ok_M_readNew_J26 (a1 : Int) (v3 : Int) : ∀ (σ : Sg), G l Km Pm RX12 cX12_readNew 4 0 5 26 [some (.inr (.inr 0)), some (.inl a1), none, some (.inl v3)] [] σ (M_readNew_J26 a1 v3  σ) := by
  intro σ
  unfold M_readNew_J26
  refine g_aload_n dX12_readNew_26 rfl rfl ?_
  refine g_geti fl_RX12_211 km_0 (by decide) dX12_readNew_27 ?_
  refine g_ifle (tgt := 35) dX12_readNew_30 (by decide) ?_ ?_
  · refine g_iconst dX12_readNew_33 (by decide) ?_
    exact g_iret dX12_readNew_34
  · refine g_aload_n dX12_readNew_35 rfl rfl ?_
    refine g_callv2 (st := []) 10 mw_X12_advance lk_RX12_221 rfl km_0 (ok_M_advance σ) (Nat.le_of_ble_eq_true rfl) rfl rfl (Nat.le_of_ble_eq_true rfl) dX12_readNew_36 ?_
    intro r4 s5
    refine g_aload_n dX12_readNew_39 rfl rfl ?_
    refine g_callv3 (st := []) 10 mw_X12_isName lk_RX12_240 rfl km_0 (ok_M_isName s5) (Nat.le_of_ble_eq_true rfl) rfl rfl (Nat.le_of_ble_eq_true rfl) dX12_readNew_40 ?_
    intro r6 s7
    refine g_ifne (tgt := 50) dX12_readNew_43 (by decide) ?_ ?_
    · refine g_aload_n dX12_readNew_46 rfl rfl ?_
      refine g_callv2 (st := []) 10 mw_X12_amiss lk_RX12_224 rfl km_0 (ok_M_amiss s7) (Nat.le_of_ble_eq_true rfl) rfl rfl (Nat.le_of_ble_eq_true rfl) dX12_readNew_47 ?_
      intro r8 s9
      refine (ok_M_readNew_J50 a1 v3 s9)
    · refine (ok_M_readNew_J50 a1 v3 s7)
def M_readNew (a1 : Int) (a2 : Int) (σ : Sg) : Rs := (rd 2235 (w32 (1788 + a1)) (σ 5 (Int.toNat (w32 (1788 + a1)))) (fun x1 => (if x1 = a2 then (bd (M_fail 6 (σ 0 15) σ) (fun r2 s3 => (M_readNew_J26 a1 x1 s3))) else (M_readNew_J26 a1 x1 σ))))
theorem ok_M_readNew (a1 : Int) (a2 : Int) (σ : Sg) : MC l Km Pm yX12_readNew cX12_readNew 4 0 5 [.inr (.inr 0), .inl a1, .inl a2] σ (M_readNew a1 a2 σ) := by
  refine mc_of (by decide) (Nat.le_of_ble_eq_true rfl) ?_
  change G l Km Pm RX12 cX12_readNew 4 0 5 0 [some (.inr (.inr 0)), some (.inl a1), some (.inl a2), none] [] σ (M_readNew a1 a2 σ)
  unfold M_readNew
  refine g_aload_n dX12_readNew_0 rfl rfl ?_
  refine g_getr' (q := 5) fl_RX12_35 km_0 (by decide) rfl dX12_readNew_1 ?_
  refine g_sipush dX12_readNew_4 (by decide) ?_
  refine g_iload_n dX12_readNew_7 rfl rfl ?_
  refine g_iadd dX12_readNew_8 ?_
  refine g_iald km_5 dX12_readNew_9 ?_
  intro x1
  refine g_istore_n (lv' := [some (.inr (.inr 0)), some (.inl a1), some (.inl a2), some (.inl x1)]) dX12_readNew_10 rfl (Nat.le_of_ble_eq_true rfl) rfl ?_
  refine g_iload_n dX12_readNew_11 rfl rfl ?_
  refine g_iload_n dX12_readNew_12 rfl rfl ?_
  refine g_icmpne (tgt := 26) dX12_readNew_13 (by decide) ?_ ?_
  · refine g_aload_n dX12_readNew_16 rfl rfl ?_
    refine g_bipush dX12_readNew_17 (by decide) ?_
    refine g_aload_n dX12_readNew_19 rfl rfl ?_
    refine g_geti fl_RX12_116 km_0 (by decide) dX12_readNew_20 ?_
    refine g_callv2 (st := []) 10 mw_X12_fail lk_RX12_217 rfl km_0 (ok_M_fail 6 (σ 0 15) σ) (Nat.le_of_ble_eq_true rfl) rfl rfl (Nat.le_of_ble_eq_true rfl) dX12_readNew_23 ?_
    intro r2 s3
    refine (g_weak [true, true, false, true] (ok_M_readNew_J26 a1 x1 s3))
  · refine (g_weak [true, true, false, true] (ok_M_readNew_J26 a1 x1 σ))
theorem dX12_readPerson_0 : decode cX12_readPerson 0 = .ok (.aload_n 0, 1) := by decide +kernel
theorem dX12_readPerson_1 : decode cX12_readPerson 1 = .ok (.iconst 1, 1) := by decide +kernel
theorem dX12_readPerson_2 : decode cX12_readPerson 2 = .ok (.bipush 6, 2) := by decide +kernel
theorem dX12_readPerson_4 : decode cX12_readPerson 4 = .ok (.invokevirtual 255, 3) := by decide +kernel
theorem dX12_readPerson_7 : decode cX12_readPerson 7 = .ok (.istore_n 1, 1) := by decide +kernel
theorem dX12_readPerson_8 : decode cX12_readPerson 8 = .ok (.aload_n 0, 1) := by decide +kernel
theorem dX12_readPerson_9 : decode cX12_readPerson 9 = .ok (.aload_n 0, 1) := by decide +kernel
theorem dX12_readPerson_10 : decode cX12_readPerson 10 = .ok (.invokevirtual 174, 3) := by decide +kernel
theorem dX12_readPerson_13 : decode cX12_readPerson 13 = .ok (.invokevirtual 258, 3) := by decide +kernel
theorem dX12_readPerson_16 : decode cX12_readPerson 16 = .ok (.ifCond .eq 14, 3) := by decide +kernel
theorem dX12_readPerson_19 : decode cX12_readPerson 19 = .ok (.aload_n 0, 1) := by decide +kernel
theorem dX12_readPerson_20 : decode cX12_readPerson 20 = .ok (.iconst 0, 1) := by decide +kernel
theorem dX12_readPerson_21 : decode cX12_readPerson 21 = .ok (.sipush 999, 3) := by decide +kernel
theorem dX12_readPerson_24 : decode cX12_readPerson 24 = .ok (.invokevirtual 231, 3) := by decide +kernel
theorem dX12_readPerson_27 : decode cX12_readPerson 27 = .ok (.goto 5, 3) := by decide +kernel
theorem dX12_readPerson_30 : decode cX12_readPerson 30 = .ok (.bipush 50, 2) := by decide +kernel
theorem dX12_readPerson_32 : decode cX12_readPerson 32 = .ok (.istore_n 2, 1) := by decide +kernel
theorem dX12_readPerson_33 : decode cX12_readPerson 33 = .ok (.aload_n 0, 1) := by decide +kernel
theorem dX12_readPerson_34 : decode cX12_readPerson 34 = .ok (.aload_n 0, 1) := by decide +kernel
theorem dX12_readPerson_35 : decode cX12_readPerson 35 = .ok (.invokevirtual 177, 3) := by decide +kernel
theorem dX12_readPerson_38 : decode cX12_readPerson 38 = .ok (.invokevirtual 258, 3) := by decide +kernel
theorem dX12_readPerson_41 : decode cX12_readPerson 41 = .ok (.istore_n 3, 1) := by decide +kernel
theorem dX12_readPerson_42 : decode cX12_readPerson 42 = .ok (.aload_n 0, 1) := by decide +kernel
theorem dX12_readPerson_43 : decode cX12_readPerson 43 = .ok (.aload_n 0, 1) := by decide +kernel
theorem dX12_readPerson_44 : decode cX12_readPerson 44 = .ok (.invokevirtual 180, 3) := by decide +kernel
theorem dX12_readPerson_47 : decode cX12_readPerson 47 = .ok (.invokevirtual 258, 3) := by decide +kernel
theorem dX12_readPerson_50 : decode cX12_readPerson 50 = .ok (.ifCond .eq 10, 3) := by decide +kernel
theorem dX12_readPerson_53 : decode cX12_readPerson 53 = .ok (.aload_n 0, 1) := by decide +kernel
theorem dX12_readPerson_54 : decode cX12_readPerson 54 = .ok (.invokevirtual 262, 3) := by decide +kernel
theorem dX12_readPerson_57 : decode cX12_readPerson 57 = .ok (.goto 4, 3) := by decide +kernel
theorem dX12_readPerson_60 : decode cX12_readPerson 60 = .ok (.iconst 0, 1) := by decide +kernel
theorem dX12_readPerson_61 : decode cX12_readPerson 61 = .ok (.istore 4, 2) := by decide +kernel
theorem dX12_readPerson_63 : decode cX12_readPerson 63 = .ok (.aload_n 0, 1) := by decide +kernel
theorem dX12_readPerson_64 : decode cX12_readPerson 64 = .ok (.getfield 211, 3) := by decide +kernel
theorem dX12_readPerson_67 : decode cX12_readPerson 67 = .ok (.ifCond .le 4, 3) := by decide +kernel
theorem dX12_readPerson_70 : decode cX12_readPerson 70 = .ok (.return_, 1) := by decide +kernel
theorem dX12_readPerson_71 : decode cX12_readPerson 71 = .ok (.aload_n 0, 1) := by decide +kernel
theorem dX12_readPerson_72 : decode cX12_readPerson 72 = .ok (.getfield 35, 3) := by decide +kernel
theorem dX12_readPerson_75 : decode cX12_readPerson 75 = .ok (.sipush 1813, 3) := by decide +kernel
theorem dX12_readPerson_78 : decode cX12_readPerson 78 = .ok (.iload_n 1, 1) := by decide +kernel
theorem dX12_readPerson_79 : decode cX12_readPerson 79 = .ok (.iadd, 1) := by decide +kernel
theorem dX12_readPerson_80 : decode cX12_readPerson 80 = .ok (.iload_n 2, 1) := by decide +kernel
theorem dX12_readPerson_81 : decode cX12_readPerson 81 = .ok (.iastore, 1) := by decide +kernel
theorem dX12_readPerson_82 : decode cX12_readPerson 82 = .ok (.aload_n 0, 1) := by decide +kernel
theorem dX12_readPerson_83 : decode cX12_readPerson 83 = .ok (.getfield 35, 3) := by decide +kernel
theorem dX12_readPerson_86 : decode cX12_readPerson 86 = .ok (.sipush 1819, 3) := by decide +kernel
theorem dX12_readPerson_89 : decode cX12_readPerson 89 = .ok (.iload_n 1, 1) := by decide +kernel
theorem dX12_readPerson_90 : decode cX12_readPerson 90 = .ok (.iadd, 1) := by decide +kernel
theorem dX12_readPerson_91 : decode cX12_readPerson 91 = .ok (.iload_n 3, 1) := by decide +kernel
theorem dX12_readPerson_92 : decode cX12_readPerson 92 = .ok (.ifCond .eq 7, 3) := by decide +kernel
theorem dX12_readPerson_95 : decode cX12_readPerson 95 = .ok (.iconst 1, 1) := by decide +kernel
theorem dX12_readPerson_96 : decode cX12_readPerson 96 = .ok (.goto 4, 3) := by decide +kernel
theorem dX12_readPerson_99 : decode cX12_readPerson 99 = .ok (.iconst 0, 1) := by decide +kernel
theorem dX12_readPerson_100 : decode cX12_readPerson 100 = .ok (.iastore, 1) := by decide +kernel
theorem dX12_readPerson_101 : decode cX12_readPerson 101 = .ok (.aload_n 0, 1) := by decide +kernel
theorem dX12_readPerson_102 : decode cX12_readPerson 102 = .ok (.getfield 35, 3) := by decide +kernel
theorem dX12_readPerson_105 : decode cX12_readPerson 105 = .ok (.sipush 1825, 3) := by decide +kernel
theorem dX12_readPerson_108 : decode cX12_readPerson 108 = .ok (.iload_n 1, 1) := by decide +kernel
theorem dX12_readPerson_109 : decode cX12_readPerson 109 = .ok (.iadd, 1) := by decide +kernel
theorem dX12_readPerson_110 : decode cX12_readPerson 110 = .ok (.iload 4, 2) := by decide +kernel
theorem dX12_readPerson_112 : decode cX12_readPerson 112 = .ok (.iastore, 1) := by decide +kernel
theorem dX12_readPerson_113 : decode cX12_readPerson 113 = .ok (.aload_n 0, 1) := by decide +kernel
theorem dX12_readPerson_114 : decode cX12_readPerson 114 = .ok (.getfield 35, 3) := by decide +kernel
theorem dX12_readPerson_117 : decode cX12_readPerson 117 = .ok (.sipush 1831, 3) := by decide +kernel
theorem dX12_readPerson_120 : decode cX12_readPerson 120 = .ok (.iload_n 1, 1) := by decide +kernel
theorem dX12_readPerson_121 : decode cX12_readPerson 121 = .ok (.iadd, 1) := by decide +kernel
theorem dX12_readPerson_122 : decode cX12_readPerson 122 = .ok (.iload 4, 2) := by decide +kernel
theorem dX12_readPerson_124 : decode cX12_readPerson 124 = .ok (.iastore, 1) := by decide +kernel
theorem dX12_readPerson_125 : decode cX12_readPerson 125 = .ok (.aload_n 0, 1) := by decide +kernel
theorem dX12_readPerson_126 : decode cX12_readPerson 126 = .ok (.getfield 35, 3) := by decide +kernel
theorem dX12_readPerson_129 : decode cX12_readPerson 129 = .ok (.sipush 1789, 3) := by decide +kernel
theorem dX12_readPerson_132 : decode cX12_readPerson 132 = .ok (.dup2, 1) := by decide +kernel
theorem dX12_readPerson_133 : decode cX12_readPerson 133 = .ok (.iaload, 1) := by decide +kernel
theorem dX12_readPerson_134 : decode cX12_readPerson 134 = .ok (.iconst 1, 1) := by decide +kernel
theorem dX12_readPerson_135 : decode cX12_readPerson 135 = .ok (.iadd, 1) := by decide +kernel
theorem dX12_readPerson_136 : decode cX12_readPerson 136 = .ok (.iastore, 1) := by decide +kernel
theorem dX12_readPerson_137 : decode cX12_readPerson 137 = .ok (.return_, 1) := by decide +kernel
theorem mw_X12_readPerson : MW yX12_readPerson cX12_readPerson 5 2 0 false := ⟨tm 1914 (by decide +kernel) rfl, tm 249 (by decide +kernel) rfl, by decide, by decide, (by rw [if_neg (by decide)]; exact ⟨tm 1913 (by decide +kernel) rfl, tm 159 (by decide +kernel) rfl⟩)⟩
theorem lk_RX12_255 : LK RX12 255 yX12_readNew := Or.inl (tm 1835 (by decide +kernel) rfl)
theorem lk_RX12_258 : LK RX12 258 yX12_perhaps := Or.inl (tm 1907 (by decide +kernel) rfl)
theorem lk_RX12_262 : LK RX12 262 yX12_readKept := Or.inl (tm 1915 (by decide +kernel) rfl)
def M_readPerson_J100 (v1 : Int) (v4 : Int) (t1 t2 : Int) (σ : Sg) : Rs := (wr 2235 t1 (up_s σ 5 (Int.toNat t1) t2) (fun s16 => (wr 2235 (w32 (1825 + v1)) (up_s s16 5 (Int.toNat (w32 (1825 + v1))) v4) (fun s17 => (wr 2235 (w32 (1831 + v1)) (up_s s17 5 (Int.toNat (w32 (1831 + v1))) v4) (fun s18 => (rd 2235 1789 (s18 5 (Int.toNat 1789)) (fun x19 => (wr 2235 1789 (up_s s18 5 (Int.toNat 1789) (w32 (x19 + 1))) (fun s20 => (some (0, s20))))))))))))
theorem ok_M_readPerson_J100 (v1 : Int) (v4 : Int) : ∀ (t1 t2 : Int) (σ : Sg), G l Km Pm RX12 cX12_readPerson 5 2 7 100 [some (.inr (.inr 0)), some (.inl v1), none, none, some (.inl v4)] [.inl t2, .inl t1, .inr (.inr 5)] σ (M_readPerson_J100 v1 v4 t1 t2 σ) := by
  intro t1 t2 σ
  unfold M_readPerson_J100
  refine g_iast km_5 dX12_readPerson_100 ?_
  intro s16
  refine g_aload_n dX12_readPerson_101 rfl rfl ?_
  refine g_getr' (q := 5) fl_RX12_35 km_0 (by decide) rfl dX12_readPerson_102 ?_
  refine g_sipush dX12_readPerson_105 (by decide) ?_
  refine g_iload_n dX12_readPerson_108 rfl rfl ?_
  refine g_iadd dX12_readPerson_109 ?_
  refine g_iload dX12_readPerson_110 rfl ?_
  refine g_iast km_5 dX12_readPerson_112 ?_
  intro s17
  refine g_aload_n dX12_readPerson_113 rfl rfl ?_
  refine g_getr' (q := 5) fl_RX12_35 km_0 (by decide) rfl dX12_readPerson_114 ?_
  refine g_sipush dX12_readPerson_117 (by decide) ?_
  refine g_iload_n dX12_readPerson_120 rfl rfl ?_
  refine g_iadd dX12_readPerson_121 ?_
  refine g_iload dX12_readPerson_122 rfl ?_
  refine g_iast km_5 dX12_readPerson_124 ?_
  intro s18
  refine g_aload_n dX12_readPerson_125 rfl rfl ?_
  refine g_getr' (q := 5) fl_RX12_35 km_0 (by decide) rfl dX12_readPerson_126 ?_
  refine g_sipush dX12_readPerson_129 (by decide) ?_
  refine g_dup2 dX12_readPerson_132 rfl rfl ?_
  refine g_iald km_5 dX12_readPerson_133 ?_
  intro x19
  refine g_iconst dX12_readPerson_134 (by decide) ?_
  refine g_iadd dX12_readPerson_135 ?_
  refine g_iast km_5 dX12_readPerson_136 ?_
  intro s20
  exact g_vret dX12_readPerson_137
def M_readPerson_J61 (v1 : Int) (v2 : Int) (v3 : Int) (t0 : Int) (σ : Sg) : Rs := (if 0 < (σ 0 12) then (some (0, σ)) else (wr 2235 (w32 (1813 + v1)) (up_s σ 5 (Int.toNat (w32 (1813 + v1))) v2) (fun s15 => (if v3 = 0 then (M_readPerson_J100 v1 t0 (w32 (1819 + v1)) 0 s15) else (M_readPerson_J100 v1 t0 (w32 (1819 + v1)) 1 s15)))))
theorem ok_M_readPerson_J61 (v1 : Int) (v2 : Int) (v3 : Int) : ∀ (t0 : Int) (σ : Sg), G l Km Pm RX12 cX12_readPerson 5 2 7 61 [some (.inr (.inr 0)), some (.inl v1), some (.inl v2), some (.inl v3), none] [.inl t0] σ (M_readPerson_J61 v1 v2 v3 t0 σ) := by
  intro t0 σ
  unfold M_readPerson_J61
  refine g_istore (lv' := [some (.inr (.inr 0)), some (.inl v1), some (.inl v2), some (.inl v3), some (.inl t0)]) dX12_readPerson_61 (Nat.le_of_ble_eq_true rfl) rfl ?_
  refine g_aload_n dX12_readPerson_63 rfl rfl ?_
  refine g_geti fl_RX12_211 km_0 (by decide) dX12_readPerson_64 ?_
  refine g_ifle (tgt := 71) dX12_readPerson_67 (by decide) ?_ ?_
  · exact g_vret dX12_readPerson_70
  · refine g_aload_n dX12_readPerson_71 rfl rfl ?_
    refine g_getr' (q := 5) fl_RX12_35 km_0 (by decide) rfl dX12_readPerson_72 ?_
    refine g_sipush dX12_readPerson_75 (by decide) ?_
    refine g_iload_n dX12_readPerson_78 rfl rfl ?_
    refine g_iadd dX12_readPerson_79 ?_
    refine g_iload_n dX12_readPerson_80 rfl rfl ?_
    refine g_iast km_5 dX12_readPerson_81 ?_
    intro s15
    refine g_aload_n dX12_readPerson_82 rfl rfl ?_
    refine g_getr' (q := 5) fl_RX12_35 km_0 (by decide) rfl dX12_readPerson_83 ?_
    refine g_sipush dX12_readPerson_86 (by decide) ?_
    refine g_iload_n dX12_readPerson_89 rfl rfl ?_
    refine g_iadd dX12_readPerson_90 ?_
    refine g_iload_n dX12_readPerson_91 rfl rfl ?_
    refine g_ifeq (tgt := 99) dX12_readPerson_92 (by decide) ?_ ?_
    · refine g_iconst dX12_readPerson_99 (by decide) ?_
      refine (g_weak [true, true, false, false, true] (ok_M_readPerson_J100 v1 t0 (w32 (1819 + v1)) 0 s15))
    · refine g_iconst dX12_readPerson_95 (by decide) ?_
      refine g_goto (tgt := 100) dX12_readPerson_96 (by decide) ?_
      refine (g_weak [true, true, false, false, true] (ok_M_readPerson_J100 v1 t0 (w32 (1819 + v1)) 1 s15))
def M_readPerson_J32 (v1 : Int) (t0 : Int) (σ : Sg) : Rs := (bd (M_isBarber σ) (fun r7 s8 => (bd (M_perhaps r7 s8) (fun r9 s10 => (bd (M_isKeeps s10) (fun r11 s12 => (bd (M_perhaps r11 s12) (fun r13 s14 => (if r13 = 0 then (M_readPerson_J61 v1 t0 r9 0 s14) else (bd (M_readKept s14) (fun r21 s22 => (M_readPerson_J61 v1 t0 r9 r21 s22))))))))))))
theorem ok_M_readPerson_J32 (v1 : Int) : ∀ (t0 : Int) (σ : Sg), G l Km Pm RX12 cX12_readPerson 5 2 7 32 [some (.inr (.inr 0)), some (.inl v1), none, none, none] [.inl t0] σ (M_readPerson_J32 v1 t0 σ) := by
  intro t0 σ
  unfold M_readPerson_J32
  refine g_istore_n (lv' := [some (.inr (.inr 0)), some (.inl v1), some (.inl t0), none, none]) dX12_readPerson_32 rfl (Nat.le_of_ble_eq_true rfl) rfl ?_
  refine g_aload_n dX12_readPerson_33 rfl rfl ?_
  refine g_aload_n dX12_readPerson_34 rfl rfl ?_
  refine g_callv3 (st := [.inr (.inr 0)]) 10 mw_X12_isBarber lk_RX12_177 rfl km_0 (ok_M_isBarber σ) (Nat.le_of_ble_eq_true rfl) rfl rfl (Nat.le_of_ble_eq_true rfl) dX12_readPerson_35 ?_
  intro r7 s8
  refine g_callv3 (st := []) 10 mw_X12_perhaps lk_RX12_258 rfl km_0 (ok_M_perhaps r7 s8) (Nat.le_of_ble_eq_true rfl) rfl rfl (Nat.le_of_ble_eq_true rfl) dX12_readPerson_38 ?_
  intro r9 s10
  refine g_istore_n (lv' := [some (.inr (.inr 0)), some (.inl v1), some (.inl t0), some (.inl r9), none]) dX12_readPerson_41 rfl (Nat.le_of_ble_eq_true rfl) rfl ?_
  refine g_aload_n dX12_readPerson_42 rfl rfl ?_
  refine g_aload_n dX12_readPerson_43 rfl rfl ?_
  refine g_callv3 (st := [.inr (.inr 0)]) 10 mw_X12_isKeeps lk_RX12_180 rfl km_0 (ok_M_isKeeps s10) (Nat.le_of_ble_eq_true rfl) rfl rfl (Nat.le_of_ble_eq_true rfl) dX12_readPerson_44 ?_
  intro r11 s12
  refine g_callv3 (st := []) 10 mw_X12_perhaps lk_RX12_258 rfl km_0 (ok_M_perhaps r11 s12) (Nat.le_of_ble_eq_true rfl) rfl rfl (Nat.le_of_ble_eq_true rfl) dX12_readPerson_47 ?_
  intro r13 s14
  refine g_ifeq (tgt := 60) dX12_readPerson_50 (by decide) ?_ ?_
  · refine g_iconst dX12_readPerson_60 (by decide) ?_
    refine (ok_M_readPerson_J61 v1 t0 r9 0 s14)
  · refine g_aload_n dX12_readPerson_53 rfl rfl ?_
    refine g_callv0 (st := []) 10 mw_X12_readKept lk_RX12_262 rfl km_0 (ok_M_readKept s14) (Nat.le_of_ble_eq_true rfl) rfl rfl (Nat.le_of_ble_eq_true rfl) dX12_readPerson_54 ?_
    intro r21 s22
    refine g_goto (tgt := 61) dX12_readPerson_57 (by decide) ?_
    refine (ok_M_readPerson_J61 v1 t0 r9 r21 s22)
def M_readPerson  (σ : Sg) : Rs := (bd (M_readNew 1 6 σ) (fun r1 s2 => (bd (M_isTemper s2) (fun r3 s4 => (bd (M_perhaps r3 s4) (fun r5 s6 => (if r5 = 0 then (M_readPerson_J32 r1 50 s6) else (bd (M_count 0 999 s6) (fun r23 s24 => (M_readPerson_J32 r1 r23 s24))))))))))
theorem ok_M_readPerson (σ : Sg) : MC l Km Pm yX12_readPerson cX12_readPerson 5 2 7 [.inr (.inr 0)] σ (M_readPerson σ) := by
  refine mc_of (by decide) (Nat.le_of_ble_eq_true rfl) ?_
  change G l Km Pm RX12 cX12_readPerson 5 2 7 0 [some (.inr (.inr 0)), none, none, none, none] [] σ (M_readPerson  σ)
  unfold M_readPerson
  refine g_aload_n dX12_readPerson_0 rfl rfl ?_
  refine g_iconst dX12_readPerson_1 (by decide) ?_
  refine g_bipush dX12_readPerson_2 (by decide) ?_
  refine g_callv0 (st := []) 10 mw_X12_readNew lk_RX12_255 rfl km_0 (ok_M_readNew 1 6 σ) (Nat.le_of_ble_eq_true rfl) rfl rfl (Nat.le_of_ble_eq_true rfl) dX12_readPerson_4 ?_
  intro r1 s2
  refine g_istore_n (lv' := [some (.inr (.inr 0)), some (.inl r1), none, none, none]) dX12_readPerson_7 rfl (Nat.le_of_ble_eq_true rfl) rfl ?_
  refine g_aload_n dX12_readPerson_8 rfl rfl ?_
  refine g_aload_n dX12_readPerson_9 rfl rfl ?_
  refine g_callv3 (st := [.inr (.inr 0)]) 10 mw_X12_isTemper lk_RX12_174 rfl km_0 (ok_M_isTemper s2) (Nat.le_of_ble_eq_true rfl) rfl rfl (Nat.le_of_ble_eq_true rfl) dX12_readPerson_10 ?_
  intro r3 s4
  refine g_callv3 (st := []) 10 mw_X12_perhaps lk_RX12_258 rfl km_0 (ok_M_perhaps r3 s4) (Nat.le_of_ble_eq_true rfl) rfl rfl (Nat.le_of_ble_eq_true rfl) dX12_readPerson_13 ?_
  intro r5 s6
  refine g_ifeq (tgt := 30) dX12_readPerson_16 (by decide) ?_ ?_
  · refine g_bipush dX12_readPerson_30 (by decide) ?_
    refine (ok_M_readPerson_J32 r1 50 s6)
  · refine g_aload_n dX12_readPerson_19 rfl rfl ?_
    refine g_iconst dX12_readPerson_20 (by decide) ?_
    refine g_sipush dX12_readPerson_21 (by decide) ?_
    refine g_callv0 (st := []) 10 mw_X12_count lk_RX12_231 rfl km_0 (ok_M_count 0 999 s6) (Nat.le_of_ble_eq_true rfl) rfl rfl (Nat.le_of_ble_eq_true rfl) dX12_readPerson_24 ?_
    intro r23 s24
    refine g_goto (tgt := 32) dX12_readPerson_27 (by decide) ?_
    refine (ok_M_readPerson_J32 r1 r23 s24)
theorem dX12_readWordOf_0 : decode cX12_readWordOf 0 = .ok (.aload_n 0, 1) := by decide +kernel
theorem dX12_readWordOf_1 : decode cX12_readWordOf 1 = .ok (.iconst 0, 1) := by decide +kernel
theorem dX12_readWordOf_2 : decode cX12_readWordOf 2 = .ok (.bipush 8, 2) := by decide +kernel
theorem dX12_readWordOf_4 : decode cX12_readWordOf 4 = .ok (.invokevirtual 255, 3) := by decide +kernel
theorem dX12_readWordOf_7 : decode cX12_readWordOf 7 = .ok (.istore_n 1, 1) := by decide +kernel
theorem dX12_readWordOf_8 : decode cX12_readWordOf 8 = .ok (.aload_n 0, 1) := by decide +kernel
theorem dX12_readWordOf_9 : decode cX12_readWordOf 9 = .ok (.getfield 35, 3) := by decide +kernel
theorem dX12_readWordOf_12 : decode cX12_readWordOf 12 = .ok (.sipush 1797, 3) := by decide +kernel
theorem dX12_readWordOf_15 : decode cX12_readWordOf 15 = .ok (.iload_n 1, 1) := by decide +kernel
theorem dX12_readWordOf_16 : decode cX12_readWordOf 16 = .ok (.iadd, 1) := by decide +kernel
theorem dX12_readWordOf_17 : decode cX12_readWordOf 17 = .ok (.aload_n 0, 1) := by decide +kernel
theorem dX12_readWordOf_18 : decode cX12_readWordOf 18 = .ok (.aload_n 0, 1) := by decide +kernel
theorem dX12_readWordOf_19 : decode cX12_readWordOf 19 = .ok (.invokevirtual 165, 3) := by decide +kernel
theorem dX12_readWordOf_22 : decode cX12_readWordOf 22 = .ok (.invokevirtual 258, 3) := by decide +kernel
theorem dX12_readWordOf_25 : decode cX12_readWordOf 25 = .ok (.ifCond .eq 13, 3) := by decide +kernel
theorem dX12_readWordOf_28 : decode cX12_readWordOf 28 = .ok (.aload_n 0, 1) := by decide +kernel
theorem dX12_readWordOf_29 : decode cX12_readWordOf 29 = .ok (.iconst 1, 1) := by decide +kernel
theorem dX12_readWordOf_30 : decode cX12_readWordOf 30 = .ok (.bipush 9, 2) := by decide +kernel
theorem dX12_readWordOf_32 : decode cX12_readWordOf 32 = .ok (.invokevirtual 231, 3) := by decide +kernel
theorem dX12_readWordOf_35 : decode cX12_readWordOf 35 = .ok (.goto 4, 3) := by decide +kernel
theorem dX12_readWordOf_38 : decode cX12_readWordOf 38 = .ok (.iconst 1, 1) := by decide +kernel
theorem dX12_readWordOf_39 : decode cX12_readWordOf 39 = .ok (.iastore, 1) := by decide +kernel
theorem dX12_readWordOf_40 : decode cX12_readWordOf 40 = .ok (.aload_n 0, 1) := by decide +kernel
theorem dX12_readWordOf_41 : decode cX12_readWordOf 41 = .ok (.getfield 35, 3) := by decide +kernel
theorem dX12_readWordOf_44 : decode cX12_readWordOf 44 = .ok (.sipush 1805, 3) := by decide +kernel
theorem dX12_readWordOf_47 : decode cX12_readWordOf 47 = .ok (.iload_n 1, 1) := by decide +kernel
theorem dX12_readWordOf_48 : decode cX12_readWordOf 48 = .ok (.iadd, 1) := by decide +kernel
theorem dX12_readWordOf_49 : decode cX12_readWordOf 49 = .ok (.aload_n 0, 1) := by decide +kernel
theorem dX12_readWordOf_50 : decode cX12_readWordOf 50 = .ok (.aload_n 0, 1) := by decide +kernel
theorem dX12_readWordOf_51 : decode cX12_readWordOf 51 = .ok (.invokevirtual 168, 3) := by decide +kernel
theorem dX12_readWordOf_54 : decode cX12_readWordOf 54 = .ok (.invokevirtual 258, 3) := by decide +kernel
theorem dX12_readWordOf_57 : decode cX12_readWordOf 57 = .ok (.ifCond .eq 13, 3) := by decide +kernel
theorem dX12_readWordOf_60 : decode cX12_readWordOf 60 = .ok (.aload_n 0, 1) := by decide +kernel
theorem dX12_readWordOf_61 : decode cX12_readWordOf 61 = .ok (.iconst 1, 1) := by decide +kernel
theorem dX12_readWordOf_62 : decode cX12_readWordOf 62 = .ok (.bipush 99, 2) := by decide +kernel
theorem dX12_readWordOf_64 : decode cX12_readWordOf 64 = .ok (.invokevirtual 231, 3) := by decide +kernel
theorem dX12_readWordOf_67 : decode cX12_readWordOf 67 = .ok (.goto 5, 3) := by decide +kernel
theorem dX12_readWordOf_70 : decode cX12_readWordOf 70 = .ok (.bipush 30, 2) := by decide +kernel
theorem dX12_readWordOf_72 : decode cX12_readWordOf 72 = .ok (.iastore, 1) := by decide +kernel
theorem dX12_readWordOf_73 : decode cX12_readWordOf 73 = .ok (.aload_n 0, 1) := by decide +kernel
theorem dX12_readWordOf_74 : decode cX12_readWordOf 74 = .ok (.getfield 211, 3) := by decide +kernel
theorem dX12_readWordOf_77 : decode cX12_readWordOf 77 = .ok (.ifCond .ne 15, 3) := by decide +kernel
theorem dX12_readWordOf_80 : decode cX12_readWordOf 80 = .ok (.aload_n 0, 1) := by decide +kernel
theorem dX12_readWordOf_81 : decode cX12_readWordOf 81 = .ok (.getfield 35, 3) := by decide +kernel
theorem dX12_readWordOf_84 : decode cX12_readWordOf 84 = .ok (.sipush 1788, 3) := by decide +kernel
theorem dX12_readWordOf_87 : decode cX12_readWordOf 87 = .ok (.dup2, 1) := by decide +kernel
theorem dX12_readWordOf_88 : decode cX12_readWordOf 88 = .ok (.iaload, 1) := by decide +kernel
theorem dX12_readWordOf_89 : decode cX12_readWordOf 89 = .ok (.iconst 1, 1) := by decide +kernel
theorem dX12_readWordOf_90 : decode cX12_readWordOf 90 = .ok (.iadd, 1) := by decide +kernel
theorem dX12_readWordOf_91 : decode cX12_readWordOf 91 = .ok (.iastore, 1) := by decide +kernel
theorem dX12_readWordOf_92 : decode cX12_readWordOf 92 = .ok (.return_, 1) := by decide +kernel
theorem mw_X12_readWordOf : MW yX12_readWordOf cX12_readWordOf 2 2 0 false := ⟨tm 1834 (by decide +kernel) rfl, tm 249 (by decide +kernel) rfl, by decide, by decide, (by rw [if_neg (by decide)]; exact ⟨tm 1833 (by decide +kernel) rfl, tm 139 (by decide +kernel) rfl⟩)⟩
def M_readWordOf_J72  (t1 t2 : Int) (σ : Sg) : Rs := (wr 2235 t1 (up_s σ 5 (Int.toNat t1) t2) (fun s12 => (if (s12 0 12) = 0 then (rd 2235 1788 (s12 5 (Int.toNat 1788)) (fun x13 => (wr 2235 1788 (up_s s12 5 (Int.toNat 1788) (w32 (x13 + 1))) (fun s14 => (some (0, s14)))))) else (some (0, s12)))))
theorem ok_M_readWordOf_J72 : ∀ (t1 t2 : Int) (σ : Sg), G l Km Pm RX12 cX12_readWordOf 2 2 6 72 [some (.inr (.inr 0)), none] [.inl t2, .inl t1, .inr (.inr 5)] σ (M_readWordOf_J72  t1 t2 σ) := by
  intro t1 t2 σ
  unfold M_readWordOf_J72
  refine g_iast km_5 dX12_readWordOf_72 ?_
  intro s12
  refine g_aload_n dX12_readWordOf_73 rfl rfl ?_
  refine g_geti fl_RX12_211 km_0 (by decide) dX12_readWordOf_74 ?_
  refine g_ifne (tgt := 92) dX12_readWordOf_77 (by decide) ?_ ?_
  · refine g_aload_n dX12_readWordOf_80 rfl rfl ?_
    refine g_getr' (q := 5) fl_RX12_35 km_0 (by decide) rfl dX12_readWordOf_81 ?_
    refine g_sipush dX12_readWordOf_84 (by decide) ?_
    refine g_dup2 dX12_readWordOf_87 rfl rfl ?_
    refine g_iald km_5 dX12_readWordOf_88 ?_
    intro x13
    refine g_iconst dX12_readWordOf_89 (by decide) ?_
    refine g_iadd dX12_readWordOf_90 ?_
    refine g_iast km_5 dX12_readWordOf_91 ?_
    intro s14
    exact g_vret dX12_readWordOf_92
  · exact g_vret dX12_readWordOf_92
def M_readWordOf_J39 (v1 : Int) (t1 t2 : Int) (σ : Sg) : Rs := (wr 2235 t1 (up_s σ 5 (Int.toNat t1) t2) (fun s7 => (bd (M_isGrey s7) (fun r8 s9 => (bd (M_perhaps r8 s9) (fun r10 s11 => (if r10 = 0 then (M_readWordOf_J72 (w32 (1805 + v1)) 30 s11) else (bd (M_count 1 99 s11) (fun r15 s16 => (M_readWordOf_J72 (w32 (1805 + v1)) r15 s16))))))))))
theorem ok_M_readWordOf_J39 (v1 : Int) : ∀ (t1 t2 : Int) (σ : Sg), G l Km Pm RX12 cX12_readWordOf 2 2 6 39 [some (.inr (.inr 0)), some (.inl v1)] [.inl t2, .inl t1, .inr (.inr 5)] σ (M_readWordOf_J39 v1 t1 t2 σ) := by
  intro t1 t2 σ
  unfold M_readWordOf_J39
  refine g_iast km_5 dX12_readWordOf_39 ?_
  intro s7
  refine g_aload_n dX12_readWordOf_40 rfl rfl ?_
  refine g_getr' (q := 5) fl_RX12_35 km_0 (by decide) rfl dX12_readWordOf_41 ?_
  refine g_sipush dX12_readWordOf_44 (by decide) ?_
  refine g_iload_n dX12_readWordOf_47 rfl rfl ?_
  refine g_iadd dX12_readWordOf_48 ?_
  refine g_aload_n dX12_readWordOf_49 rfl rfl ?_
  refine g_aload_n dX12_readWordOf_50 rfl rfl ?_
  refine g_callv3 (st := [.inr (.inr 0), .inl (w32 (1805 + v1)), .inr (.inr 5)]) 10 mw_X12_isGrey lk_RX12_168 rfl km_0 (ok_M_isGrey s7) (Nat.le_of_ble_eq_true rfl) rfl rfl (Nat.le_of_ble_eq_true rfl) dX12_readWordOf_51 ?_
  intro r8 s9
  refine g_callv3 (st := [.inl (w32 (1805 + v1)), .inr (.inr 5)]) 10 mw_X12_perhaps lk_RX12_258 rfl km_0 (ok_M_perhaps r8 s9) (Nat.le_of_ble_eq_true rfl) rfl rfl (Nat.le_of_ble_eq_true rfl) dX12_readWordOf_54 ?_
  intro r10 s11
  refine g_ifeq (tgt := 70) dX12_readWordOf_57 (by decide) ?_ ?_
  · refine g_bipush dX12_readWordOf_70 (by decide) ?_
    refine (g_weak [true, false] (ok_M_readWordOf_J72 (w32 (1805 + v1)) 30 s11))
  · refine g_aload_n dX12_readWordOf_60 rfl rfl ?_
    refine g_iconst dX12_readWordOf_61 (by decide) ?_
    refine g_bipush dX12_readWordOf_62 (by decide) ?_
    refine g_callv0 (st := [.inl (w32 (1805 + v1)), .inr (.inr 5)]) 10 mw_X12_count lk_RX12_231 rfl km_0 (ok_M_count 1 99 s11) (Nat.le_of_ble_eq_true rfl) rfl rfl (Nat.le_of_ble_eq_true rfl) dX12_readWordOf_64 ?_
    intro r15 s16
    refine g_goto (tgt := 72) dX12_readWordOf_67 (by decide) ?_
    refine (g_weak [true, false] (ok_M_readWordOf_J72 (w32 (1805 + v1)) r15 s16))
def M_readWordOf  (σ : Sg) : Rs := (bd (M_readNew 0 8 σ) (fun r1 s2 => (bd (M_isGrows s2) (fun r3 s4 => (bd (M_perhaps r3 s4) (fun r5 s6 => (if r5 = 0 then (M_readWordOf_J39 r1 (w32 (1797 + r1)) 1 s6) else (bd (M_count 1 9 s6) (fun r17 s18 => (M_readWordOf_J39 r1 (w32 (1797 + r1)) r17 s18))))))))))
theorem ok_M_readWordOf (σ : Sg) : MC l Km Pm yX12_readWordOf cX12_readWordOf 2 2 6 [.inr (.inr 0)] σ (M_readWordOf σ) := by
  refine mc_of (by decide) (Nat.le_of_ble_eq_true rfl) ?_
  change G l Km Pm RX12 cX12_readWordOf 2 2 6 0 [some (.inr (.inr 0)), none] [] σ (M_readWordOf  σ)
  unfold M_readWordOf
  refine g_aload_n dX12_readWordOf_0 rfl rfl ?_
  refine g_iconst dX12_readWordOf_1 (by decide) ?_
  refine g_bipush dX12_readWordOf_2 (by decide) ?_
  refine g_callv0 (st := []) 10 mw_X12_readNew lk_RX12_255 rfl km_0 (ok_M_readNew 0 8 σ) (Nat.le_of_ble_eq_true rfl) rfl rfl (Nat.le_of_ble_eq_true rfl) dX12_readWordOf_4 ?_
  intro r1 s2
  refine g_istore_n (lv' := [some (.inr (.inr 0)), some (.inl r1)]) dX12_readWordOf_7 rfl (Nat.le_of_ble_eq_true rfl) rfl ?_
  refine g_aload_n dX12_readWordOf_8 rfl rfl ?_
  refine g_getr' (q := 5) fl_RX12_35 km_0 (by decide) rfl dX12_readWordOf_9 ?_
  refine g_sipush dX12_readWordOf_12 (by decide) ?_
  refine g_iload_n dX12_readWordOf_15 rfl rfl ?_
  refine g_iadd dX12_readWordOf_16 ?_
  refine g_aload_n dX12_readWordOf_17 rfl rfl ?_
  refine g_aload_n dX12_readWordOf_18 rfl rfl ?_
  refine g_callv3 (st := [.inr (.inr 0), .inl (w32 (1797 + r1)), .inr (.inr 5)]) 10 mw_X12_isGrows lk_RX12_165 rfl km_0 (ok_M_isGrows s2) (Nat.le_of_ble_eq_true rfl) rfl rfl (Nat.le_of_ble_eq_true rfl) dX12_readWordOf_19 ?_
  intro r3 s4
  refine g_callv3 (st := [.inl (w32 (1797 + r1)), .inr (.inr 5)]) 10 mw_X12_perhaps lk_RX12_258 rfl km_0 (ok_M_perhaps r3 s4) (Nat.le_of_ble_eq_true rfl) rfl rfl (Nat.le_of_ble_eq_true rfl) dX12_readWordOf_22 ?_
  intro r5 s6
  refine g_ifeq (tgt := 38) dX12_readWordOf_25 (by decide) ?_ ?_
  · refine g_iconst dX12_readWordOf_38 (by decide) ?_
    refine (ok_M_readWordOf_J39 r1 (w32 (1797 + r1)) 1 s6)
  · refine g_aload_n dX12_readWordOf_28 rfl rfl ?_
    refine g_iconst dX12_readWordOf_29 (by decide) ?_
    refine g_bipush dX12_readWordOf_30 (by decide) ?_
    refine g_callv0 (st := [.inl (w32 (1797 + r1)), .inr (.inr 5)]) 10 mw_X12_count lk_RX12_231 rfl km_0 (ok_M_count 1 9 s6) (Nat.le_of_ble_eq_true rfl) rfl rfl (Nat.le_of_ble_eq_true rfl) dX12_readWordOf_32 ?_
    intro r17 s18
    refine g_goto (tgt := 39) dX12_readWordOf_35 (by decide) ?_
    refine (ok_M_readWordOf_J39 r1 (w32 (1797 + r1)) r17 s18)
theorem dX12_readPart_0 : decode cX12_readPart 0 = .ok (.aload_n 0, 1) := by decide +kernel
theorem dX12_readPart_1 : decode cX12_readPart 1 = .ok (.invokevirtual 155, 3) := by decide +kernel
theorem dX12_readPart_4 : decode cX12_readPart 4 = .ok (.ifCond .eq 13, 3) := by decide +kernel
theorem dX12_readPart_7 : decode cX12_readPart 7 = .ok (.aload_n 0, 1) := by decide +kernel
theorem dX12_readPart_8 : decode cX12_readPart 8 = .ok (.iconst 0, 1) := by decide +kernel
theorem dX12_readPart_9 : decode cX12_readPart 9 = .ok (.bipush 99, 2) := by decide +kernel
theorem dX12_readPart_11 : decode cX12_readPart 11 = .ok (.invokevirtual 275, 3) := by decide +kernel
theorem dX12_readPart_14 : decode cX12_readPart 14 = .ok (.goto 80, 3) := by decide +kernel
theorem dX12_readPart_17 : decode cX12_readPart 17 = .ok (.aload_n 0, 1) := by decide +kernel
theorem dX12_readPart_18 : decode cX12_readPart 18 = .ok (.invokevirtual 159, 3) := by decide +kernel
theorem dX12_readPart_21 : decode cX12_readPart 21 = .ok (.ifCond .eq 13, 3) := by decide +kernel
theorem dX12_readPart_24 : decode cX12_readPart 24 = .ok (.aload_n 0, 1) := by decide +kernel
theorem dX12_readPart_25 : decode cX12_readPart 25 = .ok (.iconst 1, 1) := by decide +kernel
theorem dX12_readPart_26 : decode cX12_readPart 26 = .ok (.bipush 16, 2) := by decide +kernel
theorem dX12_readPart_28 : decode cX12_readPart 28 = .ok (.invokevirtual 275, 3) := by decide +kernel
theorem dX12_readPart_31 : decode cX12_readPart 31 = .ok (.goto 63, 3) := by decide +kernel
theorem dX12_readPart_34 : decode cX12_readPart 34 = .ok (.aload_n 0, 1) := by decide +kernel
theorem dX12_readPart_35 : decode cX12_readPart 35 = .ok (.invokevirtual 162, 3) := by decide +kernel
theorem dX12_readPart_38 : decode cX12_readPart 38 = .ok (.ifCond .eq 10, 3) := by decide +kernel
theorem dX12_readPart_41 : decode cX12_readPart 41 = .ok (.aload_n 0, 1) := by decide +kernel
theorem dX12_readPart_42 : decode cX12_readPart 42 = .ok (.invokevirtual 278, 3) := by decide +kernel
theorem dX12_readPart_45 : decode cX12_readPart 45 = .ok (.goto 49, 3) := by decide +kernel
theorem dX12_readPart_48 : decode cX12_readPart 48 = .ok (.aload_n 0, 1) := by decide +kernel
theorem dX12_readPart_49 : decode cX12_readPart 49 = .ok (.invokevirtual 171, 3) := by decide +kernel
theorem dX12_readPart_52 : decode cX12_readPart 52 = .ok (.ifCond .eq 10, 3) := by decide +kernel
theorem dX12_readPart_55 : decode cX12_readPart 55 = .ok (.aload_n 0, 1) := by decide +kernel
theorem dX12_readPart_56 : decode cX12_readPart 56 = .ok (.invokevirtual 281, 3) := by decide +kernel
theorem dX12_readPart_59 : decode cX12_readPart 59 = .ok (.goto 35, 3) := by decide +kernel
theorem dX12_readPart_62 : decode cX12_readPart 62 = .ok (.aload_n 0, 1) := by decide +kernel
theorem dX12_readPart_63 : decode cX12_readPart 63 = .ok (.invokevirtual 183, 3) := by decide +kernel
theorem dX12_readPart_66 : decode cX12_readPart 66 = .ok (.ifCond .eq 10, 3) := by decide +kernel
theorem dX12_readPart_69 : decode cX12_readPart 69 = .ok (.aload_n 0, 1) := by decide +kernel
theorem dX12_readPart_70 : decode cX12_readPart 70 = .ok (.invokevirtual 284, 3) := by decide +kernel
theorem dX12_readPart_73 : decode cX12_readPart 73 = .ok (.goto 21, 3) := by decide +kernel
theorem dX12_readPart_76 : decode cX12_readPart 76 = .ok (.aload_n 0, 1) := by decide +kernel
theorem dX12_readPart_77 : decode cX12_readPart 77 = .ok (.invokevirtual 189, 3) := by decide +kernel
theorem dX12_readPart_80 : decode cX12_readPart 80 = .ok (.ifCond .eq 10, 3) := by decide +kernel
theorem dX12_readPart_83 : decode cX12_readPart 83 = .ok (.aload_n 0, 1) := by decide +kernel
theorem dX12_readPart_84 : decode cX12_readPart 84 = .ok (.invokevirtual 287, 3) := by decide +kernel
theorem dX12_readPart_87 : decode cX12_readPart 87 = .ok (.goto 7, 3) := by decide +kernel
theorem dX12_readPart_90 : decode cX12_readPart 90 = .ok (.aload_n 0, 1) := by decide +kernel
theorem dX12_readPart_91 : decode cX12_readPart 91 = .ok (.invokevirtual 224, 3) := by decide +kernel
theorem dX12_readPart_94 : decode cX12_readPart 94 = .ok (.return_, 1) := by decide +kernel
theorem mw_X12_readPart : MW yX12_readPart cX12_readPart 1 2 0 false := ⟨tm 1789 (by decide +kernel) rfl, tm 249 (by decide +kernel) rfl, by decide, by decide, (by rw [if_neg (by decide)]; exact ⟨tm 1788 (by decide +kernel) rfl, tm 130 (by decide +kernel) rfl⟩)⟩
theorem lk_RX12_275 : LK RX12 275 yX12_readOnce := Or.inl (tm 1801 (by decide +kernel) rfl)
theorem lk_RX12_278 : LK RX12 278 yX12_readWordOf := Or.inl (tm 1831 (by decide +kernel) rfl)
theorem lk_RX12_281 : LK RX12 281 yX12_readPerson := Or.inl (tm 1911 (by decide +kernel) rfl)
theorem lk_RX12_284 : LK RX12 284 yX12_readDinner := Or.inl (tm 1928 (by decide +kernel) rfl)
theorem lk_RX12_287 : LK RX12 287 yX12_readHalves := Or.inl (tm 1944 (by decide +kernel) rfl)
def M_readPart  (σ : Sg) : Rs := (bd (M_isHeard σ) (fun r1 s2 => (if r1 = 0 then (bd (M_isOdds s2) (fun r3 s4 => (if r3 = 0 then (bd (M_isWordWord s4) (fun r5 s6 => (if r5 = 0 then (bd (M_isPerson s6) (fun r7 s8 => (if r7 = 0 then (bd (M_isDinner s8) (fun r9 s10 => (if r9 = 0 then (bd (M_isHalves s10) (fun r11 s12 => (if r11 = 0 then (bd (M_amiss s12) (fun r13 s14 => (some (0, s14)))) else (bd (M_readHalves s12) (fun r15 s16 => (some (0, s16))))))) else (bd (M_readDinner s10) (fun r17 s18 => (some (0, s18))))))) else (bd (M_readPerson s8) (fun r19 s20 => (some (0, s20))))))) else (bd (M_readWordOf s6) (fun r21 s22 => (some (0, s22))))))) else (bd (M_readOnce 1 16 s4) (fun r23 s24 => (some (0, s24))))))) else (bd (M_readOnce 0 99 s2) (fun r25 s26 => (some (0, s26)))))))
theorem ok_M_readPart (σ : Sg) : MC l Km Pm yX12_readPart cX12_readPart 1 2 8 [.inr (.inr 0)] σ (M_readPart σ) := by
  refine mc_of (by decide) (Nat.le_of_ble_eq_true rfl) ?_
  change G l Km Pm RX12 cX12_readPart 1 2 8 0 [some (.inr (.inr 0))] [] σ (M_readPart  σ)
  unfold M_readPart
  refine g_aload_n dX12_readPart_0 rfl rfl ?_
  refine g_callv3 (st := []) 10 mw_X12_isHeard lk_RX12_155 rfl km_0 (ok_M_isHeard σ) (Nat.le_of_ble_eq_true rfl) rfl rfl (Nat.le_of_ble_eq_true rfl) dX12_readPart_1 ?_
  intro r1 s2
  refine g_ifeq (tgt := 17) dX12_readPart_4 (by decide) ?_ ?_
  · refine g_aload_n dX12_readPart_17 rfl rfl ?_
    refine g_callv3 (st := []) 10 mw_X12_isOdds lk_RX12_159 rfl km_0 (ok_M_isOdds s2) (Nat.le_of_ble_eq_true rfl) rfl rfl (Nat.le_of_ble_eq_true rfl) dX12_readPart_18 ?_
    intro r3 s4
    refine g_ifeq (tgt := 34) dX12_readPart_21 (by decide) ?_ ?_
    · refine g_aload_n dX12_readPart_34 rfl rfl ?_
      refine g_callv3 (st := []) 10 mw_X12_isWordWord lk_RX12_162 rfl km_0 (ok_M_isWordWord s4) (Nat.le_of_ble_eq_true rfl) rfl rfl (Nat.le_of_ble_eq_true rfl) dX12_readPart_35 ?_
      intro r5 s6
      refine g_ifeq (tgt := 48) dX12_readPart_38 (by decide) ?_ ?_
      · refine g_aload_n dX12_readPart_48 rfl rfl ?_
        refine g_callv3 (st := []) 10 mw_X12_isPerson lk_RX12_171 rfl km_0 (ok_M_isPerson s6) (Nat.le_of_ble_eq_true rfl) rfl rfl (Nat.le_of_ble_eq_true rfl) dX12_readPart_49 ?_
        intro r7 s8
        refine g_ifeq (tgt := 62) dX12_readPart_52 (by decide) ?_ ?_
        · refine g_aload_n dX12_readPart_62 rfl rfl ?_
          refine g_callv3 (st := []) 10 mw_X12_isDinner lk_RX12_183 rfl km_0 (ok_M_isDinner s8) (Nat.le_of_ble_eq_true rfl) rfl rfl (Nat.le_of_ble_eq_true rfl) dX12_readPart_63 ?_
          intro r9 s10
          refine g_ifeq (tgt := 76) dX12_readPart_66 (by decide) ?_ ?_
          · refine g_aload_n dX12_readPart_76 rfl rfl ?_
            refine g_callv3 (st := []) 10 mw_X12_isHalves lk_RX12_189 rfl km_0 (ok_M_isHalves s10) (Nat.le_of_ble_eq_true rfl) rfl rfl (Nat.le_of_ble_eq_true rfl) dX12_readPart_77 ?_
            intro r11 s12
            refine g_ifeq (tgt := 90) dX12_readPart_80 (by decide) ?_ ?_
            · refine g_aload_n dX12_readPart_90 rfl rfl ?_
              refine g_callv2 (st := []) 10 mw_X12_amiss lk_RX12_224 rfl km_0 (ok_M_amiss s12) (Nat.le_of_ble_eq_true rfl) rfl rfl (Nat.le_of_ble_eq_true rfl) dX12_readPart_91 ?_
              intro r13 s14
              exact g_vret dX12_readPart_94
            · refine g_aload_n dX12_readPart_83 rfl rfl ?_
              refine g_callv2 (st := []) 10 mw_X12_readHalves lk_RX12_287 rfl km_0 (ok_M_readHalves s12) (Nat.le_of_ble_eq_true rfl) rfl rfl (Nat.le_of_ble_eq_true rfl) dX12_readPart_84 ?_
              intro r15 s16
              refine g_goto (tgt := 94) dX12_readPart_87 (by decide) ?_
              exact g_vret dX12_readPart_94
          · refine g_aload_n dX12_readPart_69 rfl rfl ?_
            refine g_callv2 (st := []) 10 mw_X12_readDinner lk_RX12_284 rfl km_0 (ok_M_readDinner s10) (Nat.le_of_ble_eq_true rfl) rfl rfl (Nat.le_of_ble_eq_true rfl) dX12_readPart_70 ?_
            intro r17 s18
            refine g_goto (tgt := 94) dX12_readPart_73 (by decide) ?_
            exact g_vret dX12_readPart_94
        · refine g_aload_n dX12_readPart_55 rfl rfl ?_
          refine g_callv2 (st := []) 10 mw_X12_readPerson lk_RX12_281 rfl km_0 (ok_M_readPerson s8) (Nat.le_of_ble_eq_true rfl) rfl rfl (Nat.le_of_ble_eq_true rfl) dX12_readPart_56 ?_
          intro r19 s20
          refine g_goto (tgt := 94) dX12_readPart_59 (by decide) ?_
          exact g_vret dX12_readPart_94
      · refine g_aload_n dX12_readPart_41 rfl rfl ?_
        refine g_callv2 (st := []) 10 mw_X12_readWordOf lk_RX12_278 rfl km_0 (ok_M_readWordOf s6) (Nat.le_of_ble_eq_true rfl) rfl rfl (Nat.le_of_ble_eq_true rfl) dX12_readPart_42 ?_
        intro r21 s22
        refine g_goto (tgt := 94) dX12_readPart_45 (by decide) ?_
        exact g_vret dX12_readPart_94
    · refine g_aload_n dX12_readPart_24 rfl rfl ?_
      refine g_iconst dX12_readPart_25 (by decide) ?_
      refine g_bipush dX12_readPart_26 (by decide) ?_
      refine g_callv2 (st := []) 10 mw_X12_readOnce lk_RX12_275 rfl km_0 (ok_M_readOnce 1 16 s4) (Nat.le_of_ble_eq_true rfl) rfl rfl (Nat.le_of_ble_eq_true rfl) dX12_readPart_28 ?_
      intro r23 s24
      refine g_goto (tgt := 94) dX12_readPart_31 (by decide) ?_
      exact g_vret dX12_readPart_94
  · refine g_aload_n dX12_readPart_7 rfl rfl ?_
    refine g_iconst dX12_readPart_8 (by decide) ?_
    refine g_bipush dX12_readPart_9 (by decide) ?_
    refine g_callv2 (st := []) 10 mw_X12_readOnce lk_RX12_275 rfl km_0 (ok_M_readOnce 0 99 s2) (Nat.le_of_ble_eq_true rfl) rfl rfl (Nat.le_of_ble_eq_true rfl) dX12_readPart_11 ?_
    intro r25 s26
    refine g_goto (tgt := 94) dX12_readPart_14 (by decide) ?_
    exact g_vret dX12_readPart_94
theorem dX12_starts_0 : decode cX12_starts 0 = .ok (.iload_n 1, 1) := by decide +kernel
theorem dX12_starts_1 : decode cX12_starts 1 = .ok (.ifCond .lt 16, 3) := by decide +kernel
theorem dX12_starts_4 : decode cX12_starts 4 = .ok (.iload_n 1, 1) := by decide +kernel
theorem dX12_starts_5 : decode cX12_starts 5 = .ok (.aload_n 0, 1) := by decide +kernel
theorem dX12_starts_6 : decode cX12_starts 6 = .ok (.getfield 234, 3) := by decide +kernel
theorem dX12_starts_9 : decode cX12_starts 9 = .ok (.if_icmp .gt 8, 3) := by decide +kernel
theorem dX12_starts_12 : decode cX12_starts 12 = .ok (.iload_n 1, 1) := by decide +kernel
theorem dX12_starts_13 : decode cX12_starts 13 = .ok (.iload_n 2, 1) := by decide +kernel
theorem dX12_starts_14 : decode cX12_starts 14 = .ok (.if_icmp .le 9, 3) := by decide +kernel
theorem dX12_starts_17 : decode cX12_starts 17 = .ok (.aload_n 0, 1) := by decide +kernel
theorem dX12_starts_18 : decode cX12_starts 18 = .ok (.iconst 5, 1) := by decide +kernel
theorem dX12_starts_19 : decode cX12_starts 19 = .ok (.invokevirtual 82, 3) := by decide +kernel
theorem dX12_starts_22 : decode cX12_starts 22 = .ok (.ireturn, 1) := by decide +kernel
theorem dX12_starts_23 : decode cX12_starts 23 = .ok (.aload_n 0, 1) := by decide +kernel
theorem dX12_starts_24 : decode cX12_starts 24 = .ok (.iload_n 1, 1) := by decide +kernel
theorem dX12_starts_25 : decode cX12_starts 25 = .ok (.putfield 110, 3) := by decide +kernel
theorem dX12_starts_28 : decode cX12_starts 28 = .ok (.aload_n 0, 1) := by decide +kernel
theorem dX12_starts_29 : decode cX12_starts 29 = .ok (.iconst 0, 1) := by decide +kernel
theorem dX12_starts_30 : decode cX12_starts 30 = .ok (.putfield 234, 3) := by decide +kernel
theorem dX12_starts_33 : decode cX12_starts 33 = .ok (.aload_n 0, 1) := by decide +kernel
theorem dX12_starts_34 : decode cX12_starts 34 = .ok (.iconst 0, 1) := by decide +kernel
theorem dX12_starts_35 : decode cX12_starts 35 = .ok (.putfield 113, 3) := by decide +kernel
theorem dX12_starts_38 : decode cX12_starts 38 = .ok (.aload_n 0, 1) := by decide +kernel
theorem dX12_starts_39 : decode cX12_starts 39 = .ok (.iconst 0, 1) := by decide +kernel
theorem dX12_starts_40 : decode cX12_starts 40 = .ok (.putfield 211, 3) := by decide +kernel
theorem dX12_starts_43 : decode cX12_starts 43 = .ok (.aload_n 0, 1) := by decide +kernel
theorem dX12_starts_44 : decode cX12_starts 44 = .ok (.invokevirtual 221, 3) := by decide +kernel
theorem dX12_starts_47 : decode cX12_starts 47 = .ok (.iconst 1, 1) := by decide +kernel
theorem dX12_starts_48 : decode cX12_starts 48 = .ok (.ireturn, 1) := by decide +kernel
theorem mw_X12_starts : MW yX12_starts cX12_starts 3 3 2 false := ⟨tm 1765 (by decide +kernel) rfl, tm 249 (by decide +kernel) rfl, by decide, by decide, (by rw [if_neg (by decide)]; exact ⟨tm 1764 (by decide +kernel) rfl, tm 126 (by decide +kernel) rfl⟩)⟩
def M_starts (a1 : Int) (a2 : Int) (σ : Sg) : Rs := (if a1 < 0 then (bd (M_no 5 σ) (fun r1 s2 => (zb r1 (some (r1, s2))))) else (if (σ 0 8) < a1 then (bd (M_no 5 σ) (fun r3 s4 => (zb r3 (some (r3, s4))))) else (if a2 < a1 then (bd (M_no 5 σ) (fun r5 s6 => (zb r5 (some (r5, s6))))) else (nm (up_s σ 0 9 a1) (fun s7 => (nm (up_s s7 0 8 0) (fun s8 => (nm (up_s s8 0 16 0) (fun s9 => (nm (up_s s9 0 12 0) (fun s10 => (bd (M_advance s10) (fun r11 s12 => (some (1, s12)))))))))))))))
theorem ok_M_starts (a1 : Int) (a2 : Int) (σ : Sg) : MC l Km Pm yX12_starts cX12_starts 3 3 3 [.inr (.inr 0), .inl a1, .inl a2] σ (M_starts a1 a2 σ) := by
  refine mc_of (by decide) (Nat.le_of_ble_eq_true rfl) ?_
  change G l Km Pm RX12 cX12_starts 3 3 3 0 [some (.inr (.inr 0)), some (.inl a1), some (.inl a2)] [] σ (M_starts a1 a2 σ)
  unfold M_starts
  refine g_iload_n dX12_starts_0 rfl rfl ?_
  refine g_iflt (tgt := 17) dX12_starts_1 (by decide) ?_ ?_
  · refine g_aload_n dX12_starts_17 rfl rfl ?_
    refine g_iconst dX12_starts_18 (by decide) ?_
    refine g_callv3 (st := []) 10 mw_X12_no lk_RX12_82 rfl km_0 (ok_M_no 5 σ) (Nat.le_of_ble_eq_true rfl) rfl rfl (Nat.le_of_ble_eq_true rfl) dX12_starts_19 ?_
    intro r1 s2
    exact g_zret dX12_starts_22
  · refine g_iload_n dX12_starts_4 rfl rfl ?_
    refine g_aload_n dX12_starts_5 rfl rfl ?_
    refine g_geti fl_RX12_234 km_0 (by decide) dX12_starts_6 ?_
    refine g_icmpgt (tgt := 17) dX12_starts_9 (by decide) ?_ ?_
    · refine g_aload_n dX12_starts_17 rfl rfl ?_
      refine g_iconst dX12_starts_18 (by decide) ?_
      refine g_callv3 (st := []) 10 mw_X12_no lk_RX12_82 rfl km_0 (ok_M_no 5 σ) (Nat.le_of_ble_eq_true rfl) rfl rfl (Nat.le_of_ble_eq_true rfl) dX12_starts_19 ?_
      intro r3 s4
      exact g_zret dX12_starts_22
    · refine g_iload_n dX12_starts_12 rfl rfl ?_
      refine g_iload_n dX12_starts_13 rfl rfl ?_
      refine g_icmple (tgt := 23) dX12_starts_14 (by decide) ?_ ?_
      · refine g_aload_n dX12_starts_17 rfl rfl ?_
        refine g_iconst dX12_starts_18 (by decide) ?_
        refine g_callv3 (st := []) 10 mw_X12_no lk_RX12_82 rfl km_0 (ok_M_no 5 σ) (Nat.le_of_ble_eq_true rfl) rfl rfl (Nat.le_of_ble_eq_true rfl) dX12_starts_19 ?_
        intro r5 s6
        exact g_zret dX12_starts_22
      · refine g_aload_n dX12_starts_23 rfl rfl ?_
        refine g_iload_n dX12_starts_24 rfl rfl ?_
        refine g_puti fl_RX12_110 km_0 (by decide) dX12_starts_25 ?_
        intro s7
        refine g_aload_n dX12_starts_28 rfl rfl ?_
        refine g_iconst dX12_starts_29 (by decide) ?_
        refine g_puti fl_RX12_234 km_0 (by decide) dX12_starts_30 ?_
        intro s8
        refine g_aload_n dX12_starts_33 rfl rfl ?_
        refine g_iconst dX12_starts_34 (by decide) ?_
        refine g_puti fl_RX12_113 km_0 (by decide) dX12_starts_35 ?_
        intro s9
        refine g_aload_n dX12_starts_38 rfl rfl ?_
        refine g_iconst dX12_starts_39 (by decide) ?_
        refine g_puti fl_RX12_211 km_0 (by decide) dX12_starts_40 ?_
        intro s10
        refine g_aload_n dX12_starts_43 rfl rfl ?_
        refine g_callv2 (st := []) 10 mw_X12_advance lk_RX12_221 rfl km_0 (ok_M_advance s10) (Nat.le_of_ble_eq_true rfl) rfl rfl (Nat.le_of_ble_eq_true rfl) dX12_starts_44 ?_
        intro r11 s12
        refine g_iconst dX12_starts_47 (by decide) ?_
        exact g_zret1 dX12_starts_48
theorem dX12_province_0 : decode cX12_province 0 = .ok (.aload_n 0, 1) := by decide +kernel
theorem dX12_province_1 : decode cX12_province 1 = .ok (.iconst 0, 1) := by decide +kernel
theorem dX12_province_2 : decode cX12_province 2 = .ok (.putfield 67, 3) := by decide +kernel
theorem dX12_province_5 : decode cX12_province 5 = .ok (.aload_n 0, 1) := by decide +kernel
theorem dX12_province_6 : decode cX12_province 6 = .ok (.iconst 0, 1) := by decide +kernel
theorem dX12_province_7 : decode cX12_province 7 = .ok (.putfield 70, 3) := by decide +kernel
theorem dX12_province_10 : decode cX12_province 10 = .ok (.aload_n 0, 1) := by decide +kernel
theorem dX12_province_11 : decode cX12_province 11 = .ok (.iload_n 1, 1) := by decide +kernel
theorem dX12_province_12 : decode cX12_province 12 = .ok (.sipush 900, 3) := by decide +kernel
theorem dX12_province_15 : decode cX12_province 15 = .ok (.invokevirtual 290, 3) := by decide +kernel
theorem dX12_province_18 : decode cX12_province 18 = .ok (.ifCond .ne 5, 3) := by decide +kernel
theorem dX12_province_21 : decode cX12_province 21 = .ok (.iconst (-1), 1) := by decide +kernel
theorem dX12_province_22 : decode cX12_province 22 = .ok (.ireturn, 1) := by decide +kernel
theorem dX12_province_23 : decode cX12_province 23 = .ok (.aload_n 0, 1) := by decide +kernel
theorem dX12_province_24 : decode cX12_province 24 = .ok (.iconst 4, 1) := by decide +kernel
theorem dX12_province_25 : decode cX12_province 25 = .ok (.invokevirtual 63, 3) := by decide +kernel
theorem dX12_province_28 : decode cX12_province 28 = .ok (.aload_n 0, 1) := by decide +kernel
theorem dX12_province_29 : decode cX12_province 29 = .ok (.iconst 0, 1) := by decide +kernel
theorem dX12_province_30 : decode cX12_province 30 = .ok (.putfield 252, 3) := by decide +kernel
theorem dX12_province_33 : decode cX12_province 33 = .ok (.aload_n 0, 1) := by decide +kernel
theorem dX12_province_34 : decode cX12_province 34 = .ok (.getfield 211, 3) := by decide +kernel
theorem dX12_province_37 : decode cX12_province 37 = .ok (.ifCond .ne 27, 3) := by decide +kernel
theorem dX12_province_40 : decode cX12_province 40 = .ok (.aload_n 0, 1) := by decide +kernel
theorem dX12_province_41 : decode cX12_province 41 = .ok (.getfield 122, 3) := by decide +kernel
theorem dX12_province_44 : decode cX12_province 44 = .ok (.ifCond .eq 20, 3) := by decide +kernel
theorem dX12_province_47 : decode cX12_province 47 = .ok (.aload_n 0, 1) := by decide +kernel
theorem dX12_province_48 : decode cX12_province 48 = .ok (.invokevirtual 293, 3) := by decide +kernel
theorem dX12_province_51 : decode cX12_province 51 = .ok (.aload_n 0, 1) := by decide +kernel
theorem dX12_province_52 : decode cX12_province 52 = .ok (.aload_n 0, 1) := by decide +kernel
theorem dX12_province_53 : decode cX12_province 53 = .ok (.bipush 59, 2) := by decide +kernel
theorem dX12_province_55 : decode cX12_province 55 = .ok (.invokevirtual 296, 3) := by decide +kernel
theorem dX12_province_58 : decode cX12_province 58 = .ok (.invokevirtual 227, 3) := by decide +kernel
theorem dX12_province_61 : decode cX12_province 61 = .ok (.goto (-28), 3) := by decide +kernel
theorem dX12_province_64 : decode cX12_province 64 = .ok (.aload_n 0, 1) := by decide +kernel
theorem dX12_province_65 : decode cX12_province 65 = .ok (.invokevirtual 299, 3) := by decide +kernel
theorem dX12_province_68 : decode cX12_province 68 = .ok (.ifCond .ne 5, 3) := by decide +kernel
theorem dX12_province_71 : decode cX12_province 71 = .ok (.iconst (-1), 1) := by decide +kernel
theorem dX12_province_72 : decode cX12_province 72 = .ok (.ireturn, 1) := by decide +kernel
theorem dX12_province_73 : decode cX12_province 73 = .ok (.aload_n 0, 1) := by decide +kernel
theorem dX12_province_74 : decode cX12_province 74 = .ok (.iconst 4, 1) := by decide +kernel
theorem dX12_province_75 : decode cX12_province 75 = .ok (.iconst 0, 1) := by decide +kernel
theorem dX12_province_76 : decode cX12_province 76 = .ok (.invokevirtual 302, 3) := by decide +kernel
theorem dX12_province_79 : decode cX12_province 79 = .ok (.aload_n 0, 1) := by decide +kernel
theorem dX12_province_80 : decode cX12_province 80 = .ok (.getfield 35, 3) := by decide +kernel
theorem dX12_province_83 : decode cX12_province 83 = .ok (.iconst 1, 1) := by decide +kernel
theorem dX12_province_84 : decode cX12_province 84 = .ok (.iaload, 1) := by decide +kernel
theorem dX12_province_85 : decode cX12_province 85 = .ok (.ireturn, 1) := by decide +kernel
theorem mw_X12_province : MW yX12_province cX12_province 2 0 1 false := ⟨tm 1761 (by decide +kernel) rfl, tm 249 (by decide +kernel) rfl, by decide, by decide, (by rw [if_neg (by decide)]; exact ⟨tm 1759 (by decide +kernel) rfl, tm 1760 (by decide +kernel) rfl⟩)⟩
theorem lk_RX12_63 : LK RX12 63 yX12_empties := Or.inl (tm 1564 (by decide +kernel) rfl)
theorem lk_RX12_290 : LK RX12 290 yX12_starts := Or.inl (tm 1762 (by decide +kernel) rfl)
theorem lk_RX12_293 : LK RX12 293 yX12_readPart := Or.inl (tm 1786 (by decide +kernel) rfl)
theorem lk_RX12_296 : LK RX12 296 yX12_isSign := Or.inl (tm 1948 (by decide +kernel) rfl)
theorem lk_RX12_299 : LK RX12 299 yX12_isWell := Or.inl (tm 1952 (by decide +kernel) rfl)
def M_province_L33 (k64 : Sg → Rs) : Nat → Sg → Rs
  | 0, _ => none
  | n + 1, σ => (if (σ 0 12) = 0 then (if (σ 0 14) = 0 then (k64 σ) else (bd (M_readPart σ) (fun r8 s9 => (bd (M_isSign 59 s9) (fun r10 s11 => (bd (M_must r10 s11) (fun r12 s13 => (M_province_L33 k64 n s13)))))))) else (k64 σ))
theorem ok_M_province_L33 (k64 : Sg → Rs) (hk64 : ∀ (σ : Sg), G l Km Pm RX12 cX12_province 2 0 9 64 [some (.inr (.inr 0)), none] [] σ (k64 σ)) : ∀ (n : Nat) (σ : Sg), G l Km Pm RX12 cX12_province 2 0 9 33 [some (.inr (.inr 0)), none] [] σ (M_province_L33 k64 n  σ) := by
  intro n
  induction n with
  | zero => intros; exact G.none_
  | succ n ih =>
    intro σ
    rw [M_province_L33]
    refine g_aload_n dX12_province_33 rfl rfl ?_
    refine g_geti fl_RX12_211 km_0 (by decide) dX12_province_34 ?_
    refine g_ifne (tgt := 64) dX12_province_37 (by decide) ?_ ?_
    · refine g_aload_n dX12_province_40 rfl rfl ?_
      refine g_geti fl_RX12_122 km_0 (by decide) dX12_province_41 ?_
      refine g_ifeq (tgt := 64) dX12_province_44 (by decide) ?_ ?_
      · exact (hk64 σ)
      · refine g_aload_n dX12_province_47 rfl rfl ?_
        refine g_callv2 (st := []) 10 mw_X12_readPart lk_RX12_293 rfl km_0 (ok_M_readPart σ) (Nat.le_of_ble_eq_true rfl) rfl rfl (Nat.le_of_ble_eq_true rfl) dX12_province_48 ?_
        intro r8 s9
        refine g_aload_n dX12_province_51 rfl rfl ?_
        refine g_aload_n dX12_province_52 rfl rfl ?_
        refine g_bipush dX12_province_53 (by decide) ?_
        refine g_callv3 (st := [.inr (.inr 0)]) 10 mw_X12_isSign lk_RX12_296 rfl km_0 (ok_M_isSign 59 s9) (Nat.le_of_ble_eq_true rfl) rfl rfl (Nat.le_of_ble_eq_true rfl) dX12_province_55 ?_
        intro r10 s11
        refine g_callv2 (st := []) 10 mw_X12_must lk_RX12_227 rfl km_0 (ok_M_must r10 s11) (Nat.le_of_ble_eq_true rfl) rfl rfl (Nat.le_of_ble_eq_true rfl) dX12_province_58 ?_
        intro r12 s13
        refine g_goto (tgt := 33) dX12_province_61 (by decide) ?_
        exact (ih s13)
    · exact (hk64 σ)
def M_province_J64  (σ : Sg) : Rs := (bd (M_isWell σ) (fun r15 s16 => (if r15 = 0 then (some ((-1), s16)) else (bd (M_copy 4 0 s16) (fun r17 s18 => (rd 2235 1 (s18 5 (Int.toNat 1)) (fun x19 => (some (x19, s18)))))))))
theorem ok_M_province_J64 : ∀ (σ : Sg), G l Km Pm RX12 cX12_province 2 0 9 64 [some (.inr (.inr 0)), none] [] σ (M_province_J64   σ) := by
  intro σ
  unfold M_province_J64
  refine g_aload_n dX12_province_64 rfl rfl ?_
  refine g_callv3 (st := []) 10 mw_X12_isWell lk_RX12_299 rfl km_0 (ok_M_isWell σ) (Nat.le_of_ble_eq_true rfl) rfl rfl (Nat.le_of_ble_eq_true rfl) dX12_province_65 ?_
  intro r15 s16
  refine g_ifne (tgt := 73) dX12_province_68 (by decide) ?_ ?_
  · refine g_iconst dX12_province_71 (by decide) ?_
    exact g_iret dX12_province_72
  · refine g_aload_n dX12_province_73 rfl rfl ?_
    refine g_iconst dX12_province_74 (by decide) ?_
    refine g_iconst dX12_province_75 (by decide) ?_
    refine g_callv2 (st := []) 10 mw_X12_copy lk_RX12_302 rfl km_0 (ok_M_copy 4 0 s16) (Nat.le_of_ble_eq_true rfl) rfl rfl (Nat.le_of_ble_eq_true rfl) dX12_province_76 ?_
    intro r17 s18
    refine g_aload_n dX12_province_79 rfl rfl ?_
    refine g_getr' (q := 5) fl_RX12_35 km_0 (by decide) rfl dX12_province_80 ?_
    refine g_iconst dX12_province_83 (by decide) ?_
    refine g_iald km_5 dX12_province_84 ?_
    intro x19
    exact g_iret dX12_province_85
def M_province (a1 : Int) (σ : Sg) : Rs := (nm (up_s σ 0 1 0) (fun s1 => (nm (up_s s1 0 0 0) (fun s2 => (bd (M_starts a1 900 s2) (fun r3 s4 => (if r3 = 0 then (some ((-1), s4)) else (bd (M_empties 4 s4) (fun r5 s6 => (nm (up_s s6 0 25 0) (fun s7 => (M_province_L33 (fun s14 => (M_province_J64 s14)) fu s7))))))))))))
theorem ok_M_province (a1 : Int) (σ : Sg) : MC l Km Pm yX12_province cX12_province 2 0 9 [.inr (.inr 0), .inl a1] σ (M_province a1 σ) := by
  refine mc_of (by decide) (Nat.le_of_ble_eq_true rfl) ?_
  change G l Km Pm RX12 cX12_province 2 0 9 0 [some (.inr (.inr 0)), some (.inl a1)] [] σ (M_province a1 σ)
  unfold M_province
  refine g_aload_n dX12_province_0 rfl rfl ?_
  refine g_iconst dX12_province_1 (by decide) ?_
  refine g_puti fl_RX12_67 km_0 (by decide) dX12_province_2 ?_
  intro s1
  refine g_aload_n dX12_province_5 rfl rfl ?_
  refine g_iconst dX12_province_6 (by decide) ?_
  refine g_puti fl_RX12_70 km_0 (by decide) dX12_province_7 ?_
  intro s2
  refine g_aload_n dX12_province_10 rfl rfl ?_
  refine g_iload_n dX12_province_11 rfl rfl ?_
  refine g_sipush dX12_province_12 (by decide) ?_
  refine g_callv3 (st := []) 10 mw_X12_starts lk_RX12_290 rfl km_0 (ok_M_starts a1 900 s2) (Nat.le_of_ble_eq_true rfl) rfl rfl (Nat.le_of_ble_eq_true rfl) dX12_province_15 ?_
  intro r3 s4
  refine g_ifne (tgt := 23) dX12_province_18 (by decide) ?_ ?_
  · refine g_iconst dX12_province_21 (by decide) ?_
    exact g_iret dX12_province_22
  · refine g_aload_n dX12_province_23 rfl rfl ?_
    refine g_iconst dX12_province_24 (by decide) ?_
    refine g_callv2 (st := []) 10 mw_X12_empties lk_RX12_63 rfl km_0 (ok_M_empties 4 s4) (Nat.le_of_ble_eq_true rfl) rfl rfl (Nat.le_of_ble_eq_true rfl) dX12_province_25 ?_
    intro r5 s6
    refine g_aload_n dX12_province_28 rfl rfl ?_
    refine g_iconst dX12_province_29 (by decide) ?_
    refine g_puti fl_RX12_252 km_0 (by decide) dX12_province_30 ?_
    intro s7
    refine (g_weak [true, false] (ok_M_province_L33 _ ?_ fu s7))
    · intro s14
      refine (ok_M_province_J64 s14)
theorem dX12_quietest_0 : decode cX12_quietest 0 = .ok (.iconst 0, 1) := by decide +kernel
theorem dX12_quietest_1 : decode cX12_quietest 1 = .ok (.istore_n 3, 1) := by decide +kernel
theorem dX12_quietest_2 : decode cX12_quietest 2 = .ok (.iconst 1, 1) := by decide +kernel
theorem dX12_quietest_3 : decode cX12_quietest 3 = .ok (.istore 4, 2) := by decide +kernel
theorem dX12_quietest_5 : decode cX12_quietest 5 = .ok (.iload 4, 2) := by decide +kernel
theorem dX12_quietest_7 : decode cX12_quietest 7 = .ok (.aload_n 0, 1) := by decide +kernel
theorem dX12_quietest_8 : decode cX12_quietest 8 = .ok (.getfield 35, 3) := by decide +kernel
theorem dX12_quietest_11 : decode cX12_quietest 11 = .ok (.bipush 43, 2) := by decide +kernel
theorem dX12_quietest_13 : decode cX12_quietest 13 = .ok (.iload_n 1, 1) := by decide +kernel
theorem dX12_quietest_14 : decode cX12_quietest 14 = .ok (.iadd, 1) := by decide +kernel
theorem dX12_quietest_15 : decode cX12_quietest 15 = .ok (.iaload, 1) := by decide +kernel
theorem dX12_quietest_16 : decode cX12_quietest 16 = .ok (.if_icmp .gt 92, 3) := by decide +kernel
theorem dX12_quietest_19 : decode cX12_quietest 19 = .ok (.iload 4, 2) := by decide +kernel
theorem dX12_quietest_21 : decode cX12_quietest 21 = .ok (.aload_n 0, 1) := by decide +kernel
theorem dX12_quietest_22 : decode cX12_quietest 22 = .ok (.getfield 35, 3) := by decide +kernel
theorem dX12_quietest_25 : decode cX12_quietest 25 = .ok (.bipush 43, 2) := by decide +kernel
theorem dX12_quietest_27 : decode cX12_quietest 27 = .ok (.iload_n 1, 1) := by decide +kernel
theorem dX12_quietest_28 : decode cX12_quietest 28 = .ok (.iadd, 1) := by decide +kernel
theorem dX12_quietest_29 : decode cX12_quietest 29 = .ok (.iaload, 1) := by decide +kernel
theorem dX12_quietest_30 : decode cX12_quietest 30 = .ok (.iconst (-1), 1) := by decide +kernel
theorem dX12_quietest_31 : decode cX12_quietest 31 = .ok (.ixor, 1) := by decide +kernel
theorem dX12_quietest_32 : decode cX12_quietest 32 = .ok (.iand, 1) := by decide +kernel
theorem dX12_quietest_33 : decode cX12_quietest 33 = .ok (.ifCond .ne 69, 3) := by decide +kernel
theorem dX12_quietest_36 : decode cX12_quietest 36 = .ok (.aload_n 0, 1) := by decide +kernel
theorem dX12_quietest_37 : decode cX12_quietest 37 = .ok (.iload_n 1, 1) := by decide +kernel
theorem dX12_quietest_38 : decode cX12_quietest 38 = .ok (.iload 4, 2) := by decide +kernel
theorem dX12_quietest_40 : decode cX12_quietest 40 = .ok (.iload_n 2, 1) := by decide +kernel
theorem dX12_quietest_41 : decode cX12_quietest 41 = .ok (.invokevirtual 425, 3) := by decide +kernel
theorem dX12_quietest_44 : decode cX12_quietest 44 = .ok (.aload_n 0, 1) := by decide +kernel
theorem dX12_quietest_45 : decode cX12_quietest 45 = .ok (.getfield 35, 3) := by decide +kernel
theorem dX12_quietest_48 : decode cX12_quietest 48 = .ok (.bipush 25, 2) := by decide +kernel
theorem dX12_quietest_50 : decode cX12_quietest 50 = .ok (.iload_n 1, 1) := by decide +kernel
theorem dX12_quietest_51 : decode cX12_quietest 51 = .ok (.iadd, 1) := by decide +kernel
theorem dX12_quietest_52 : decode cX12_quietest 52 = .ok (.iaload, 1) := by decide +kernel
theorem dX12_quietest_53 : decode cX12_quietest 53 = .ok (.if_icmp .le 6, 3) := by decide +kernel
theorem dX12_quietest_56 : decode cX12_quietest 56 = .ok (.goto 46, 3) := by decide +kernel
theorem dX12_quietest_59 : decode cX12_quietest 59 = .ok (.iload 4, 2) := by decide +kernel
theorem dX12_quietest_61 : decode cX12_quietest 61 = .ok (.invokestatic 390, 3) := by decide +kernel
theorem dX12_quietest_64 : decode cX12_quietest 64 = .ok (.iload_n 3, 1) := by decide +kernel
theorem dX12_quietest_65 : decode cX12_quietest 65 = .ok (.invokestatic 390, 3) := by decide +kernel
theorem dX12_quietest_68 : decode cX12_quietest 68 = .ok (.isub, 1) := by decide +kernel
theorem dX12_quietest_69 : decode cX12_quietest 69 = .ok (.istore 5, 2) := by decide +kernel
theorem dX12_quietest_71 : decode cX12_quietest 71 = .ok (.iload 5, 2) := by decide +kernel
theorem dX12_quietest_73 : decode cX12_quietest 73 = .ok (.ifCond .gt 26, 3) := by decide +kernel
theorem dX12_quietest_76 : decode cX12_quietest 76 = .ok (.iload 5, 2) := by decide +kernel
theorem dX12_quietest_78 : decode cX12_quietest 78 = .ok (.ifCond .ne 24, 3) := by decide +kernel
theorem dX12_quietest_81 : decode cX12_quietest 81 = .ok (.aload_n 0, 1) := by decide +kernel
theorem dX12_quietest_82 : decode cX12_quietest 82 = .ok (.iload_n 1, 1) := by decide +kernel
theorem dX12_quietest_83 : decode cX12_quietest 83 = .ok (.iload 4, 2) := by decide +kernel
theorem dX12_quietest_85 : decode cX12_quietest 85 = .ok (.iload_n 2, 1) := by decide +kernel
theorem dX12_quietest_86 : decode cX12_quietest 86 = .ok (.invokevirtual 425, 3) := by decide +kernel
theorem dX12_quietest_89 : decode cX12_quietest 89 = .ok (.aload_n 0, 1) := by decide +kernel
theorem dX12_quietest_90 : decode cX12_quietest 90 = .ok (.iload_n 1, 1) := by decide +kernel
theorem dX12_quietest_91 : decode cX12_quietest 91 = .ok (.iload_n 3, 1) := by decide +kernel
theorem dX12_quietest_92 : decode cX12_quietest 92 = .ok (.iload_n 2, 1) := by decide +kernel
theorem dX12_quietest_93 : decode cX12_quietest 93 = .ok (.invokevirtual 425, 3) := by decide +kernel
theorem dX12_quietest_96 : decode cX12_quietest 96 = .ok (.if_icmp .le 6, 3) := by decide +kernel
theorem dX12_quietest_99 : decode cX12_quietest 99 = .ok (.iload 4, 2) := by decide +kernel
theorem dX12_quietest_101 : decode cX12_quietest 101 = .ok (.istore_n 3, 1) := by decide +kernel
theorem dX12_quietest_102 : decode cX12_quietest 102 = .ok (.iinc 4 1, 3) := by decide +kernel
theorem dX12_quietest_105 : decode cX12_quietest 105 = .ok (.goto (-100), 3) := by decide +kernel
theorem dX12_quietest_108 : decode cX12_quietest 108 = .ok (.iload_n 3, 1) := by decide +kernel
theorem dX12_quietest_109 : decode cX12_quietest 109 = .ok (.ireturn, 1) := by decide +kernel
theorem mw_X12_quietest : MW yX12_quietest cX12_quietest 6 0 2 false := ⟨tm 2189 (by decide +kernel) rfl, tm 249 (by decide +kernel) rfl, by decide, by decide, (by rw [if_neg (by decide)]; exact ⟨tm 2188 (by decide +kernel) rfl, tm 198 (by decide +kernel) rfl⟩)⟩
theorem lk_RX12_425 : LK RX12 425 yX12_hairBy := Or.inl (tm 2190 (by decide +kernel) rfl)
def M_quietest_L5 (a1 : Int) (a2 : Int) : Nat → Int → Int → Sg → Rs
  | 0, _, _, _ => none
  | n + 1, v3, v4, σ => (rd 2235 (w32 (43 + a1)) (σ 5 (Int.toNat (w32 (43 + a1)))) (fun x1 => (if x1 < v4 then (some (v3, σ)) else (rd 2235 (w32 (43 + a1)) (σ 5 (Int.toNat (w32 (43 + a1)))) (fun x2 => (if (an32 v4 (xo32 x2 (-1))) = 0 then (bd (M_hairBy a1 v4 a2 σ) (fun r3 s4 => (rd 2235 (w32 (25 + a1)) (s4 5 (Int.toNat (w32 (25 + a1)))) (fun x5 => (if x5 < r3 then (nm (w32 (v4 + 1)) (fun x6 => (M_quietest_L5 a1 a2 n v3 x6 s4))) else (bd (M_sizeOf v4 s4) (fun r7 s8 => (bd (M_sizeOf v3 s8) (fun r9 s10 => (nm (w32 (r7 - r9)) (fun x11 => (if 0 < x11 then (nm (w32 (v4 + 1)) (fun x12 => (M_quietest_L5 a1 a2 n v4 x12 s10))) else (if x11 = 0 then (bd (M_hairBy a1 v4 a2 s10) (fun r13 s14 => (bd (M_hairBy a1 v3 a2 s14) (fun r15 s16 => (if r15 < r13 then (nm (w32 (v4 + 1)) (fun x17 => (M_quietest_L5 a1 a2 n v4 x17 s16))) else (nm (w32 (v4 + 1)) (fun x18 => (M_quietest_L5 a1 a2 n v3 x18 s16)))))))) else (nm (w32 (v4 + 1)) (fun x19 => (M_quietest_L5 a1 a2 n v3 x19 s10)))))))))))))))) else (nm (w32 (v4 + 1)) (fun x20 => (M_quietest_L5 a1 a2 n v3 x20 σ)))))))))
theorem ok_M_quietest_L5 (a1 : Int) (a2 : Int) : ∀ (n : Nat) (v3 v4 : Int) (σ : Sg), G l Km Pm RX12 cX12_quietest 6 0 4 5 [some (.inr (.inr 0)), some (.inl a1), some (.inl a2), some (.inl v3), some (.inl v4), none] [] σ (M_quietest_L5 a1 a2 n v3 v4 σ) := by
  intro n
  induction n with
  | zero => intros; exact G.none_
  | succ n ih =>
    intro v3 v4 σ
    rw [M_quietest_L5]
    refine g_iload dX12_quietest_5 rfl ?_
    refine g_aload_n dX12_quietest_7 rfl rfl ?_
    refine g_getr' (q := 5) fl_RX12_35 km_0 (by decide) rfl dX12_quietest_8 ?_
    refine g_bipush dX12_quietest_11 (by decide) ?_
    refine g_iload_n dX12_quietest_13 rfl rfl ?_
    refine g_iadd dX12_quietest_14 ?_
    refine g_iald km_5 dX12_quietest_15 ?_
    intro x1
    refine g_icmpgt (tgt := 108) dX12_quietest_16 (by decide) ?_ ?_
    · refine g_iload_n dX12_quietest_108 rfl rfl ?_
      exact g_iret dX12_quietest_109
    · refine g_iload dX12_quietest_19 rfl ?_
      refine g_aload_n dX12_quietest_21 rfl rfl ?_
      refine g_getr' (q := 5) fl_RX12_35 km_0 (by decide) rfl dX12_quietest_22 ?_
      refine g_bipush dX12_quietest_25 (by decide) ?_
      refine g_iload_n dX12_quietest_27 rfl rfl ?_
      refine g_iadd dX12_quietest_28 ?_
      refine g_iald km_5 dX12_quietest_29 ?_
      intro x2
      refine g_iconst dX12_quietest_30 (by decide) ?_
      refine g_ixor dX12_quietest_31 ?_
      refine g_iand dX12_quietest_32 ?_
      refine g_ifne (tgt := 102) dX12_quietest_33 (by decide) ?_ ?_
      · refine g_aload_n dX12_quietest_36 rfl rfl ?_
        refine g_iload_n dX12_quietest_37 rfl rfl ?_
        refine g_iload dX12_quietest_38 rfl ?_
        refine g_iload_n dX12_quietest_40 rfl rfl ?_
        refine g_callv0 (st := []) 10 mw_X12_hairBy lk_RX12_425 rfl km_0 (ok_M_hairBy a1 v4 a2 σ) (Nat.le_of_ble_eq_true rfl) rfl rfl (Nat.le_of_ble_eq_true rfl) dX12_quietest_41 ?_
        intro r3 s4
        refine g_aload_n dX12_quietest_44 rfl rfl ?_
        refine g_getr' (q := 5) fl_RX12_35 km_0 (by decide) rfl dX12_quietest_45 ?_
        refine g_bipush dX12_quietest_48 (by decide) ?_
        refine g_iload_n dX12_quietest_50 rfl rfl ?_
        refine g_iadd dX12_quietest_51 ?_
        refine g_iald km_5 dX12_quietest_52 ?_
        intro x5
        refine g_icmple (tgt := 59) dX12_quietest_53 (by decide) ?_ ?_
        · refine g_goto (tgt := 102) dX12_quietest_56 (by decide) ?_
          refine n_iinc (fun x6 => [some (.inr (.inr 0)), some (.inl a1), some (.inl a2), some (.inl v3), some (.inl x6), none]) dX12_quietest_102 rfl (Nat.le_of_ble_eq_true rfl) (fun _ => rfl) ?_
          intro x6
          refine g_goto (tgt := 5) dX12_quietest_105 (by decide) ?_
          exact (ih v3 x6 s4)
        · refine g_iload dX12_quietest_59 rfl ?_
          refine g_calls0 (st := []) mw_X12_sizeOf lk_RX12_390 (ok_M_sizeOf v4 s4) (Nat.le_of_ble_eq_true rfl) rfl rfl (Nat.le_of_ble_eq_true rfl) dX12_quietest_61 ?_
          intro r7 s8
          refine g_iload_n dX12_quietest_64 rfl rfl ?_
          refine g_calls0 (st := [.inl r7]) mw_X12_sizeOf lk_RX12_390 (ok_M_sizeOf v3 s8) (Nat.le_of_ble_eq_true rfl) rfl rfl (Nat.le_of_ble_eq_true rfl) dX12_quietest_65 ?_
          intro r9 s10
          refine g_isub dX12_quietest_68 ?_
          refine n_istore (fun x11 => [some (.inr (.inr 0)), some (.inl a1), some (.inl a2), some (.inl v3), some (.inl v4), some (.inl x11)]) dX12_quietest_69 (Nat.le_of_ble_eq_true rfl) (fun _ => rfl) ?_
          intro x11
          refine g_iload dX12_quietest_71 rfl ?_
          refine g_ifgt (tgt := 99) dX12_quietest_73 (by decide) ?_ ?_
          · refine g_iload dX12_quietest_99 rfl ?_
            refine g_istore_n (lv' := [some (.inr (.inr 0)), some (.inl a1), some (.inl a2), some (.inl v4), some (.inl v4), some (.inl x11)]) dX12_quietest_101 rfl (Nat.le_of_ble_eq_true rfl) rfl ?_
            refine n_iinc (fun x12 => [some (.inr (.inr 0)), some (.inl a1), some (.inl a2), some (.inl v4), some (.inl x12), some (.inl x11)]) dX12_quietest_102 rfl (Nat.le_of_ble_eq_true rfl) (fun _ => rfl) ?_
            intro x12
            refine g_goto (tgt := 5) dX12_quietest_105 (by decide) ?_
            exact (g_weak [true, true, true, true, true, false] (ih v4 x12 s10))
          · refine g_iload dX12_quietest_76 rfl ?_
            refine g_ifne (tgt := 102) dX12_quietest_78 (by decide) ?_ ?_
            · refine g_aload_n dX12_quietest_81 rfl rfl ?_
              refine g_iload_n dX12_quietest_82 rfl rfl ?_
              refine g_iload dX12_quietest_83 rfl ?_
              refine g_iload_n dX12_quietest_85 rfl rfl ?_
              refine g_callv0 (st := []) 10 mw_X12_hairBy lk_RX12_425 rfl km_0 (ok_M_hairBy a1 v4 a2 s10) (Nat.le_of_ble_eq_true rfl) rfl rfl (Nat.le_of_ble_eq_true rfl) dX12_quietest_86 ?_
              intro r13 s14
              refine g_aload_n dX12_quietest_89 rfl rfl ?_
              refine g_iload_n dX12_quietest_90 rfl rfl ?_
              refine g_iload_n dX12_quietest_91 rfl rfl ?_
              refine g_iload_n dX12_quietest_92 rfl rfl ?_
              refine g_callv0 (st := [.inl r13]) 10 mw_X12_hairBy lk_RX12_425 rfl km_0 (ok_M_hairBy a1 v3 a2 s14) (Nat.le_of_ble_eq_true rfl) rfl rfl (Nat.le_of_ble_eq_true rfl) dX12_quietest_93 ?_
              intro r15 s16
              refine g_icmple (tgt := 102) dX12_quietest_96 (by decide) ?_ ?_
              · refine g_iload dX12_quietest_99 rfl ?_
                refine g_istore_n (lv' := [some (.inr (.inr 0)), some (.inl a1), some (.inl a2), some (.inl v4), some (.inl v4), some (.inl x11)]) dX12_quietest_101 rfl (Nat.le_of_ble_eq_true rfl) rfl ?_
                refine n_iinc (fun x17 => [some (.inr (.inr 0)), some (.inl a1), some (.inl a2), some (.inl v4), some (.inl x17), some (.inl x11)]) dX12_quietest_102 rfl (Nat.le_of_ble_eq_true rfl) (fun _ => rfl) ?_
                intro x17
                refine g_goto (tgt := 5) dX12_quietest_105 (by decide) ?_
                exact (g_weak [true, true, true, true, true, false] (ih v4 x17 s16))
              · refine n_iinc (fun x18 => [some (.inr (.inr 0)), some (.inl a1), some (.inl a2), some (.inl v3), some (.inl x18), some (.inl x11)]) dX12_quietest_102 rfl (Nat.le_of_ble_eq_true rfl) (fun _ => rfl) ?_
                intro x18
                refine g_goto (tgt := 5) dX12_quietest_105 (by decide) ?_
                exact (g_weak [true, true, true, true, true, false] (ih v3 x18 s16))
            · refine n_iinc (fun x19 => [some (.inr (.inr 0)), some (.inl a1), some (.inl a2), some (.inl v3), some (.inl x19), some (.inl x11)]) dX12_quietest_102 rfl (Nat.le_of_ble_eq_true rfl) (fun _ => rfl) ?_
              intro x19
              refine g_goto (tgt := 5) dX12_quietest_105 (by decide) ?_
              exact (g_weak [true, true, true, true, true, false] (ih v3 x19 s10))
      · refine n_iinc (fun x20 => [some (.inr (.inr 0)), some (.inl a1), some (.inl a2), some (.inl v3), some (.inl x20), none]) dX12_quietest_102 rfl (Nat.le_of_ble_eq_true rfl) (fun _ => rfl) ?_
        intro x20
        refine g_goto (tgt := 5) dX12_quietest_105 (by decide) ?_
        exact (ih v3 x20 σ)
def M_quietest (a1 : Int) (a2 : Int) (σ : Sg) : Rs := (M_quietest_L5 a1 a2 fu 0 1 σ)
theorem ok_M_quietest (a1 : Int) (a2 : Int) (σ : Sg) : MC l Km Pm yX12_quietest cX12_quietest 6 0 4 [.inr (.inr 0), .inl a1, .inl a2] σ (M_quietest a1 a2 σ) := by
  refine mc_of (by decide) (Nat.le_of_ble_eq_true rfl) ?_
  change G l Km Pm RX12 cX12_quietest 6 0 4 0 [some (.inr (.inr 0)), some (.inl a1), some (.inl a2), none, none, none] [] σ (M_quietest a1 a2 σ)
  unfold M_quietest
  refine g_iconst dX12_quietest_0 (by decide) ?_
  refine g_istore_n (lv' := [some (.inr (.inr 0)), some (.inl a1), some (.inl a2), some (.inl 0), none, none]) dX12_quietest_1 rfl (Nat.le_of_ble_eq_true rfl) rfl ?_
  refine g_iconst dX12_quietest_2 (by decide) ?_
  refine g_istore (lv' := [some (.inr (.inr 0)), some (.inl a1), some (.inl a2), some (.inl 0), some (.inl 1), none]) dX12_quietest_3 (Nat.le_of_ble_eq_true rfl) rfl ?_
  refine (ok_M_quietest_L5 a1 a2 fu 0 1 σ)
theorem dX12_quiet_0 : decode cX12_quiet 0 = .ok (.aload_n 0, 1) := by decide +kernel
theorem dX12_quiet_1 : decode cX12_quiet 1 = .ok (.iconst 0, 1) := by decide +kernel
theorem dX12_quiet_2 : decode cX12_quiet 2 = .ok (.putfield 67, 3) := by decide +kernel
theorem dX12_quiet_5 : decode cX12_quiet 5 = .ok (.aload_n 0, 1) := by decide +kernel
theorem dX12_quiet_6 : decode cX12_quiet 6 = .ok (.iconst 0, 1) := by decide +kernel
theorem dX12_quiet_7 : decode cX12_quiet 7 = .ok (.putfield 70, 3) := by decide +kernel
theorem dX12_quiet_10 : decode cX12_quiet 10 = .ok (.aload_n 0, 1) := by decide +kernel
theorem dX12_quiet_11 : decode cX12_quiet 11 = .ok (.iload_n 1, 1) := by decide +kernel
theorem dX12_quiet_12 : decode cX12_quiet 12 = .ok (.invokevirtual 345, 3) := by decide +kernel
theorem dX12_quiet_15 : decode cX12_quiet 15 = .ok (.ifCond .ne 9, 3) := by decide +kernel
theorem dX12_quiet_18 : decode cX12_quiet 18 = .ok (.aload_n 0, 1) := by decide +kernel
theorem dX12_quiet_19 : decode cX12_quiet 19 = .ok (.iconst 2, 1) := by decide +kernel
theorem dX12_quiet_20 : decode cX12_quiet 20 = .ok (.invokevirtual 325, 3) := by decide +kernel
theorem dX12_quiet_23 : decode cX12_quiet 23 = .ok (.ireturn, 1) := by decide +kernel
theorem dX12_quiet_24 : decode cX12_quiet 24 = .ok (.iload_n 2, 1) := by decide +kernel
theorem dX12_quiet_25 : decode cX12_quiet 25 = .ok (.invokestatic 409, 3) := by decide +kernel
theorem dX12_quiet_28 : decode cX12_quiet 28 = .ok (.ifCond .eq 12, 3) := by decide +kernel
theorem dX12_quiet_31 : decode cX12_quiet 31 = .ok (.aload_n 0, 1) := by decide +kernel
theorem dX12_quiet_32 : decode cX12_quiet 32 = .ok (.iload_n 1, 1) := by decide +kernel
theorem dX12_quiet_33 : decode cX12_quiet 33 = .ok (.iload_n 2, 1) := by decide +kernel
theorem dX12_quiet_34 : decode cX12_quiet 34 = .ok (.invokevirtual 428, 3) := by decide +kernel
theorem dX12_quiet_37 : decode cX12_quiet 37 = .ok (.goto 8, 3) := by decide +kernel
theorem dX12_quiet_40 : decode cX12_quiet 40 = .ok (.aload_n 0, 1) := by decide +kernel
theorem dX12_quiet_41 : decode cX12_quiet 41 = .ok (.iconst 5, 1) := by decide +kernel
theorem dX12_quiet_42 : decode cX12_quiet 42 = .ok (.invokevirtual 325, 3) := by decide +kernel
theorem dX12_quiet_45 : decode cX12_quiet 45 = .ok (.ireturn, 1) := by decide +kernel
theorem mw_X12_quiet : MW yX12_quiet cX12_quiet 3 0 2 false := ⟨tm 2185 (by decide +kernel) rfl, tm 249 (by decide +kernel) rfl, by decide, by decide, (by rw [if_neg (by decide)]; exact ⟨tm 2183 (by decide +kernel) rfl, tm 2184 (by decide +kernel) rfl⟩)⟩
theorem lk_RX12_428 : LK RX12 428 yX12_quietest := Or.inl (tm 2186 (by decide +kernel) rfl)
def M_quiet (a1 : Int) (a2 : Int) (σ : Sg) : Rs := (nm (up_s σ 0 1 0) (fun s1 => (nm (up_s s1 0 0 0) (fun s2 => (bd (M_isPersonAt a1 s2) (fun r3 s4 => (if r3 = 0 then (bd (M_refuse 2 s4) (fun r5 s6 => (some (r5, s6)))) else (bd (M_isAhead a2 s4) (fun r7 s8 => (if r7 = 0 then (bd (M_refuse 5 s8) (fun r9 s10 => (some (r9, s10)))) else (bd (M_quietest a1 a2 s8) (fun r11 s12 => (some (r11, s12))))))))))))))
theorem ok_M_quiet (a1 : Int) (a2 : Int) (σ : Sg) : MC l Km Pm yX12_quiet cX12_quiet 3 0 5 [.inr (.inr 0), .inl a1, .inl a2] σ (M_quiet a1 a2 σ) := by
  refine mc_of (by decide) (Nat.le_of_ble_eq_true rfl) ?_
  change G l Km Pm RX12 cX12_quiet 3 0 5 0 [some (.inr (.inr 0)), some (.inl a1), some (.inl a2)] [] σ (M_quiet a1 a2 σ)
  unfold M_quiet
  refine g_aload_n dX12_quiet_0 rfl rfl ?_
  refine g_iconst dX12_quiet_1 (by decide) ?_
  refine g_puti fl_RX12_67 km_0 (by decide) dX12_quiet_2 ?_
  intro s1
  refine g_aload_n dX12_quiet_5 rfl rfl ?_
  refine g_iconst dX12_quiet_6 (by decide) ?_
  refine g_puti fl_RX12_70 km_0 (by decide) dX12_quiet_7 ?_
  intro s2
  refine g_aload_n dX12_quiet_10 rfl rfl ?_
  refine g_iload_n dX12_quiet_11 rfl rfl ?_
  refine g_callv3 (st := []) 10 mw_X12_isPersonAt lk_RX12_345 rfl km_0 (ok_M_isPersonAt a1 s2) (Nat.le_of_ble_eq_true rfl) rfl rfl (Nat.le_of_ble_eq_true rfl) dX12_quiet_12 ?_
  intro r3 s4
  refine g_ifne (tgt := 24) dX12_quiet_15 (by decide) ?_ ?_
  · refine g_aload_n dX12_quiet_18 rfl rfl ?_
    refine g_iconst dX12_quiet_19 (by decide) ?_
    refine g_callv0 (st := []) 10 mw_X12_refuse lk_RX12_325 rfl km_0 (ok_M_refuse 2 s4) (Nat.le_of_ble_eq_true rfl) rfl rfl (Nat.le_of_ble_eq_true rfl) dX12_quiet_20 ?_
    intro r5 s6
    exact g_iret dX12_quiet_23
  · refine g_iload_n dX12_quiet_24 rfl rfl ?_
    refine g_calls3 (st := []) mw_X12_isAhead lk_RX12_409 (ok_M_isAhead a2 s4) (Nat.le_of_ble_eq_true rfl) rfl rfl (Nat.le_of_ble_eq_true rfl) dX12_quiet_25 ?_
    intro r7 s8
    refine g_ifeq (tgt := 40) dX12_quiet_28 (by decide) ?_ ?_
    · refine g_aload_n dX12_quiet_40 rfl rfl ?_
      refine g_iconst dX12_quiet_41 (by decide) ?_
      refine g_callv0 (st := []) 10 mw_X12_refuse lk_RX12_325 rfl km_0 (ok_M_refuse 5 s8) (Nat.le_of_ble_eq_true rfl) rfl rfl (Nat.le_of_ble_eq_true rfl) dX12_quiet_42 ?_
      intro r9 s10
      exact g_iret dX12_quiet_45
    · refine g_aload_n dX12_quiet_31 rfl rfl ?_
      refine g_iload_n dX12_quiet_32 rfl rfl ?_
      refine g_iload_n dX12_quiet_33 rfl rfl ?_
      refine g_callv0 (st := []) 10 mw_X12_quietest lk_RX12_428 rfl km_0 (ok_M_quietest a1 a2 s8) (Nat.le_of_ble_eq_true rfl) rfl rfl (Nat.le_of_ble_eq_true rfl) dX12_quiet_34 ?_
      intro r11 s12
      refine g_goto (tgt := 45) dX12_quiet_37 (by decide) ?_
      exact g_iret dX12_quiet_45
theorem dX12_quietHair_0 : decode cX12_quietHair 0 = .ok (.aload_n 0, 1) := by decide +kernel
theorem dX12_quietHair_1 : decode cX12_quietHair 1 = .ok (.iconst 0, 1) := by decide +kernel
theorem dX12_quietHair_2 : decode cX12_quietHair 2 = .ok (.putfield 67, 3) := by decide +kernel
theorem dX12_quietHair_5 : decode cX12_quietHair 5 = .ok (.aload_n 0, 1) := by decide +kernel
theorem dX12_quietHair_6 : decode cX12_quietHair 6 = .ok (.iconst 0, 1) := by decide +kernel
theorem dX12_quietHair_7 : decode cX12_quietHair 7 = .ok (.putfield 70, 3) := by decide +kernel
theorem dX12_quietHair_10 : decode cX12_quietHair 10 = .ok (.aload_n 0, 1) := by decide +kernel
theorem dX12_quietHair_11 : decode cX12_quietHair 11 = .ok (.iload_n 1, 1) := by decide +kernel
theorem dX12_quietHair_12 : decode cX12_quietHair 12 = .ok (.invokevirtual 345, 3) := by decide +kernel
theorem dX12_quietHair_15 : decode cX12_quietHair 15 = .ok (.ifCond .ne 9, 3) := by decide +kernel
theorem dX12_quietHair_18 : decode cX12_quietHair 18 = .ok (.aload_n 0, 1) := by decide +kernel
theorem dX12_quietHair_19 : decode cX12_quietHair 19 = .ok (.iconst 2, 1) := by decide +kernel
theorem dX12_quietHair_20 : decode cX12_quietHair 20 = .ok (.invokevirtual 325, 3) := by decide +kernel
theorem dX12_quietHair_23 : decode cX12_quietHair 23 = .ok (.ireturn, 1) := by decide +kernel
theorem dX12_quietHair_24 : decode cX12_quietHair 24 = .ok (.iload_n 2, 1) := by decide +kernel
theorem dX12_quietHair_25 : decode cX12_quietHair 25 = .ok (.invokestatic 409, 3) := by decide +kernel
theorem dX12_quietHair_28 : decode cX12_quietHair 28 = .ok (.ifCond .eq 18, 3) := by decide +kernel
theorem dX12_quietHair_31 : decode cX12_quietHair 31 = .ok (.aload_n 0, 1) := by decide +kernel
theorem dX12_quietHair_32 : decode cX12_quietHair 32 = .ok (.iload_n 1, 1) := by decide +kernel
theorem dX12_quietHair_33 : decode cX12_quietHair 33 = .ok (.aload_n 0, 1) := by decide +kernel
theorem dX12_quietHair_34 : decode cX12_quietHair 34 = .ok (.iload_n 1, 1) := by decide +kernel
theorem dX12_quietHair_35 : decode cX12_quietHair 35 = .ok (.iload_n 2, 1) := by decide +kernel
theorem dX12_quietHair_36 : decode cX12_quietHair 36 = .ok (.invokevirtual 428, 3) := by decide +kernel
theorem dX12_quietHair_39 : decode cX12_quietHair 39 = .ok (.iload_n 2, 1) := by decide +kernel
theorem dX12_quietHair_40 : decode cX12_quietHair 40 = .ok (.invokevirtual 425, 3) := by decide +kernel
theorem dX12_quietHair_43 : decode cX12_quietHair 43 = .ok (.goto 8, 3) := by decide +kernel
theorem dX12_quietHair_46 : decode cX12_quietHair 46 = .ok (.aload_n 0, 1) := by decide +kernel
theorem dX12_quietHair_47 : decode cX12_quietHair 47 = .ok (.iconst 5, 1) := by decide +kernel
theorem dX12_quietHair_48 : decode cX12_quietHair 48 = .ok (.invokevirtual 325, 3) := by decide +kernel
theorem dX12_quietHair_51 : decode cX12_quietHair 51 = .ok (.ireturn, 1) := by decide +kernel
theorem mw_X12_quietHair : MW yX12_quietHair cX12_quietHair 3 0 2 false := ⟨tm 2201 (by decide +kernel) rfl, tm 249 (by decide +kernel) rfl, by decide, by decide, (by rw [if_neg (by decide)]; exact ⟨tm 2199 (by decide +kernel) rfl, tm 2200 (by decide +kernel) rfl⟩)⟩
def M_quietHair (a1 : Int) (a2 : Int) (σ : Sg) : Rs := (nm (up_s σ 0 1 0) (fun s1 => (nm (up_s s1 0 0 0) (fun s2 => (bd (M_isPersonAt a1 s2) (fun r3 s4 => (if r3 = 0 then (bd (M_refuse 2 s4) (fun r5 s6 => (some (r5, s6)))) else (bd (M_isAhead a2 s4) (fun r7 s8 => (if r7 = 0 then (bd (M_refuse 5 s8) (fun r9 s10 => (some (r9, s10)))) else (bd (M_quietest a1 a2 s8) (fun r11 s12 => (bd (M_hairBy a1 r11 a2 s12) (fun r13 s14 => (some (r13, s14))))))))))))))))
theorem ok_M_quietHair (a1 : Int) (a2 : Int) (σ : Sg) : MC l Km Pm yX12_quietHair cX12_quietHair 3 0 5 [.inr (.inr 0), .inl a1, .inl a2] σ (M_quietHair a1 a2 σ) := by
  refine mc_of (by decide) (Nat.le_of_ble_eq_true rfl) ?_
  change G l Km Pm RX12 cX12_quietHair 3 0 5 0 [some (.inr (.inr 0)), some (.inl a1), some (.inl a2)] [] σ (M_quietHair a1 a2 σ)
  unfold M_quietHair
  refine g_aload_n dX12_quietHair_0 rfl rfl ?_
  refine g_iconst dX12_quietHair_1 (by decide) ?_
  refine g_puti fl_RX12_67 km_0 (by decide) dX12_quietHair_2 ?_
  intro s1
  refine g_aload_n dX12_quietHair_5 rfl rfl ?_
  refine g_iconst dX12_quietHair_6 (by decide) ?_
  refine g_puti fl_RX12_70 km_0 (by decide) dX12_quietHair_7 ?_
  intro s2
  refine g_aload_n dX12_quietHair_10 rfl rfl ?_
  refine g_iload_n dX12_quietHair_11 rfl rfl ?_
  refine g_callv3 (st := []) 10 mw_X12_isPersonAt lk_RX12_345 rfl km_0 (ok_M_isPersonAt a1 s2) (Nat.le_of_ble_eq_true rfl) rfl rfl (Nat.le_of_ble_eq_true rfl) dX12_quietHair_12 ?_
  intro r3 s4
  refine g_ifne (tgt := 24) dX12_quietHair_15 (by decide) ?_ ?_
  · refine g_aload_n dX12_quietHair_18 rfl rfl ?_
    refine g_iconst dX12_quietHair_19 (by decide) ?_
    refine g_callv0 (st := []) 10 mw_X12_refuse lk_RX12_325 rfl km_0 (ok_M_refuse 2 s4) (Nat.le_of_ble_eq_true rfl) rfl rfl (Nat.le_of_ble_eq_true rfl) dX12_quietHair_20 ?_
    intro r5 s6
    exact g_iret dX12_quietHair_23
  · refine g_iload_n dX12_quietHair_24 rfl rfl ?_
    refine g_calls3 (st := []) mw_X12_isAhead lk_RX12_409 (ok_M_isAhead a2 s4) (Nat.le_of_ble_eq_true rfl) rfl rfl (Nat.le_of_ble_eq_true rfl) dX12_quietHair_25 ?_
    intro r7 s8
    refine g_ifeq (tgt := 46) dX12_quietHair_28 (by decide) ?_ ?_
    · refine g_aload_n dX12_quietHair_46 rfl rfl ?_
      refine g_iconst dX12_quietHair_47 (by decide) ?_
      refine g_callv0 (st := []) 10 mw_X12_refuse lk_RX12_325 rfl km_0 (ok_M_refuse 5 s8) (Nat.le_of_ble_eq_true rfl) rfl rfl (Nat.le_of_ble_eq_true rfl) dX12_quietHair_48 ?_
      intro r9 s10
      exact g_iret dX12_quietHair_51
    · refine g_aload_n dX12_quietHair_31 rfl rfl ?_
      refine g_iload_n dX12_quietHair_32 rfl rfl ?_
      refine g_aload_n dX12_quietHair_33 rfl rfl ?_
      refine g_iload_n dX12_quietHair_34 rfl rfl ?_
      refine g_iload_n dX12_quietHair_35 rfl rfl ?_
      refine g_callv0 (st := [.inl a1, .inr (.inr 0)]) 10 mw_X12_quietest lk_RX12_428 rfl km_0 (ok_M_quietest a1 a2 s8) (Nat.le_of_ble_eq_true rfl) rfl rfl (Nat.le_of_ble_eq_true rfl) dX12_quietHair_36 ?_
      intro r11 s12
      refine g_iload_n dX12_quietHair_39 rfl rfl ?_
      refine g_callv0 (st := []) 10 mw_X12_hairBy lk_RX12_425 rfl km_0 (ok_M_hairBy a1 r11 a2 s12) (Nat.le_of_ble_eq_true rfl) rfl rfl (Nat.le_of_ble_eq_true rfl) dX12_quietHair_40 ?_
      intro r13 s14
      refine g_goto (tgt := 51) dX12_quietHair_43 (by decide) ?_
      exact g_iret dX12_quietHair_51
theorem dX12_read_0 : decode cX12_read 0 = .ok (.aload_n 0, 1) := by decide +kernel
theorem dX12_read_1 : decode cX12_read 1 = .ok (.iconst 0, 1) := by decide +kernel
theorem dX12_read_2 : decode cX12_read 2 = .ok (.putfield 67, 3) := by decide +kernel
theorem dX12_read_5 : decode cX12_read 5 = .ok (.aload_n 0, 1) := by decide +kernel
theorem dX12_read_6 : decode cX12_read 6 = .ok (.aload_n 0, 1) := by decide +kernel
theorem dX12_read_7 : decode cX12_read 7 = .ok (.iload_n 1, 1) := by decide +kernel
theorem dX12_read_8 : decode cX12_read 8 = .ok (.iload_n 2, 1) := by decide +kernel
theorem dX12_read_9 : decode cX12_read 9 = .ok (.invokevirtual 90, 3) := by decide +kernel
theorem dX12_read_12 : decode cX12_read 12 = .ok (.putfield 70, 3) := by decide +kernel
theorem dX12_read_15 : decode cX12_read 15 = .ok (.aload_n 0, 1) := by decide +kernel
theorem dX12_read_16 : decode cX12_read 16 = .ok (.getfield 70, 3) := by decide +kernel
theorem dX12_read_19 : decode cX12_read 19 = .ok (.ifCond .le 9, 3) := by decide +kernel
theorem dX12_read_22 : decode cX12_read 22 = .ok (.ldc2_w 98, 3) := by decide +kernel
theorem dX12_read_25 : decode cX12_read 25 = .ok (.goto 14, 3) := by decide +kernel
theorem dX12_read_28 : decode cX12_read 28 = .ok (.aload_n 0, 1) := by decide +kernel
theorem dX12_read_29 : decode cX12_read 29 = .ok (.getfield 20, 3) := by decide +kernel
theorem dX12_read_32 : decode cX12_read 32 = .ok (.bipush 60, 2) := by decide +kernel
theorem dX12_read_34 : decode cX12_read 34 = .ok (.iload_n 1, 1) := by decide +kernel
theorem dX12_read_35 : decode cX12_read 35 = .ok (.imul, 1) := by decide +kernel
theorem dX12_read_36 : decode cX12_read 36 = .ok (.iload_n 2, 1) := by decide +kernel
theorem dX12_read_37 : decode cX12_read 37 = .ok (.iadd, 1) := by decide +kernel
theorem dX12_read_38 : decode cX12_read 38 = .ok (.laload, 1) := by decide +kernel
theorem dX12_read_39 : decode cX12_read 39 = .ok (.lreturn, 1) := by decide +kernel
theorem mw_X12_read : MW yX12_read cX12_read 3 1 2 false := ⟨tm 1740 (by decide +kernel) rfl, tm 249 (by decide +kernel) rfl, by decide, by decide, (by rw [if_neg (by decide)]; exact ⟨tm 1738 (by decide +kernel) rfl, tm 1739 (by decide +kernel) rfl⟩)⟩
def M_read (a1 : Int) (a2 : Int) (σ : Sg) : Rs := (nm (up_s σ 0 1 0) (fun s1 => (bd (M_placed a1 a2 s1) (fun r2 s3 => (nm (up_s s3 0 0 r2) (fun s4 => (if 0 < (s4 0 0) then (some ((-1), s4)) else (rd 240 (w32 ((w32 (60 * a1)) + a2)) (s4 3 (Int.toNat (w32 ((w32 (60 * a1)) + a2)))) (fun x5 => (some (x5, s4)))))))))))
theorem ok_M_read (a1 : Int) (a2 : Int) (σ : Sg) : MC l Km Pm yX12_read cX12_read 3 1 3 [.inr (.inr 0), .inl a1, .inl a2] σ (M_read a1 a2 σ) := by
  refine mc_of (by decide) (Nat.le_of_ble_eq_true rfl) ?_
  change G l Km Pm RX12 cX12_read 3 1 3 0 [some (.inr (.inr 0)), some (.inl a1), some (.inl a2)] [] σ (M_read a1 a2 σ)
  unfold M_read
  refine g_aload_n dX12_read_0 rfl rfl ?_
  refine g_iconst dX12_read_1 (by decide) ?_
  refine g_puti fl_RX12_67 km_0 (by decide) dX12_read_2 ?_
  intro s1
  refine g_aload_n dX12_read_5 rfl rfl ?_
  refine g_aload_n dX12_read_6 rfl rfl ?_
  refine g_iload_n dX12_read_7 rfl rfl ?_
  refine g_iload_n dX12_read_8 rfl rfl ?_
  refine g_callv0 (st := [.inr (.inr 0)]) 10 mw_X12_placed lk_RX12_90 rfl km_0 (ok_M_placed a1 a2 s1) (Nat.le_of_ble_eq_true rfl) rfl rfl (Nat.le_of_ble_eq_true rfl) dX12_read_9 ?_
  intro r2 s3
  refine g_puti fl_RX12_70 km_0 (by decide) dX12_read_12 ?_
  intro s4
  refine g_aload_n dX12_read_15 rfl rfl ?_
  refine g_geti fl_RX12_70 km_0 (by decide) dX12_read_16 ?_
  refine g_ifle (tgt := 28) dX12_read_19 (by decide) ?_ ?_
  · refine g_ldc2 (n := (-1)) (tm 1741 (by decide +kernel) rfl) (by decide) dX12_read_22 ?_
    refine g_goto (tgt := 39) dX12_read_25 (by decide) ?_
    exact g_lret dX12_read_39
  · refine g_aload_n dX12_read_28 rfl rfl ?_
    refine g_getr' (q := 3) fl_RX12_20 km_0 (by decide) rfl dX12_read_29 ?_
    refine g_bipush dX12_read_32 (by decide) ?_
    refine g_iload_n dX12_read_34 rfl rfl ?_
    refine g_imul dX12_read_35 ?_
    refine g_iload_n dX12_read_36 rfl rfl ?_
    refine g_iadd dX12_read_37 ?_
    refine g_lald km_3 dX12_read_38 ?_
    intro x5
    exact g_lret dX12_read_39
theorem dX12_readTest_0 : decode cX12_readTest 0 = .ok (.aload_n 0, 1) := by decide +kernel
theorem dX12_readTest_1 : decode cX12_readTest 1 = .ok (.invokevirtual 202, 3) := by decide +kernel
theorem dX12_readTest_4 : decode cX12_readTest 4 = .ok (.istore_n 2, 1) := by decide +kernel
theorem dX12_readTest_5 : decode cX12_readTest 5 = .ok (.aload_n 0, 1) := by decide +kernel
theorem dX12_readTest_6 : decode cX12_readTest 6 = .ok (.iload_n 2, 1) := by decide +kernel
theorem dX12_readTest_7 : decode cX12_readTest 7 = .ok (.ifCond .lt 7, 3) := by decide +kernel
theorem dX12_readTest_10 : decode cX12_readTest 10 = .ok (.iconst 1, 1) := by decide +kernel
theorem dX12_readTest_11 : decode cX12_readTest 11 = .ok (.goto 4, 3) := by decide +kernel
theorem dX12_readTest_14 : decode cX12_readTest 14 = .ok (.iconst 0, 1) := by decide +kernel
theorem dX12_readTest_15 : decode cX12_readTest 15 = .ok (.invokevirtual 227, 3) := by decide +kernel
theorem dX12_readTest_18 : decode cX12_readTest 18 = .ok (.aload_n 0, 1) := by decide +kernel
theorem dX12_readTest_19 : decode cX12_readTest 19 = .ok (.getfield 35, 3) := by decide +kernel
theorem dX12_readTest_22 : decode cX12_readTest 22 = .ok (.iload_n 1, 1) := by decide +kernel
theorem dX12_readTest_23 : decode cX12_readTest 23 = .ok (.bipush 6, 2) := by decide +kernel
theorem dX12_readTest_25 : decode cX12_readTest 25 = .ok (.iadd, 1) := by decide +kernel
theorem dX12_readTest_26 : decode cX12_readTest 26 = .ok (.iload_n 2, 1) := by decide +kernel
theorem dX12_readTest_27 : decode cX12_readTest 27 = .ok (.iastore, 1) := by decide +kernel
theorem dX12_readTest_28 : decode cX12_readTest 28 = .ok (.aload_n 0, 1) := by decide +kernel
theorem dX12_readTest_29 : decode cX12_readTest 29 = .ok (.getfield 35, 3) := by decide +kernel
theorem dX12_readTest_32 : decode cX12_readTest 32 = .ok (.iload_n 1, 1) := by decide +kernel
theorem dX12_readTest_33 : decode cX12_readTest 33 = .ok (.iconst 1, 1) := by decide +kernel
theorem dX12_readTest_34 : decode cX12_readTest 34 = .ok (.iadd, 1) := by decide +kernel
theorem dX12_readTest_35 : decode cX12_readTest 35 = .ok (.aload_n 0, 1) := by decide +kernel
theorem dX12_readTest_36 : decode cX12_readTest 36 = .ok (.iconst 0, 1) := by decide +kernel
theorem dX12_readTest_37 : decode cX12_readTest 37 = .ok (.iconst 1, 1) := by decide +kernel
theorem dX12_readTest_38 : decode cX12_readTest 38 = .ok (.invokevirtual 265, 3) := by decide +kernel
theorem dX12_readTest_41 : decode cX12_readTest 41 = .ok (.iastore, 1) := by decide +kernel
theorem dX12_readTest_42 : decode cX12_readTest 42 = .ok (.aload_n 0, 1) := by decide +kernel
theorem dX12_readTest_43 : decode cX12_readTest 43 = .ok (.getfield 211, 3) := by decide +kernel
theorem dX12_readTest_46 : decode cX12_readTest 46 = .ok (.ifCond .le 4, 3) := by decide +kernel
theorem dX12_readTest_49 : decode cX12_readTest 49 = .ok (.return_, 1) := by decide +kernel
theorem dX12_readTest_50 : decode cX12_readTest 50 = .ok (.iload_n 2, 1) := by decide +kernel
theorem dX12_readTest_51 : decode cX12_readTest 51 = .ok (.ifCond .ne 18, 3) := by decide +kernel
theorem dX12_readTest_54 : decode cX12_readTest 54 = .ok (.aload_n 0, 1) := by decide +kernel
theorem dX12_readTest_55 : decode cX12_readTest 55 = .ok (.getfield 35, 3) := by decide +kernel
theorem dX12_readTest_58 : decode cX12_readTest 58 = .ok (.iload_n 1, 1) := by decide +kernel
theorem dX12_readTest_59 : decode cX12_readTest 59 = .ok (.iconst 2, 1) := by decide +kernel
theorem dX12_readTest_60 : decode cX12_readTest 60 = .ok (.iadd, 1) := by decide +kernel
theorem dX12_readTest_61 : decode cX12_readTest 61 = .ok (.aload_n 0, 1) := by decide +kernel
theorem dX12_readTest_62 : decode cX12_readTest 62 = .ok (.iconst 0, 1) := by decide +kernel
theorem dX12_readTest_63 : decode cX12_readTest 63 = .ok (.iconst 0, 1) := by decide +kernel
theorem dX12_readTest_64 : decode cX12_readTest 64 = .ok (.invokevirtual 265, 3) := by decide +kernel
theorem dX12_readTest_67 : decode cX12_readTest 67 = .ok (.iastore, 1) := by decide +kernel
theorem dX12_readTest_68 : decode cX12_readTest 68 = .ok (.return_, 1) := by decide +kernel
theorem dX12_readTest_69 : decode cX12_readTest 69 = .ok (.aload_n 0, 1) := by decide +kernel
theorem dX12_readTest_70 : decode cX12_readTest 70 = .ok (.getfield 35, 3) := by decide +kernel
theorem dX12_readTest_73 : decode cX12_readTest 73 = .ok (.iload_n 1, 1) := by decide +kernel
theorem dX12_readTest_74 : decode cX12_readTest 74 = .ok (.bipush 7, 2) := by decide +kernel
theorem dX12_readTest_76 : decode cX12_readTest 76 = .ok (.iadd, 1) := by decide +kernel
theorem dX12_readTest_77 : decode cX12_readTest 77 = .ok (.aload_n 0, 1) := by decide +kernel
theorem dX12_readTest_78 : decode cX12_readTest 78 = .ok (.getfield 122, 3) := by decide +kernel
theorem dX12_readTest_81 : decode cX12_readTest 81 = .ok (.iconst 3, 1) := by decide +kernel
theorem dX12_readTest_82 : decode cX12_readTest 82 = .ok (.if_icmp .ne 10, 3) := by decide +kernel
theorem dX12_readTest_85 : decode cX12_readTest 85 = .ok (.aload_n 0, 1) := by decide +kernel
theorem dX12_readTest_86 : decode cX12_readTest 86 = .ok (.getfield 141, 3) := by decide +kernel
theorem dX12_readTest_89 : decode cX12_readTest 89 = .ok (.goto 4, 3) := by decide +kernel
theorem dX12_readTest_92 : decode cX12_readTest 92 = .ok (.iconst 0, 1) := by decide +kernel
theorem dX12_readTest_93 : decode cX12_readTest 93 = .ok (.iastore, 1) := by decide +kernel
theorem dX12_readTest_94 : decode cX12_readTest 94 = .ok (.aload_n 0, 1) := by decide +kernel
theorem dX12_readTest_95 : decode cX12_readTest 95 = .ok (.aload_n 0, 1) := by decide +kernel
theorem dX12_readTest_96 : decode cX12_readTest 96 = .ok (.bipush 60, 2) := by decide +kernel
theorem dX12_readTest_98 : decode cX12_readTest 98 = .ok (.invokevirtual 296, 3) := by decide +kernel
theorem dX12_readTest_101 : decode cX12_readTest 101 = .ok (.ifCond .ne 21, 3) := by decide +kernel
theorem dX12_readTest_104 : decode cX12_readTest 104 = .ok (.aload_n 0, 1) := by decide +kernel
theorem dX12_readTest_105 : decode cX12_readTest 105 = .ok (.bipush 62, 2) := by decide +kernel
theorem dX12_readTest_107 : decode cX12_readTest 107 = .ok (.invokevirtual 296, 3) := by decide +kernel
theorem dX12_readTest_110 : decode cX12_readTest 110 = .ok (.ifCond .ne 12, 3) := by decide +kernel
theorem dX12_readTest_113 : decode cX12_readTest 113 = .ok (.aload_n 0, 1) := by decide +kernel
theorem dX12_readTest_114 : decode cX12_readTest 114 = .ok (.bipush 61, 2) := by decide +kernel
theorem dX12_readTest_116 : decode cX12_readTest 116 = .ok (.invokevirtual 296, 3) := by decide +kernel
theorem dX12_readTest_119 : decode cX12_readTest 119 = .ok (.ifCond .eq 7, 3) := by decide +kernel
theorem dX12_readTest_122 : decode cX12_readTest 122 = .ok (.iconst 1, 1) := by decide +kernel
theorem dX12_readTest_123 : decode cX12_readTest 123 = .ok (.goto 4, 3) := by decide +kernel
theorem dX12_readTest_126 : decode cX12_readTest 126 = .ok (.iconst 0, 1) := by decide +kernel
theorem dX12_readTest_127 : decode cX12_readTest 127 = .ok (.invokevirtual 227, 3) := by decide +kernel
theorem dX12_readTest_130 : decode cX12_readTest 130 = .ok (.aload_n 0, 1) := by decide +kernel
theorem dX12_readTest_131 : decode cX12_readTest 131 = .ok (.getfield 35, 3) := by decide +kernel
theorem dX12_readTest_134 : decode cX12_readTest 134 = .ok (.iload_n 1, 1) := by decide +kernel
theorem dX12_readTest_135 : decode cX12_readTest 135 = .ok (.iconst 2, 1) := by decide +kernel
theorem dX12_readTest_136 : decode cX12_readTest 136 = .ok (.iadd, 1) := by decide +kernel
theorem dX12_readTest_137 : decode cX12_readTest 137 = .ok (.aload_n 0, 1) := by decide +kernel
theorem dX12_readTest_138 : decode cX12_readTest 138 = .ok (.iconst 0, 1) := by decide +kernel
theorem dX12_readTest_139 : decode cX12_readTest 139 = .ok (.sipush 9999, 3) := by decide +kernel
theorem dX12_readTest_142 : decode cX12_readTest 142 = .ok (.invokevirtual 231, 3) := by decide +kernel
theorem dX12_readTest_145 : decode cX12_readTest 145 = .ok (.iastore, 1) := by decide +kernel
theorem dX12_readTest_146 : decode cX12_readTest 146 = .ok (.return_, 1) := by decide +kernel
theorem mw_X12_readTest : MW yX12_readTest cX12_readTest 3 2 1 false := ⟨tm 1975 (by decide +kernel) rfl, tm 249 (by decide +kernel) rfl, by decide, by decide, (by rw [if_neg (by decide)]; exact ⟨tm 1974 (by decide +kernel) rfl, tm 173 (by decide +kernel) rfl⟩)⟩
def M_readTest_J127 (a1 : Int) (t1 : Int) (σ : Sg) : Rs := (bd (M_must t1 σ) (fun r19 s20 => (bd (M_count 0 9999 s20) (fun r21 s22 => (wr 2235 (w32 (a1 + 2)) (up_s s22 5 (Int.toNat (w32 (a1 + 2))) r21) (fun s23 => (some (0, s23))))))))
theorem ok_M_readTest_J127 (a1 : Int) : ∀ (t1 : Int) (σ : Sg), G l Km Pm RX12 cX12_readTest 3 2 7 127 [some (.inr (.inr 0)), some (.inl a1), none] [.inl t1, .inr (.inr 0)] σ (M_readTest_J127 a1 t1 σ) := by
  intro t1 σ
  unfold M_readTest_J127
  refine g_callv2 (st := []) 10 mw_X12_must lk_RX12_227 rfl km_0 (ok_M_must t1 σ) (Nat.le_of_ble_eq_true rfl) rfl rfl (Nat.le_of_ble_eq_true rfl) dX12_readTest_127 ?_
  intro r19 s20
  refine g_aload_n dX12_readTest_130 rfl rfl ?_
  refine g_getr' (q := 5) fl_RX12_35 km_0 (by decide) rfl dX12_readTest_131 ?_
  refine g_iload_n dX12_readTest_134 rfl rfl ?_
  refine g_iconst dX12_readTest_135 (by decide) ?_
  refine g_iadd dX12_readTest_136 ?_
  refine g_aload_n dX12_readTest_137 rfl rfl ?_
  refine g_iconst dX12_readTest_138 (by decide) ?_
  refine g_sipush dX12_readTest_139 (by decide) ?_
  refine g_callv0 (st := [.inl (w32 (a1 + 2)), .inr (.inr 5)]) 10 mw_X12_count lk_RX12_231 rfl km_0 (ok_M_count 0 9999 s20) (Nat.le_of_ble_eq_true rfl) rfl rfl (Nat.le_of_ble_eq_true rfl) dX12_readTest_142 ?_
  intro r21 s22
  refine g_iast km_5 dX12_readTest_145 ?_
  intro s23
  exact g_vret dX12_readTest_146
def M_readTest_J122 (a1 : Int) (σ : Sg) : Rs := (M_readTest_J127 a1 1 σ)
theorem ok_M_readTest_J122 (a1 : Int) : ∀ (σ : Sg), G l Km Pm RX12 cX12_readTest 3 2 7 122 [some (.inr (.inr 0)), some (.inl a1), none] [.inr (.inr 0)] σ (M_readTest_J122 a1  σ) := by
  intro σ
  unfold M_readTest_J122
  refine g_iconst dX12_readTest_122 (by decide) ?_
  refine g_goto (tgt := 127) dX12_readTest_123 (by decide) ?_
  refine (ok_M_readTest_J127 a1 1 σ)
def M_readTest_J93 (a1 : Int) (t1 t2 : Int) (σ : Sg) : Rs := (wr 2235 t1 (up_s σ 5 (Int.toNat t1) t2) (fun s12 => (bd (M_isSign 60 s12) (fun r13 s14 => (if r13 = 0 then (bd (M_isSign 62 s14) (fun r15 s16 => (if r15 = 0 then (bd (M_isSign 61 s16) (fun r17 s18 => (if r17 = 0 then (M_readTest_J127 a1 0 s18) else (M_readTest_J122 a1 s18)))) else (M_readTest_J122 a1 s16)))) else (M_readTest_J122 a1 s14))))))
theorem ok_M_readTest_J93 (a1 : Int) : ∀ (t1 t2 : Int) (σ : Sg), G l Km Pm RX12 cX12_readTest 3 2 7 93 [some (.inr (.inr 0)), some (.inl a1), none] [.inl t2, .inl t1, .inr (.inr 5)] σ (M_readTest_J93 a1 t1 t2 σ) := by
  intro t1 t2 σ
  unfold M_readTest_J93
  refine g_iast km_5 dX12_readTest_93 ?_
  intro s12
  refine g_aload_n dX12_readTest_94 rfl rfl ?_
  refine g_aload_n dX12_readTest_95 rfl rfl ?_
  refine g_bipush dX12_readTest_96 (by decide) ?_
  refine g_callv3 (st := [.inr (.inr 0)]) 10 mw_X12_isSign lk_RX12_296 rfl km_0 (ok_M_isSign 60 s12) (Nat.le_of_ble_eq_true rfl) rfl rfl (Nat.le_of_ble_eq_true rfl) dX12_readTest_98 ?_
  intro r13 s14
  refine g_ifne (tgt := 122) dX12_readTest_101 (by decide) ?_ ?_
  · refine g_aload_n dX12_readTest_104 rfl rfl ?_
    refine g_bipush dX12_readTest_105 (by decide) ?_
    refine g_callv3 (st := [.inr (.inr 0)]) 10 mw_X12_isSign lk_RX12_296 rfl km_0 (ok_M_isSign 62 s14) (Nat.le_of_ble_eq_true rfl) rfl rfl (Nat.le_of_ble_eq_true rfl) dX12_readTest_107 ?_
    intro r15 s16
    refine g_ifne (tgt := 122) dX12_readTest_110 (by decide) ?_ ?_
    · refine g_aload_n dX12_readTest_113 rfl rfl ?_
      refine g_bipush dX12_readTest_114 (by decide) ?_
      refine g_callv3 (st := [.inr (.inr 0)]) 10 mw_X12_isSign lk_RX12_296 rfl km_0 (ok_M_isSign 61 s16) (Nat.le_of_ble_eq_true rfl) rfl rfl (Nat.le_of_ble_eq_true rfl) dX12_readTest_116 ?_
      intro r17 s18
      refine g_ifeq (tgt := 126) dX12_readTest_119 (by decide) ?_ ?_
      · refine g_iconst dX12_readTest_126 (by decide) ?_
        refine (ok_M_readTest_J127 a1 0 s18)
      · refine (ok_M_readTest_J122 a1 s18)
    · refine (ok_M_readTest_J122 a1 s16)
  · refine (ok_M_readTest_J122 a1 s14)
def M_readTest_J15 (a1 : Int) (v2 : Int) (t1 : Int) (σ : Sg) : Rs := (bd (M_must t1 σ) (fun r3 s4 => (wr 2235 (w32 (a1 + 6)) (up_s s4 5 (Int.toNat (w32 (a1 + 6))) v2) (fun s5 => (bd (M_readTold 0 1 s5) (fun r6 s7 => (wr 2235 (w32 (a1 + 1)) (up_s s7 5 (Int.toNat (w32 (a1 + 1))) r6) (fun s8 => (if 0 < (s8 0 12) then (some (0, s8)) else (if v2 = 0 then (bd (M_readTold 0 0 s8) (fun r9 s10 => (wr 2235 (w32 (a1 + 2)) (up_s s10 5 (Int.toNat (w32 (a1 + 2))) r9) (fun s11 => (some (0, s11)))))) else (if (s8 0 14) = 3 then (M_readTest_J93 a1 (w32 (a1 + 7)) (s8 0 17) s8) else (M_readTest_J93 a1 (w32 (a1 + 7)) 0 s8))))))))))))
theorem ok_M_readTest_J15 (a1 : Int) (v2 : Int) : ∀ (t1 : Int) (σ : Sg), G l Km Pm RX12 cX12_readTest 3 2 7 15 [some (.inr (.inr 0)), some (.inl a1), some (.inl v2)] [.inl t1, .inr (.inr 0)] σ (M_readTest_J15 a1 v2 t1 σ) := by
  intro t1 σ
  unfold M_readTest_J15
  refine g_callv2 (st := []) 10 mw_X12_must lk_RX12_227 rfl km_0 (ok_M_must t1 σ) (Nat.le_of_ble_eq_true rfl) rfl rfl (Nat.le_of_ble_eq_true rfl) dX12_readTest_15 ?_
  intro r3 s4
  refine g_aload_n dX12_readTest_18 rfl rfl ?_
  refine g_getr' (q := 5) fl_RX12_35 km_0 (by decide) rfl dX12_readTest_19 ?_
  refine g_iload_n dX12_readTest_22 rfl rfl ?_
  refine g_bipush dX12_readTest_23 (by decide) ?_
  refine g_iadd dX12_readTest_25 ?_
  refine g_iload_n dX12_readTest_26 rfl rfl ?_
  refine g_iast km_5 dX12_readTest_27 ?_
  intro s5
  refine g_aload_n dX12_readTest_28 rfl rfl ?_
  refine g_getr' (q := 5) fl_RX12_35 km_0 (by decide) rfl dX12_readTest_29 ?_
  refine g_iload_n dX12_readTest_32 rfl rfl ?_
  refine g_iconst dX12_readTest_33 (by decide) ?_
  refine g_iadd dX12_readTest_34 ?_
  refine g_aload_n dX12_readTest_35 rfl rfl ?_
  refine g_iconst dX12_readTest_36 (by decide) ?_
  refine g_iconst dX12_readTest_37 (by decide) ?_
  refine g_callv0 (st := [.inl (w32 (a1 + 1)), .inr (.inr 5)]) 10 mw_X12_readTold lk_RX12_265 rfl km_0 (ok_M_readTold 0 1 s5) (Nat.le_of_ble_eq_true rfl) rfl rfl (Nat.le_of_ble_eq_true rfl) dX12_readTest_38 ?_
  intro r6 s7
  refine g_iast km_5 dX12_readTest_41 ?_
  intro s8
  refine g_aload_n dX12_readTest_42 rfl rfl ?_
  refine g_geti fl_RX12_211 km_0 (by decide) dX12_readTest_43 ?_
  refine g_ifle (tgt := 50) dX12_readTest_46 (by decide) ?_ ?_
  · exact g_vret dX12_readTest_49
  · refine g_iload_n dX12_readTest_50 rfl rfl ?_
    refine g_ifne (tgt := 69) dX12_readTest_51 (by decide) ?_ ?_
    · refine g_aload_n dX12_readTest_54 rfl rfl ?_
      refine g_getr' (q := 5) fl_RX12_35 km_0 (by decide) rfl dX12_readTest_55 ?_
      refine g_iload_n dX12_readTest_58 rfl rfl ?_
      refine g_iconst dX12_readTest_59 (by decide) ?_
      refine g_iadd dX12_readTest_60 ?_
      refine g_aload_n dX12_readTest_61 rfl rfl ?_
      refine g_iconst dX12_readTest_62 (by decide) ?_
      refine g_iconst dX12_readTest_63 (by decide) ?_
      refine g_callv0 (st := [.inl (w32 (a1 + 2)), .inr (.inr 5)]) 10 mw_X12_readTold lk_RX12_265 rfl km_0 (ok_M_readTold 0 0 s8) (Nat.le_of_ble_eq_true rfl) rfl rfl (Nat.le_of_ble_eq_true rfl) dX12_readTest_64 ?_
      intro r9 s10
      refine g_iast km_5 dX12_readTest_67 ?_
      intro s11
      exact g_vret dX12_readTest_68
    · refine g_aload_n dX12_readTest_69 rfl rfl ?_
      refine g_getr' (q := 5) fl_RX12_35 km_0 (by decide) rfl dX12_readTest_70 ?_
      refine g_iload_n dX12_readTest_73 rfl rfl ?_
      refine g_bipush dX12_readTest_74 (by decide) ?_
      refine g_iadd dX12_readTest_76 ?_
      refine g_aload_n dX12_readTest_77 rfl rfl ?_
      refine g_geti fl_RX12_122 km_0 (by decide) dX12_readTest_78 ?_
      refine g_iconst dX12_readTest_81 (by decide) ?_
      refine g_icmpne (tgt := 92) dX12_readTest_82 (by decide) ?_ ?_
      · refine g_aload_n dX12_readTest_85 rfl rfl ?_
        refine g_geti fl_RX12_141 km_0 (by decide) dX12_readTest_86 ?_
        refine g_goto (tgt := 93) dX12_readTest_89 (by decide) ?_
        refine (g_weak [true, true, false] (ok_M_readTest_J93 a1 (w32 (a1 + 7)) (s8 0 17) s8))
      · refine g_iconst dX12_readTest_92 (by decide) ?_
        refine (g_weak [true, true, false] (ok_M_readTest_J93 a1 (w32 (a1 + 7)) 0 s8))
def M_readTest (a1 : Int) (σ : Sg) : Rs := (bd (M_testWord σ) (fun r1 s2 => (if r1 < 0 then (M_readTest_J15 a1 r1 0 s2) else (M_readTest_J15 a1 r1 1 s2))))
theorem ok_M_readTest (a1 : Int) (σ : Sg) : MC l Km Pm yX12_readTest cX12_readTest 3 2 7 [.inr (.inr 0), .inl a1] σ (M_readTest a1 σ) := by
  refine mc_of (by decide) (Nat.le_of_ble_eq_true rfl) ?_
  change G l Km Pm RX12 cX12_readTest 3 2 7 0 [some (.inr (.inr 0)), some (.inl a1), none] [] σ (M_readTest a1 σ)
  unfold M_readTest
  refine g_aload_n dX12_readTest_0 rfl rfl ?_
  refine g_callv0 (st := []) 10 mw_X12_testWord lk_RX12_202 rfl km_0 (ok_M_testWord σ) (Nat.le_of_ble_eq_true rfl) rfl rfl (Nat.le_of_ble_eq_true rfl) dX12_readTest_1 ?_
  intro r1 s2
  refine g_istore_n (lv' := [some (.inr (.inr 0)), some (.inl a1), some (.inl r1)]) dX12_readTest_4 rfl (Nat.le_of_ble_eq_true rfl) rfl ?_
  refine g_aload_n dX12_readTest_5 rfl rfl ?_
  refine g_iload_n dX12_readTest_6 rfl rfl ?_
  refine g_iflt (tgt := 14) dX12_readTest_7 (by decide) ?_ ?_
  · refine g_iconst dX12_readTest_14 (by decide) ?_
    refine (ok_M_readTest_J15 a1 r1 0 s2)
  · refine g_iconst dX12_readTest_10 (by decide) ?_
    refine g_goto (tgt := 15) dX12_readTest_11 (by decide) ?_
    refine (ok_M_readTest_J15 a1 r1 1 s2)
theorem dX12_readRest_0 : decode cX12_readRest 0 = .ok (.aload_n 0, 1) := by decide +kernel
theorem dX12_readRest_1 : decode cX12_readRest 1 = .ok (.getfield 35, 3) := by decide +kernel
theorem dX12_readRest_4 : decode cX12_readRest 4 = .ok (.iload_n 1, 1) := by decide +kernel
theorem dX12_readRest_5 : decode cX12_readRest 5 = .ok (.iaload, 1) := by decide +kernel
theorem dX12_readRest_6 : decode cX12_readRest 6 = .ok (.istore_n 2, 1) := by decide +kernel
theorem dX12_readRest_7 : decode cX12_readRest 7 = .ok (.iload_n 2, 1) := by decide +kernel
theorem dX12_readRest_8 : decode cX12_readRest 8 = .ok (.ifCond .ne 21, 3) := by decide +kernel
theorem dX12_readRest_11 : decode cX12_readRest 11 = .ok (.aload_n 0, 1) := by decide +kernel
theorem dX12_readRest_12 : decode cX12_readRest 12 = .ok (.getfield 35, 3) := by decide +kernel
theorem dX12_readRest_15 : decode cX12_readRest 15 = .ok (.iload_n 1, 1) := by decide +kernel
theorem dX12_readRest_16 : decode cX12_readRest 16 = .ok (.iconst 1, 1) := by decide +kernel
theorem dX12_readRest_17 : decode cX12_readRest 17 = .ok (.iadd, 1) := by decide +kernel
theorem dX12_readRest_18 : decode cX12_readRest 18 = .ok (.aload_n 0, 1) := by decide +kernel
theorem dX12_readRest_19 : decode cX12_readRest 19 = .ok (.iconst 1, 1) := by decide +kernel
theorem dX12_readRest_20 : decode cX12_readRest 20 = .ok (.bipush 20, 2) := by decide +kernel
theorem dX12_readRest_22 : decode cX12_readRest 22 = .ok (.invokevirtual 231, 3) := by decide +kernel
theorem dX12_readRest_25 : decode cX12_readRest 25 = .ok (.iastore, 1) := by decide +kernel
theorem dX12_readRest_26 : decode cX12_readRest 26 = .ok (.goto 59, 3) := by decide +kernel
theorem dX12_readRest_29 : decode cX12_readRest 29 = .ok (.iload_n 2, 1) := by decide +kernel
theorem dX12_readRest_30 : decode cX12_readRest 30 = .ok (.bipush 6, 2) := by decide +kernel
theorem dX12_readRest_32 : decode cX12_readRest 32 = .ok (.if_icmp .ne 21, 3) := by decide +kernel
theorem dX12_readRest_35 : decode cX12_readRest 35 = .ok (.aload_n 0, 1) := by decide +kernel
theorem dX12_readRest_36 : decode cX12_readRest 36 = .ok (.getfield 35, 3) := by decide +kernel
theorem dX12_readRest_39 : decode cX12_readRest 39 = .ok (.iload_n 1, 1) := by decide +kernel
theorem dX12_readRest_40 : decode cX12_readRest 40 = .ok (.iconst 1, 1) := by decide +kernel
theorem dX12_readRest_41 : decode cX12_readRest 41 = .ok (.iadd, 1) := by decide +kernel
theorem dX12_readRest_42 : decode cX12_readRest 42 = .ok (.aload_n 0, 1) := by decide +kernel
theorem dX12_readRest_43 : decode cX12_readRest 43 = .ok (.iconst 1, 1) := by decide +kernel
theorem dX12_readRest_44 : decode cX12_readRest 44 = .ok (.bipush 99, 2) := by decide +kernel
theorem dX12_readRest_46 : decode cX12_readRest 46 = .ok (.invokevirtual 231, 3) := by decide +kernel
theorem dX12_readRest_49 : decode cX12_readRest 49 = .ok (.iastore, 1) := by decide +kernel
theorem dX12_readRest_50 : decode cX12_readRest 50 = .ok (.goto 35, 3) := by decide +kernel
theorem dX12_readRest_53 : decode cX12_readRest 53 = .ok (.iload_n 2, 1) := by decide +kernel
theorem dX12_readRest_54 : decode cX12_readRest 54 = .ok (.iconst 5, 1) := by decide +kernel
theorem dX12_readRest_55 : decode cX12_readRest 55 = .ok (.if_icmp .ne 11, 3) := by decide +kernel
theorem dX12_readRest_58 : decode cX12_readRest 58 = .ok (.aload_n 0, 1) := by decide +kernel
theorem dX12_readRest_59 : decode cX12_readRest 59 = .ok (.iload_n 1, 1) := by decide +kernel
theorem dX12_readRest_60 : decode cX12_readRest 60 = .ok (.invokevirtual 305, 3) := by decide +kernel
theorem dX12_readRest_63 : decode cX12_readRest 63 = .ok (.goto 22, 3) := by decide +kernel
theorem dX12_readRest_66 : decode cX12_readRest 66 = .ok (.iload_n 2, 1) := by decide +kernel
theorem dX12_readRest_67 : decode cX12_readRest 67 = .ok (.iconst 4, 1) := by decide +kernel
theorem dX12_readRest_68 : decode cX12_readRest 68 = .ok (.if_icmp .ge 17, 3) := by decide +kernel
theorem dX12_readRest_71 : decode cX12_readRest 71 = .ok (.aload_n 0, 1) := by decide +kernel
theorem dX12_readRest_72 : decode cX12_readRest 72 = .ok (.getfield 35, 3) := by decide +kernel
theorem dX12_readRest_75 : decode cX12_readRest 75 = .ok (.iload_n 1, 1) := by decide +kernel
theorem dX12_readRest_76 : decode cX12_readRest 76 = .ok (.iconst 1, 1) := by decide +kernel
theorem dX12_readRest_77 : decode cX12_readRest 77 = .ok (.iadd, 1) := by decide +kernel
theorem dX12_readRest_78 : decode cX12_readRest 78 = .ok (.aload_n 0, 1) := by decide +kernel
theorem dX12_readRest_79 : decode cX12_readRest 79 = .ok (.iconst 0, 1) := by decide +kernel
theorem dX12_readRest_80 : decode cX12_readRest 80 = .ok (.iconst 1, 1) := by decide +kernel
theorem dX12_readRest_81 : decode cX12_readRest 81 = .ok (.invokevirtual 265, 3) := by decide +kernel
theorem dX12_readRest_84 : decode cX12_readRest 84 = .ok (.iastore, 1) := by decide +kernel
theorem dX12_readRest_85 : decode cX12_readRest 85 = .ok (.iload_n 2, 1) := by decide +kernel
theorem dX12_readRest_86 : decode cX12_readRest 86 = .ok (.iconst 1, 1) := by decide +kernel
theorem dX12_readRest_87 : decode cX12_readRest 87 = .ok (.if_icmp .eq 8, 3) := by decide +kernel
theorem dX12_readRest_90 : decode cX12_readRest 90 = .ok (.iload_n 2, 1) := by decide +kernel
theorem dX12_readRest_91 : decode cX12_readRest 91 = .ok (.iconst 2, 1) := by decide +kernel
theorem dX12_readRest_92 : decode cX12_readRest 92 = .ok (.if_icmp .ne 17, 3) := by decide +kernel
theorem dX12_readRest_95 : decode cX12_readRest 95 = .ok (.aload_n 0, 1) := by decide +kernel
theorem dX12_readRest_96 : decode cX12_readRest 96 = .ok (.getfield 35, 3) := by decide +kernel
theorem dX12_readRest_99 : decode cX12_readRest 99 = .ok (.iload_n 1, 1) := by decide +kernel
theorem dX12_readRest_100 : decode cX12_readRest 100 = .ok (.iconst 2, 1) := by decide +kernel
theorem dX12_readRest_101 : decode cX12_readRest 101 = .ok (.iadd, 1) := by decide +kernel
theorem dX12_readRest_102 : decode cX12_readRest 102 = .ok (.aload_n 0, 1) := by decide +kernel
theorem dX12_readRest_103 : decode cX12_readRest 103 = .ok (.iconst 0, 1) := by decide +kernel
theorem dX12_readRest_104 : decode cX12_readRest 104 = .ok (.iconst 0, 1) := by decide +kernel
theorem dX12_readRest_105 : decode cX12_readRest 105 = .ok (.invokevirtual 265, 3) := by decide +kernel
theorem dX12_readRest_108 : decode cX12_readRest 108 = .ok (.iastore, 1) := by decide +kernel
theorem dX12_readRest_109 : decode cX12_readRest 109 = .ok (.iload_n 2, 1) := by decide +kernel
theorem dX12_readRest_110 : decode cX12_readRest 110 = .ok (.iconst 2, 1) := by decide +kernel
theorem dX12_readRest_111 : decode cX12_readRest 111 = .ok (.if_icmp .eq 8, 3) := by decide +kernel
theorem dX12_readRest_114 : decode cX12_readRest 114 = .ok (.iload_n 2, 1) := by decide +kernel
theorem dX12_readRest_115 : decode cX12_readRest 115 = .ok (.iconst 3, 1) := by decide +kernel
theorem dX12_readRest_116 : decode cX12_readRest 116 = .ok (.if_icmp .ne 37, 3) := by decide +kernel
theorem dX12_readRest_119 : decode cX12_readRest 119 = .ok (.aload_n 0, 1) := by decide +kernel
theorem dX12_readRest_120 : decode cX12_readRest 120 = .ok (.iload_n 2, 1) := by decide +kernel
theorem dX12_readRest_121 : decode cX12_readRest 121 = .ok (.iconst 2, 1) := by decide +kernel
theorem dX12_readRest_122 : decode cX12_readRest 122 = .ok (.if_icmp .ne 10, 3) := by decide +kernel
theorem dX12_readRest_125 : decode cX12_readRest 125 = .ok (.aload_n 0, 1) := by decide +kernel
theorem dX12_readRest_126 : decode cX12_readRest 126 = .ok (.invokevirtual 192, 3) := by decide +kernel
theorem dX12_readRest_129 : decode cX12_readRest 129 = .ok (.goto 7, 3) := by decide +kernel
theorem dX12_readRest_132 : decode cX12_readRest 132 = .ok (.aload_n 0, 1) := by decide +kernel
theorem dX12_readRest_133 : decode cX12_readRest 133 = .ok (.invokevirtual 195, 3) := by decide +kernel
theorem dX12_readRest_136 : decode cX12_readRest 136 = .ok (.invokevirtual 227, 3) := by decide +kernel
theorem dX12_readRest_139 : decode cX12_readRest 139 = .ok (.aload_n 0, 1) := by decide +kernel
theorem dX12_readRest_140 : decode cX12_readRest 140 = .ok (.getfield 35, 3) := by decide +kernel
theorem dX12_readRest_143 : decode cX12_readRest 143 = .ok (.iload_n 1, 1) := by decide +kernel
theorem dX12_readRest_144 : decode cX12_readRest 144 = .ok (.iconst 3, 1) := by decide +kernel
theorem dX12_readRest_145 : decode cX12_readRest 145 = .ok (.iadd, 1) := by decide +kernel
theorem dX12_readRest_146 : decode cX12_readRest 146 = .ok (.aload_n 0, 1) := by decide +kernel
theorem dX12_readRest_147 : decode cX12_readRest 147 = .ok (.iconst 0, 1) := by decide +kernel
theorem dX12_readRest_148 : decode cX12_readRest 148 = .ok (.iconst 1, 1) := by decide +kernel
theorem dX12_readRest_149 : decode cX12_readRest 149 = .ok (.invokevirtual 265, 3) := by decide +kernel
theorem dX12_readRest_152 : decode cX12_readRest 152 = .ok (.iastore, 1) := by decide +kernel
theorem dX12_readRest_153 : decode cX12_readRest 153 = .ok (.return_, 1) := by decide +kernel
theorem mw_X12_readRest : MW yX12_readRest cX12_readRest 3 2 1 false := ⟨tm 1971 (by decide +kernel) rfl, tm 249 (by decide +kernel) rfl, by decide, by decide, (by rw [if_neg (by decide)]; exact ⟨tm 1970 (by decide +kernel) rfl, tm 172 (by decide +kernel) rfl⟩)⟩
theorem lk_RX12_305 : LK RX12 305 yX12_readTest := Or.inl (tm 1972 (by decide +kernel) rfl)
def M_readRest_J136 (a1 : Int) (t1 : Int) (σ : Sg) : Rs := (bd (M_must t1 σ) (fun r10 s11 => (bd (M_readTold 0 1 s11) (fun r12 s13 => (wr 2235 (w32 (a1 + 3)) (up_s s13 5 (Int.toNat (w32 (a1 + 3))) r12) (fun s14 => (some (0, s14))))))))
theorem ok_M_readRest_J136 (a1 : Int) : ∀ (t1 : Int) (σ : Sg), G l Km Pm RX12 cX12_readRest 3 2 8 136 [some (.inr (.inr 0)), some (.inl a1), none] [.inl t1, .inr (.inr 0)] σ (M_readRest_J136 a1 t1 σ) := by
  intro t1 σ
  unfold M_readRest_J136
  refine g_callv2 (st := []) 10 mw_X12_must lk_RX12_227 rfl km_0 (ok_M_must t1 σ) (Nat.le_of_ble_eq_true rfl) rfl rfl (Nat.le_of_ble_eq_true rfl) dX12_readRest_136 ?_
  intro r10 s11
  refine g_aload_n dX12_readRest_139 rfl rfl ?_
  refine g_getr' (q := 5) fl_RX12_35 km_0 (by decide) rfl dX12_readRest_140 ?_
  refine g_iload_n dX12_readRest_143 rfl rfl ?_
  refine g_iconst dX12_readRest_144 (by decide) ?_
  refine g_iadd dX12_readRest_145 ?_
  refine g_aload_n dX12_readRest_146 rfl rfl ?_
  refine g_iconst dX12_readRest_147 (by decide) ?_
  refine g_iconst dX12_readRest_148 (by decide) ?_
  refine g_callv0 (st := [.inl (w32 (a1 + 3)), .inr (.inr 5)]) 10 mw_X12_readTold lk_RX12_265 rfl km_0 (ok_M_readTold 0 1 s11) (Nat.le_of_ble_eq_true rfl) rfl rfl (Nat.le_of_ble_eq_true rfl) dX12_readRest_149 ?_
  intro r12 s13
  refine g_iast km_5 dX12_readRest_152 ?_
  intro s14
  exact g_vret dX12_readRest_153
def M_readRest_J119 (a1 : Int) (v2 : Int) (σ : Sg) : Rs := (if v2 = 2 then (bd (M_isTo σ) (fun r8 s9 => (M_readRest_J136 a1 r8 s9))) else (bd (M_isBy σ) (fun r15 s16 => (M_readRest_J136 a1 r15 s16))))
theorem ok_M_readRest_J119 (a1 : Int) (v2 : Int) : ∀ (σ : Sg), G l Km Pm RX12 cX12_readRest 3 2 8 119 [some (.inr (.inr 0)), some (.inl a1), some (.inl v2)] [] σ (M_readRest_J119 a1 v2  σ) := by
  intro σ
  unfold M_readRest_J119
  refine g_aload_n dX12_readRest_119 rfl rfl ?_
  refine g_iload_n dX12_readRest_120 rfl rfl ?_
  refine g_iconst dX12_readRest_121 (by decide) ?_
  refine g_icmpne (tgt := 132) dX12_readRest_122 (by decide) ?_ ?_
  · refine g_aload_n dX12_readRest_125 rfl rfl ?_
    refine g_callv3 (st := [.inr (.inr 0)]) 10 mw_X12_isTo lk_RX12_192 rfl km_0 (ok_M_isTo σ) (Nat.le_of_ble_eq_true rfl) rfl rfl (Nat.le_of_ble_eq_true rfl) dX12_readRest_126 ?_
    intro r8 s9
    refine g_goto (tgt := 136) dX12_readRest_129 (by decide) ?_
    refine (g_weak [true, true, false] (ok_M_readRest_J136 a1 r8 s9))
  · refine g_aload_n dX12_readRest_132 rfl rfl ?_
    refine g_callv3 (st := [.inr (.inr 0)]) 10 mw_X12_isBy lk_RX12_195 rfl km_0 (ok_M_isBy σ) (Nat.le_of_ble_eq_true rfl) rfl rfl (Nat.le_of_ble_eq_true rfl) dX12_readRest_133 ?_
    intro r15 s16
    refine (g_weak [true, true, false] (ok_M_readRest_J136 a1 r15 s16))
def M_readRest_J109 (a1 : Int) (v2 : Int) (σ : Sg) : Rs := (if v2 = 2 then (M_readRest_J119 a1 v2 σ) else (if v2 = 3 then (M_readRest_J119 a1 v2 σ) else (some (0, σ))))
theorem ok_M_readRest_J109 (a1 : Int) (v2 : Int) : ∀ (σ : Sg), G l Km Pm RX12 cX12_readRest 3 2 8 109 [some (.inr (.inr 0)), some (.inl a1), some (.inl v2)] [] σ (M_readRest_J109 a1 v2  σ) := by
  intro σ
  unfold M_readRest_J109
  refine g_iload_n dX12_readRest_109 rfl rfl ?_
  refine g_iconst dX12_readRest_110 (by decide) ?_
  refine g_icmpeq (tgt := 119) dX12_readRest_111 (by decide) ?_ ?_
  · refine (ok_M_readRest_J119 a1 v2 σ)
  · refine g_iload_n dX12_readRest_114 rfl rfl ?_
    refine g_iconst dX12_readRest_115 (by decide) ?_
    refine g_icmpne (tgt := 153) dX12_readRest_116 (by decide) ?_ ?_
    · refine (ok_M_readRest_J119 a1 v2 σ)
    · exact g_vret dX12_readRest_153
def M_readRest_J95 (a1 : Int) (v2 : Int) (σ : Sg) : Rs := (bd (M_readTold 0 0 σ) (fun r5 s6 => (wr 2235 (w32 (a1 + 2)) (up_s s6 5 (Int.toNat (w32 (a1 + 2))) r5) (fun s7 => (M_readRest_J109 a1 v2 s7)))))
theorem ok_M_readRest_J95 (a1 : Int) (v2 : Int) : ∀ (σ : Sg), G l Km Pm RX12 cX12_readRest 3 2 8 95 [some (.inr (.inr 0)), some (.inl a1), some (.inl v2)] [] σ (M_readRest_J95 a1 v2  σ) := by
  intro σ
  unfold M_readRest_J95
  refine g_aload_n dX12_readRest_95 rfl rfl ?_
  refine g_getr' (q := 5) fl_RX12_35 km_0 (by decide) rfl dX12_readRest_96 ?_
  refine g_iload_n dX12_readRest_99 rfl rfl ?_
  refine g_iconst dX12_readRest_100 (by decide) ?_
  refine g_iadd dX12_readRest_101 ?_
  refine g_aload_n dX12_readRest_102 rfl rfl ?_
  refine g_iconst dX12_readRest_103 (by decide) ?_
  refine g_iconst dX12_readRest_104 (by decide) ?_
  refine g_callv0 (st := [.inl (w32 (a1 + 2)), .inr (.inr 5)]) 10 mw_X12_readTold lk_RX12_265 rfl km_0 (ok_M_readTold 0 0 σ) (Nat.le_of_ble_eq_true rfl) rfl rfl (Nat.le_of_ble_eq_true rfl) dX12_readRest_105 ?_
  intro r5 s6
  refine g_iast km_5 dX12_readRest_108 ?_
  intro s7
  refine (ok_M_readRest_J109 a1 v2 s7)
def M_readRest_J85 (a1 : Int) (v2 : Int) (σ : Sg) : Rs := (if v2 = 1 then (M_readRest_J95 a1 v2 σ) else (if v2 = 2 then (M_readRest_J95 a1 v2 σ) else (M_readRest_J109 a1 v2 σ)))
theorem ok_M_readRest_J85 (a1 : Int) (v2 : Int) : ∀ (σ : Sg), G l Km Pm RX12 cX12_readRest 3 2 8 85 [some (.inr (.inr 0)), some (.inl a1), some (.inl v2)] [] σ (M_readRest_J85 a1 v2  σ) := by
  intro σ
  unfold M_readRest_J85
  refine g_iload_n dX12_readRest_85 rfl rfl ?_
  refine g_iconst dX12_readRest_86 (by decide) ?_
  refine g_icmpeq (tgt := 95) dX12_readRest_87 (by decide) ?_ ?_
  · refine (ok_M_readRest_J95 a1 v2 σ)
  · refine g_iload_n dX12_readRest_90 rfl rfl ?_
    refine g_iconst dX12_readRest_91 (by decide) ?_
    refine g_icmpne (tgt := 109) dX12_readRest_92 (by decide) ?_ ?_
    · refine (ok_M_readRest_J95 a1 v2 σ)
    · refine (ok_M_readRest_J109 a1 v2 σ)
def M_readRest (a1 : Int) (σ : Sg) : Rs := (rd 2235 a1 (σ 5 (Int.toNat a1)) (fun x1 => (if x1 = 0 then (bd (M_count 1 20 σ) (fun r2 s3 => (wr 2235 (w32 (a1 + 1)) (up_s s3 5 (Int.toNat (w32 (a1 + 1))) r2) (fun s4 => (M_readRest_J85 a1 x1 s4))))) else (if x1 = 6 then (bd (M_count 1 99 σ) (fun r17 s18 => (wr 2235 (w32 (a1 + 1)) (up_s s18 5 (Int.toNat (w32 (a1 + 1))) r17) (fun s19 => (M_readRest_J85 a1 x1 s19))))) else (if x1 = 5 then (bd (M_readTest a1 σ) (fun r20 s21 => (M_readRest_J85 a1 x1 s21))) else (if x1 < 4 then (bd (M_readTold 0 1 σ) (fun r22 s23 => (wr 2235 (w32 (a1 + 1)) (up_s s23 5 (Int.toNat (w32 (a1 + 1))) r22) (fun s24 => (M_readRest_J85 a1 x1 s24))))) else (M_readRest_J85 a1 x1 σ)))))))
theorem ok_M_readRest (a1 : Int) (σ : Sg) : MC l Km Pm yX12_readRest cX12_readRest 3 2 8 [.inr (.inr 0), .inl a1] σ (M_readRest a1 σ) := by
  refine mc_of (by decide) (Nat.le_of_ble_eq_true rfl) ?_
  change G l Km Pm RX12 cX12_readRest 3 2 8 0 [some (.inr (.inr 0)), some (.inl a1), none] [] σ (M_readRest a1 σ)
  unfold M_readRest
  refine g_aload_n dX12_readRest_0 rfl rfl ?_
  refine g_getr' (q := 5) fl_RX12_35 km_0 (by decide) rfl dX12_readRest_1 ?_
  refine g_iload_n dX12_readRest_4 rfl rfl ?_
  refine g_iald km_5 dX12_readRest_5 ?_
  intro x1
  refine g_istore_n (lv' := [some (.inr (.inr 0)), some (.inl a1), some (.inl x1)]) dX12_readRest_6 rfl (Nat.le_of_ble_eq_true rfl) rfl ?_
  refine g_iload_n dX12_readRest_7 rfl rfl ?_
  refine g_ifne (tgt := 29) dX12_readRest_8 (by decide) ?_ ?_
  · refine g_aload_n dX12_readRest_11 rfl rfl ?_
    refine g_getr' (q := 5) fl_RX12_35 km_0 (by decide) rfl dX12_readRest_12 ?_
    refine g_iload_n dX12_readRest_15 rfl rfl ?_
    refine g_iconst dX12_readRest_16 (by decide) ?_
    refine g_iadd dX12_readRest_17 ?_
    refine g_aload_n dX12_readRest_18 rfl rfl ?_
    refine g_iconst dX12_readRest_19 (by decide) ?_
    refine g_bipush dX12_readRest_20 (by decide) ?_
    refine g_callv0 (st := [.inl (w32 (a1 + 1)), .inr (.inr 5)]) 10 mw_X12_count lk_RX12_231 rfl km_0 (ok_M_count 1 20 σ) (Nat.le_of_ble_eq_true rfl) rfl rfl (Nat.le_of_ble_eq_true rfl) dX12_readRest_22 ?_
    intro r2 s3
    refine g_iast km_5 dX12_readRest_25 ?_
    intro s4
    refine g_goto (tgt := 85) dX12_readRest_26 (by decide) ?_
    refine (ok_M_readRest_J85 a1 x1 s4)
  · refine g_iload_n dX12_readRest_29 rfl rfl ?_
    refine g_bipush dX12_readRest_30 (by decide) ?_
    refine g_icmpne (tgt := 53) dX12_readRest_32 (by decide) ?_ ?_
    · refine g_aload_n dX12_readRest_35 rfl rfl ?_
      refine g_getr' (q := 5) fl_RX12_35 km_0 (by decide) rfl dX12_readRest_36 ?_
      refine g_iload_n dX12_readRest_39 rfl rfl ?_
      refine g_iconst dX12_readRest_40 (by decide) ?_
      refine g_iadd dX12_readRest_41 ?_
      refine g_aload_n dX12_readRest_42 rfl rfl ?_
      refine g_iconst dX12_readRest_43 (by decide) ?_
      refine g_bipush dX12_readRest_44 (by decide) ?_
      refine g_callv0 (st := [.inl (w32 (a1 + 1)), .inr (.inr 5)]) 10 mw_X12_count lk_RX12_231 rfl km_0 (ok_M_count 1 99 σ) (Nat.le_of_ble_eq_true rfl) rfl rfl (Nat.le_of_ble_eq_true rfl) dX12_readRest_46 ?_
      intro r17 s18
      refine g_iast km_5 dX12_readRest_49 ?_
      intro s19
      refine g_goto (tgt := 85) dX12_readRest_50 (by decide) ?_
      refine (ok_M_readRest_J85 a1 x1 s19)
    · refine g_iload_n dX12_readRest_53 rfl rfl ?_
      refine g_iconst dX12_readRest_54 (by decide) ?_
      refine g_icmpne (tgt := 66) dX12_readRest_55 (by decide) ?_ ?_
      · refine g_aload_n dX12_readRest_58 rfl rfl ?_
        refine g_iload_n dX12_readRest_59 rfl rfl ?_
        refine g_callv2 (st := []) 10 mw_X12_readTest lk_RX12_305 rfl km_0 (ok_M_readTest a1 σ) (Nat.le_of_ble_eq_true rfl) rfl rfl (Nat.le_of_ble_eq_true rfl) dX12_readRest_60 ?_
        intro r20 s21
        refine g_goto (tgt := 85) dX12_readRest_63 (by decide) ?_
        refine (ok_M_readRest_J85 a1 x1 s21)
      · refine g_iload_n dX12_readRest_66 rfl rfl ?_
        refine g_iconst dX12_readRest_67 (by decide) ?_
        refine g_icmpge (tgt := 85) dX12_readRest_68 (by decide) ?_ ?_
        · refine g_aload_n dX12_readRest_71 rfl rfl ?_
          refine g_getr' (q := 5) fl_RX12_35 km_0 (by decide) rfl dX12_readRest_72 ?_
          refine g_iload_n dX12_readRest_75 rfl rfl ?_
          refine g_iconst dX12_readRest_76 (by decide) ?_
          refine g_iadd dX12_readRest_77 ?_
          refine g_aload_n dX12_readRest_78 rfl rfl ?_
          refine g_iconst dX12_readRest_79 (by decide) ?_
          refine g_iconst dX12_readRest_80 (by decide) ?_
          refine g_callv0 (st := [.inl (w32 (a1 + 1)), .inr (.inr 5)]) 10 mw_X12_readTold lk_RX12_265 rfl km_0 (ok_M_readTold 0 1 σ) (Nat.le_of_ble_eq_true rfl) rfl rfl (Nat.le_of_ble_eq_true rfl) dX12_readRest_81 ?_
          intro r22 s23
          refine g_iast km_5 dX12_readRest_84 ?_
          intro s24
          refine (ok_M_readRest_J85 a1 x1 s24)
        · refine (ok_M_readRest_J85 a1 x1 σ)
end WK
