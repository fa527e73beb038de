section WK
variable {l : Launch}
theorem dX12_halvesOf_0 : decode cX12_halvesOf 0 = .ok (.iconst 0, 1) := by decide +kernel
theorem dX12_halvesOf_1 : decode cX12_halvesOf 1 = .ok (.istore_n 2, 1) := by decide +kernel
theorem dX12_halvesOf_2 : decode cX12_halvesOf 2 = .ok (.iconst 0, 1) := by decide +kernel
theorem dX12_halvesOf_3 : decode cX12_halvesOf 3 = .ok (.istore_n 3, 1) := by decide +kernel
theorem dX12_halvesOf_4 : decode cX12_halvesOf 4 = .ok (.iload_n 3, 1) := by decide +kernel
theorem dX12_halvesOf_5 : decode cX12_halvesOf 5 = .ok (.aload_n 0, 1) := by decide +kernel
theorem dX12_halvesOf_6 : decode cX12_halvesOf 6 = .ok (.getfield 35, 3) := by decide +kernel
theorem dX12_halvesOf_9 : decode cX12_halvesOf 9 = .ok (.iconst 3, 1) := by decide +kernel
theorem dX12_halvesOf_10 : decode cX12_halvesOf 10 = .ok (.iaload, 1) := by decide +kernel
theorem dX12_halvesOf_11 : decode cX12_halvesOf 11 = .ok (.if_icmp .ge 71, 3) := by decide +kernel
theorem dX12_halvesOf_14 : decode cX12_halvesOf 14 = .ok (.iload_n 2, 1) := by decide +kernel
theorem dX12_halvesOf_15 : decode cX12_halvesOf 15 = .ok (.aload_n 0, 1) := by decide +kernel
theorem dX12_halvesOf_16 : decode cX12_halvesOf 16 = .ok (.getfield 35, 3) := by decide +kernel
theorem dX12_halvesOf_19 : decode cX12_halvesOf 19 = .ok (.sipush 163, 3) := by decide +kernel
theorem dX12_halvesOf_22 : decode cX12_halvesOf 22 = .ok (.iload_n 3, 1) := by decide +kernel
theorem dX12_halvesOf_23 : decode cX12_halvesOf 23 = .ok (.iadd, 1) := by decide +kernel
theorem dX12_halvesOf_24 : decode cX12_halvesOf 24 = .ok (.iaload, 1) := by decide +kernel
theorem dX12_halvesOf_25 : decode cX12_halvesOf 25 = .ok (.iload_n 1, 1) := by decide +kernel
theorem dX12_halvesOf_26 : decode cX12_halvesOf 26 = .ok (.if_icmp .ne 18, 3) := by decide +kernel
theorem dX12_halvesOf_29 : decode cX12_halvesOf 29 = .ok (.iconst 1, 1) := by decide +kernel
theorem dX12_halvesOf_30 : decode cX12_halvesOf 30 = .ok (.aload_n 0, 1) := by decide +kernel
theorem dX12_halvesOf_31 : decode cX12_halvesOf 31 = .ok (.getfield 35, 3) := by decide +kernel
theorem dX12_halvesOf_34 : decode cX12_halvesOf 34 = .ok (.sipush 169, 3) := by decide +kernel
theorem dX12_halvesOf_37 : decode cX12_halvesOf 37 = .ok (.iload_n 3, 1) := by decide +kernel
theorem dX12_halvesOf_38 : decode cX12_halvesOf 38 = .ok (.iadd, 1) := by decide +kernel
theorem dX12_halvesOf_39 : decode cX12_halvesOf 39 = .ok (.iaload, 1) := by decide +kernel
theorem dX12_halvesOf_40 : decode cX12_halvesOf 40 = .ok (.ishl, 1) := by decide +kernel
theorem dX12_halvesOf_41 : decode cX12_halvesOf 41 = .ok (.goto 33, 3) := by decide +kernel
theorem dX12_halvesOf_44 : decode cX12_halvesOf 44 = .ok (.aload_n 0, 1) := by decide +kernel
theorem dX12_halvesOf_45 : decode cX12_halvesOf 45 = .ok (.getfield 35, 3) := by decide +kernel
theorem dX12_halvesOf_48 : decode cX12_halvesOf 48 = .ok (.sipush 169, 3) := by decide +kernel
theorem dX12_halvesOf_51 : decode cX12_halvesOf 51 = .ok (.iload_n 3, 1) := by decide +kernel
theorem dX12_halvesOf_52 : decode cX12_halvesOf 52 = .ok (.iadd, 1) := by decide +kernel
theorem dX12_halvesOf_53 : decode cX12_halvesOf 53 = .ok (.iaload, 1) := by decide +kernel
theorem dX12_halvesOf_54 : decode cX12_halvesOf 54 = .ok (.iload_n 1, 1) := by decide +kernel
theorem dX12_halvesOf_55 : decode cX12_halvesOf 55 = .ok (.if_icmp .ne 18, 3) := by decide +kernel
theorem dX12_halvesOf_58 : decode cX12_halvesOf 58 = .ok (.iconst 1, 1) := by decide +kernel
theorem dX12_halvesOf_59 : decode cX12_halvesOf 59 = .ok (.aload_n 0, 1) := by decide +kernel
theorem dX12_halvesOf_60 : decode cX12_halvesOf 60 = .ok (.getfield 35, 3) := by decide +kernel
theorem dX12_halvesOf_63 : decode cX12_halvesOf 63 = .ok (.sipush 163, 3) := by decide +kernel
theorem dX12_halvesOf_66 : decode cX12_halvesOf 66 = .ok (.iload_n 3, 1) := by decide +kernel
theorem dX12_halvesOf_67 : decode cX12_halvesOf 67 = .ok (.iadd, 1) := by decide +kernel
theorem dX12_halvesOf_68 : decode cX12_halvesOf 68 = .ok (.iaload, 1) := by decide +kernel
theorem dX12_halvesOf_69 : decode cX12_halvesOf 69 = .ok (.ishl, 1) := by decide +kernel
theorem dX12_halvesOf_70 : decode cX12_halvesOf 70 = .ok (.goto 4, 3) := by decide +kernel
theorem dX12_halvesOf_73 : decode cX12_halvesOf 73 = .ok (.iconst 0, 1) := by decide +kernel
theorem dX12_halvesOf_74 : decode cX12_halvesOf 74 = .ok (.ior, 1) := by decide +kernel
theorem dX12_halvesOf_75 : decode cX12_halvesOf 75 = .ok (.istore_n 2, 1) := by decide +kernel
theorem dX12_halvesOf_76 : decode cX12_halvesOf 76 = .ok (.iinc 3 1, 3) := by decide +kernel
theorem dX12_halvesOf_79 : decode cX12_halvesOf 79 = .ok (.goto (-75), 3) := by decide +kernel
theorem dX12_halvesOf_82 : decode cX12_halvesOf 82 = .ok (.iload_n 2, 1) := by decide +kernel
theorem dX12_halvesOf_83 : decode cX12_halvesOf 83 = .ok (.ireturn, 1) := by decide +kernel
theorem mw_X12_halvesOf : MW yX12_halvesOf cX12_halvesOf 4 0 1 false := ⟨tm 2017 (by decide +kernel) rfl, tm 249 (by decide +kernel) rfl, by decide, by decide, (by rw [if_neg (by decide)]; exact ⟨tm 2016 (by decide +kernel) rfl, tm 181 (by decide +kernel) rfl⟩)⟩
def M_halvesOf_L4 (a1 : Int) : Nat → Int → Int → Sg → Rs
  | 0, _, _, _ => none
  | n + 1, v2, v3, σ => (rd 2235 3 (σ 5 (Int.toNat 3)) (fun x1 => (if v3 < x1 then (rd 2235 (w32 (163 + v3)) (σ 5 (Int.toNat (w32 (163 + v3)))) (fun x2 => (if x2 = a1 then (rd 2235 (w32 (169 + v3)) (σ 5 (Int.toNat (w32 (169 + v3)))) (fun x3 => (nm (or32 v2 (sl32 1 x3)) (fun x4 => (nm (w32 (v3 + 1)) (fun x5 => (M_halvesOf_L4 a1 n x4 x5 σ))))))) else (rd 2235 (w32 (169 + v3)) (σ 5 (Int.toNat (w32 (169 + v3)))) (fun x6 => (if x6 = a1 then (rd 2235 (w32 (163 + v3)) (σ 5 (Int.toNat (w32 (163 + v3)))) (fun x7 => (nm (or32 v2 (sl32 1 x7)) (fun x8 => (nm (w32 (v3 + 1)) (fun x9 => (M_halvesOf_L4 a1 n x8 x9 σ))))))) else (nm (or32 v2 0) (fun x10 => (nm (w32 (v3 + 1)) (fun x11 => (M_halvesOf_L4 a1 n x10 x11 σ))))))))))) else (some (v2, σ)))))
theorem ok_M_halvesOf_L4 (a1 : Int) : ∀ (n : Nat) (v2 v3 : Int) (σ : Sg), G l Km Pm RX12 cX12_halvesOf 4 0 1 4 [some (.inr (.inr 0)), some (.inl a1), some (.inl v2), some (.inl v3)] [] σ (M_halvesOf_L4 a1 n v2 v3 σ) := by
  intro n
  induction n with
  | zero => intros; exact G.none_
  | succ n ih =>
    intro v2 v3 σ
    rw [M_halvesOf_L4]
    refine g_iload_n dX12_halvesOf_4 rfl rfl ?_
    refine g_aload_n dX12_halvesOf_5 rfl rfl ?_
    refine g_getr' (q := 5) fl_RX12_35 km_0 (by decide) rfl dX12_halvesOf_6 ?_
    refine g_iconst dX12_halvesOf_9 (by decide) ?_
    refine g_iald km_5 dX12_halvesOf_10 ?_
    intro x1
    refine g_icmpge (tgt := 82) dX12_halvesOf_11 (by decide) ?_ ?_
    · refine g_iload_n dX12_halvesOf_14 rfl rfl ?_
      refine g_aload_n dX12_halvesOf_15 rfl rfl ?_
      refine g_getr' (q := 5) fl_RX12_35 km_0 (by decide) rfl dX12_halvesOf_16 ?_
      refine g_sipush dX12_halvesOf_19 (by decide) ?_
      refine g_iload_n dX12_halvesOf_22 rfl rfl ?_
      refine g_iadd dX12_halvesOf_23 ?_
      refine g_iald km_5 dX12_halvesOf_24 ?_
      intro x2
      refine g_iload_n dX12_halvesOf_25 rfl rfl ?_
      refine g_icmpne (tgt := 44) dX12_halvesOf_26 (by decide) ?_ ?_
      · refine g_iconst dX12_halvesOf_29 (by decide) ?_
        refine g_aload_n dX12_halvesOf_30 rfl rfl ?_
        refine g_getr' (q := 5) fl_RX12_35 km_0 (by decide) rfl dX12_halvesOf_31 ?_
        refine g_sipush dX12_halvesOf_34 (by decide) ?_
        refine g_iload_n dX12_halvesOf_37 rfl rfl ?_
        refine g_iadd dX12_halvesOf_38 ?_
        refine g_iald km_5 dX12_halvesOf_39 ?_
        intro x3
        refine g_ishl dX12_halvesOf_40 ?_
        refine g_goto (tgt := 74) dX12_halvesOf_41 (by decide) ?_
        refine g_ior dX12_halvesOf_74 ?_
        refine n_istore_n (fun x4 => [some (.inr (.inr 0)), some (.inl a1), some (.inl x4), some (.inl v3)]) dX12_halvesOf_75 rfl (Nat.le_of_ble_eq_true rfl) (fun _ => rfl) ?_
        intro x4
        refine n_iinc (fun x5 => [some (.inr (.inr 0)), some (.inl a1), some (.inl x4), some (.inl x5)]) dX12_halvesOf_76 rfl (Nat.le_of_ble_eq_true rfl) (fun _ => rfl) ?_
        intro x5
        refine g_goto (tgt := 4) dX12_halvesOf_79 (by decide) ?_
        exact (ih x4 x5 σ)
      · refine g_aload_n dX12_halvesOf_44 rfl rfl ?_
        refine g_getr' (q := 5) fl_RX12_35 km_0 (by decide) rfl dX12_halvesOf_45 ?_
        refine g_sipush dX12_halvesOf_48 (by decide) ?_
        refine g_iload_n dX12_halvesOf_51 rfl rfl ?_
        refine g_iadd dX12_halvesOf_52 ?_
        refine g_iald km_5 dX12_halvesOf_53 ?_
        intro x6
        refine g_iload_n dX12_halvesOf_54 rfl rfl ?_
        refine g_icmpne (tgt := 73) dX12_halvesOf_55 (by decide) ?_ ?_
        · refine g_iconst dX12_halvesOf_58 (by decide) ?_
          refine g_aload_n dX12_halvesOf_59 rfl rfl ?_
          refine g_getr' (q := 5) fl_RX12_35 km_0 (by decide) rfl dX12_halvesOf_60 ?_
          refine g_sipush dX12_halvesOf_63 (by decide) ?_
          refine g_iload_n dX12_halvesOf_66 rfl rfl ?_
          refine g_iadd dX12_halvesOf_67 ?_
          refine g_iald km_5 dX12_halvesOf_68 ?_
          intro x7
          refine g_ishl dX12_halvesOf_69 ?_
          refine g_goto (tgt := 74) dX12_halvesOf_70 (by decide) ?_
          refine g_ior dX12_halvesOf_74 ?_
          refine n_istore_n (fun x8 => [some (.inr (.inr 0)), some (.inl a1), some (.inl x8), some (.inl v3)]) dX12_halvesOf_75 rfl (Nat.le_of_ble_eq_true rfl) (fun _ => rfl) ?_
          intro x8
          refine n_iinc (fun x9 => [some (.inr (.inr 0)), some (.inl a1), some (.inl x8), some (.inl x9)]) dX12_halvesOf_76 rfl (Nat.le_of_ble_eq_true rfl) (fun _ => rfl) ?_
          intro x9
          refine g_goto (tgt := 4) dX12_halvesOf_79 (by decide) ?_
          exact (ih x8 x9 σ)
        · refine g_iconst dX12_halvesOf_73 (by decide) ?_
          refine g_ior dX12_halvesOf_74 ?_
          refine n_istore_n (fun x10 => [some (.inr (.inr 0)), some (.inl a1), some (.inl x10), some (.inl v3)]) dX12_halvesOf_75 rfl (Nat.le_of_ble_eq_true rfl) (fun _ => rfl) ?_
          intro x10
          refine n_iinc (fun x11 => [some (.inr (.inr 0)), some (.inl a1), some (.inl x10), some (.inl x11)]) dX12_halvesOf_76 rfl (Nat.le_of_ble_eq_true rfl) (fun _ => rfl) ?_
          intro x11
          refine g_goto (tgt := 4) dX12_halvesOf_79 (by decide) ?_
          exact (ih x10 x11 σ)
    · refine g_iload_n dX12_halvesOf_82 rfl rfl ?_
      exact g_iret dX12_halvesOf_83
def M_halvesOf (a1 : Int) (σ : Sg) : Rs := (M_halvesOf_L4 a1 fu 0 0 σ)
theorem ok_M_halvesOf (a1 : Int) (σ : Sg) : MC l Km Pm yX12_halvesOf cX12_halvesOf 4 0 1 [.inr (.inr 0), .inl a1] σ (M_halvesOf a1 σ) := by
  refine mc_of (by decide) (Nat.le_of_ble_eq_true rfl) ?_
  change G l Km Pm RX12 cX12_halvesOf 4 0 1 0 [some (.inr (.inr 0)), some (.inl a1), none, none] [] σ (M_halvesOf a1 σ)
  unfold M_halvesOf
  refine g_iconst dX12_halvesOf_0 (by decide) ?_
  refine g_istore_n (lv' := [some (.inr (.inr 0)), some (.inl a1), some (.inl 0), none]) dX12_halvesOf_1 rfl (Nat.le_of_ble_eq_true rfl) rfl ?_
  refine g_iconst dX12_halvesOf_2 (by decide) ?_
  refine g_istore_n (lv' := [some (.inr (.inr 0)), some (.inl a1), some (.inl 0), some (.inl 0)]) dX12_halvesOf_3 rfl (Nat.le_of_ble_eq_true rfl) rfl ?_
  refine (ok_M_halvesOf_L4 a1 fu 0 0 σ)
theorem dX12_invite_0 : decode cX12_invite 0 = .ok (.aload_n 0, 1) := by decide +kernel
theorem dX12_invite_1 : decode cX12_invite 1 = .ok (.iconst 0, 1) := by decide +kernel
theorem dX12_invite_2 : decode cX12_invite 2 = .ok (.putfield 67, 3) := by decide +kernel
theorem dX12_invite_5 : decode cX12_invite 5 = .ok (.aload_n 0, 1) := by decide +kernel
theorem dX12_invite_6 : decode cX12_invite 6 = .ok (.iconst 0, 1) := by decide +kernel
theorem dX12_invite_7 : decode cX12_invite 7 = .ok (.putfield 70, 3) := by decide +kernel
theorem dX12_invite_10 : decode cX12_invite 10 = .ok (.aload_n 0, 1) := by decide +kernel
theorem dX12_invite_11 : decode cX12_invite 11 = .ok (.iload_n 1, 1) := by decide +kernel
theorem dX12_invite_12 : decode cX12_invite 12 = .ok (.invokevirtual 345, 3) := by decide +kernel
theorem dX12_invite_15 : decode cX12_invite 15 = .ok (.ifCond .eq 11, 3) := by decide +kernel
theorem dX12_invite_18 : decode cX12_invite 18 = .ok (.aload_n 0, 1) := by decide +kernel
theorem dX12_invite_19 : decode cX12_invite 19 = .ok (.iload_n 2, 1) := by decide +kernel
theorem dX12_invite_20 : decode cX12_invite 20 = .ok (.invokevirtual 345, 3) := by decide +kernel
theorem dX12_invite_23 : decode cX12_invite 23 = .ok (.ifCond .ne 9, 3) := by decide +kernel
theorem dX12_invite_26 : decode cX12_invite 26 = .ok (.aload_n 0, 1) := by decide +kernel
theorem dX12_invite_27 : decode cX12_invite 27 = .ok (.iconst 2, 1) := by decide +kernel
theorem dX12_invite_28 : decode cX12_invite 28 = .ok (.invokevirtual 325, 3) := by decide +kernel
theorem dX12_invite_31 : decode cX12_invite 31 = .ok (.ireturn, 1) := by decide +kernel
theorem dX12_invite_32 : decode cX12_invite 32 = .ok (.iload_n 1, 1) := by decide +kernel
theorem dX12_invite_33 : decode cX12_invite 33 = .ok (.iload_n 2, 1) := by decide +kernel
theorem dX12_invite_34 : decode cX12_invite 34 = .ok (.if_icmp .eq 15, 3) := by decide +kernel
theorem dX12_invite_37 : decode cX12_invite 37 = .ok (.iload_n 3, 1) := by decide +kernel
theorem dX12_invite_38 : decode cX12_invite 38 = .ok (.i2l, 1) := by decide +kernel
theorem dX12_invite_39 : decode cX12_invite 39 = .ok (.lconst 1, 1) := by decide +kernel
theorem dX12_invite_40 : decode cX12_invite 40 = .ok (.ldc2_w 402, 3) := by decide +kernel
theorem dX12_invite_43 : decode cX12_invite 43 = .ok (.invokestatic 102, 3) := by decide +kernel
theorem dX12_invite_46 : decode cX12_invite 46 = .ok (.ifCond .ne 9, 3) := by decide +kernel
theorem dX12_invite_49 : decode cX12_invite 49 = .ok (.aload_n 0, 1) := by decide +kernel
theorem dX12_invite_50 : decode cX12_invite 50 = .ok (.iconst 5, 1) := by decide +kernel
theorem dX12_invite_51 : decode cX12_invite 51 = .ok (.invokevirtual 325, 3) := by decide +kernel
theorem dX12_invite_54 : decode cX12_invite 54 = .ok (.ireturn, 1) := by decide +kernel
theorem dX12_invite_55 : decode cX12_invite 55 = .ok (.aload_n 0, 1) := by decide +kernel
theorem dX12_invite_56 : decode cX12_invite 56 = .ok (.getfield 35, 3) := by decide +kernel
theorem dX12_invite_59 : decode cX12_invite 59 = .ok (.iconst 2, 1) := by decide +kernel
theorem dX12_invite_60 : decode cX12_invite 60 = .ok (.iaload, 1) := by decide +kernel
theorem dX12_invite_61 : decode cX12_invite 61 = .ok (.istore 4, 2) := by decide +kernel
theorem dX12_invite_63 : decode cX12_invite 63 = .ok (.iload 4, 2) := by decide +kernel
theorem dX12_invite_65 : decode cX12_invite 65 = .ok (.bipush 6, 2) := by decide +kernel
theorem dX12_invite_67 : decode cX12_invite 67 = .ok (.if_icmp .ne 10, 3) := by decide +kernel
theorem dX12_invite_70 : decode cX12_invite 70 = .ok (.aload_n 0, 1) := by decide +kernel
theorem dX12_invite_71 : decode cX12_invite 71 = .ok (.bipush 7, 2) := by decide +kernel
theorem dX12_invite_73 : decode cX12_invite 73 = .ok (.invokevirtual 325, 3) := by decide +kernel
theorem dX12_invite_76 : decode cX12_invite 76 = .ok (.ireturn, 1) := by decide +kernel
theorem dX12_invite_77 : decode cX12_invite 77 = .ok (.aload_n 0, 1) := by decide +kernel
theorem dX12_invite_78 : decode cX12_invite 78 = .ok (.getfield 35, 3) := by decide +kernel
theorem dX12_invite_81 : decode cX12_invite 81 = .ok (.sipush 145, 3) := by decide +kernel
theorem dX12_invite_84 : decode cX12_invite 84 = .ok (.iload 4, 2) := by decide +kernel
theorem dX12_invite_86 : decode cX12_invite 86 = .ok (.iadd, 1) := by decide +kernel
theorem dX12_invite_87 : decode cX12_invite 87 = .ok (.iload_n 1, 1) := by decide +kernel
theorem dX12_invite_88 : decode cX12_invite 88 = .ok (.iastore, 1) := by decide +kernel
theorem dX12_invite_89 : decode cX12_invite 89 = .ok (.aload_n 0, 1) := by decide +kernel
theorem dX12_invite_90 : decode cX12_invite 90 = .ok (.getfield 35, 3) := by decide +kernel
theorem dX12_invite_93 : decode cX12_invite 93 = .ok (.sipush 151, 3) := by decide +kernel
theorem dX12_invite_96 : decode cX12_invite 96 = .ok (.iload 4, 2) := by decide +kernel
theorem dX12_invite_98 : decode cX12_invite 98 = .ok (.iadd, 1) := by decide +kernel
theorem dX12_invite_99 : decode cX12_invite 99 = .ok (.iload_n 2, 1) := by decide +kernel
theorem dX12_invite_100 : decode cX12_invite 100 = .ok (.iastore, 1) := by decide +kernel
theorem dX12_invite_101 : decode cX12_invite 101 = .ok (.aload_n 0, 1) := by decide +kernel
theorem dX12_invite_102 : decode cX12_invite 102 = .ok (.getfield 35, 3) := by decide +kernel
theorem dX12_invite_105 : decode cX12_invite 105 = .ok (.sipush 157, 3) := by decide +kernel
theorem dX12_invite_108 : decode cX12_invite 108 = .ok (.iload 4, 2) := by decide +kernel
theorem dX12_invite_110 : decode cX12_invite 110 = .ok (.iadd, 1) := by decide +kernel
theorem dX12_invite_111 : decode cX12_invite 111 = .ok (.iload_n 3, 1) := by decide +kernel
theorem dX12_invite_112 : decode cX12_invite 112 = .ok (.iastore, 1) := by decide +kernel
theorem dX12_invite_113 : decode cX12_invite 113 = .ok (.aload_n 0, 1) := by decide +kernel
theorem dX12_invite_114 : decode cX12_invite 114 = .ok (.getfield 35, 3) := by decide +kernel
theorem dX12_invite_117 : decode cX12_invite 117 = .ok (.iconst 2, 1) := by decide +kernel
theorem dX12_invite_118 : decode cX12_invite 118 = .ok (.dup2, 1) := by decide +kernel
theorem dX12_invite_119 : decode cX12_invite 119 = .ok (.iaload, 1) := by decide +kernel
theorem dX12_invite_120 : decode cX12_invite 120 = .ok (.iconst 1, 1) := by decide +kernel
theorem dX12_invite_121 : decode cX12_invite 121 = .ok (.iadd, 1) := by decide +kernel
theorem dX12_invite_122 : decode cX12_invite 122 = .ok (.iastore, 1) := by decide +kernel
theorem dX12_invite_123 : decode cX12_invite 123 = .ok (.iload 4, 2) := by decide +kernel
theorem dX12_invite_125 : decode cX12_invite 125 = .ok (.ireturn, 1) := by decide +kernel
theorem mw_X12_invite : MW yX12_invite cX12_invite 5 0 3 false := ⟨tm 2132 (by decide +kernel) rfl, tm 249 (by decide +kernel) rfl, by decide, by decide, (by rw [if_neg (by decide)]; exact ⟨tm 2130 (by decide +kernel) rfl, tm 2131 (by decide +kernel) rfl⟩)⟩
def M_invite (a1 : Int) (a2 : Int) (a3 : Int) (σ : Sg) : Rs := (nm (up_s σ 0 1 0) (fun s1 => (nm (up_s s1 0 0 0) (fun s2 => (bd (M_isPersonAt a1 s2) (fun r3 s4 => (if r3 = 0 then (bd (M_refuse 2 s4) (fun r5 s6 => (some (r5, s6)))) else (bd (M_isPersonAt a2 s4) (fun r7 s8 => (if r7 = 0 then (bd (M_refuse 2 s8) (fun r9 s10 => (some (r9, s10)))) else (if a1 = a2 then (bd (M_refuse 5 s8) (fun r11 s12 => (some (r11, s12)))) else (bd (M_isIn a3 1 30 s8) (fun r13 s14 => (if r13 = 0 then (bd (M_refuse 5 s14) (fun r15 s16 => (some (r15, s16)))) else (rd 2235 2 (s14 5 (Int.toNat 2)) (fun x17 => (if x17 = 6 then (bd (M_refuse 7 s14) (fun r18 s19 => (some (r18, s19)))) else (wr 2235 (w32 (145 + x17)) (up_s s14 5 (Int.toNat (w32 (145 + x17))) a1) (fun s20 => (wr 2235 (w32 (151 + x17)) (up_s s20 5 (Int.toNat (w32 (151 + x17))) a2) (fun s21 => (wr 2235 (w32 (157 + x17)) (up_s s21 5 (Int.toNat (w32 (157 + x17))) a3) (fun s22 => (rd 2235 2 (s22 5 (Int.toNat 2)) (fun x23 => (wr 2235 2 (up_s s22 5 (Int.toNat 2) (w32 (x23 + 1))) (fun s24 => (some (x17, s24)))))))))))))))))))))))))))))
theorem ok_M_invite (a1 : Int) (a2 : Int) (a3 : Int) (σ : Sg) : MC l Km Pm yX12_invite cX12_invite 5 0 3 [.inr (.inr 0), .inl a1, .inl a2, .inl a3] σ (M_invite a1 a2 a3 σ) := by
  refine mc_of (by decide) (Nat.le_of_ble_eq_true rfl) ?_
  change G l Km Pm RX12 cX12_invite 5 0 3 0 [some (.inr (.inr 0)), some (.inl a1), some (.inl a2), some (.inl a3), none] [] σ (M_invite a1 a2 a3 σ)
  unfold M_invite
  refine g_aload_n dX12_invite_0 rfl rfl ?_
  refine g_iconst dX12_invite_1 (by decide) ?_
  refine g_puti fl_RX12_67 km_0 (by decide) dX12_invite_2 ?_
  intro s1
  refine g_aload_n dX12_invite_5 rfl rfl ?_
  refine g_iconst dX12_invite_6 (by decide) ?_
  refine g_puti fl_RX12_70 km_0 (by decide) dX12_invite_7 ?_
  intro s2
  refine g_aload_n dX12_invite_10 rfl rfl ?_
  refine g_iload_n dX12_invite_11 rfl rfl ?_
  refine g_callv3 (st := []) 10 mw_X12_isPersonAt lk_RX12_345 rfl km_0 (ok_M_isPersonAt a1 s2) (Nat.le_of_ble_eq_true rfl) rfl rfl (Nat.le_of_ble_eq_true rfl) dX12_invite_12 ?_
  intro r3 s4
  refine g_ifeq (tgt := 26) dX12_invite_15 (by decide) ?_ ?_
  · refine g_aload_n dX12_invite_26 rfl rfl ?_
    refine g_iconst dX12_invite_27 (by decide) ?_
    refine g_callv0 (st := []) 10 mw_X12_refuse lk_RX12_325 rfl km_0 (ok_M_refuse 2 s4) (Nat.le_of_ble_eq_true rfl) rfl rfl (Nat.le_of_ble_eq_true rfl) dX12_invite_28 ?_
    intro r5 s6
    exact g_iret dX12_invite_31
  · refine g_aload_n dX12_invite_18 rfl rfl ?_
    refine g_iload_n dX12_invite_19 rfl rfl ?_
    refine g_callv3 (st := []) 10 mw_X12_isPersonAt lk_RX12_345 rfl km_0 (ok_M_isPersonAt a2 s4) (Nat.le_of_ble_eq_true rfl) rfl rfl (Nat.le_of_ble_eq_true rfl) dX12_invite_20 ?_
    intro r7 s8
    refine g_ifne (tgt := 32) dX12_invite_23 (by decide) ?_ ?_
    · refine g_aload_n dX12_invite_26 rfl rfl ?_
      refine g_iconst dX12_invite_27 (by decide) ?_
      refine g_callv0 (st := []) 10 mw_X12_refuse lk_RX12_325 rfl km_0 (ok_M_refuse 2 s8) (Nat.le_of_ble_eq_true rfl) rfl rfl (Nat.le_of_ble_eq_true rfl) dX12_invite_28 ?_
      intro r9 s10
      exact g_iret dX12_invite_31
    · refine g_iload_n dX12_invite_32 rfl rfl ?_
      refine g_iload_n dX12_invite_33 rfl rfl ?_
      refine g_icmpeq (tgt := 49) dX12_invite_34 (by decide) ?_ ?_
      · refine g_aload_n dX12_invite_49 rfl rfl ?_
        refine g_iconst dX12_invite_50 (by decide) ?_
        refine g_callv0 (st := []) 10 mw_X12_refuse lk_RX12_325 rfl km_0 (ok_M_refuse 5 s8) (Nat.le_of_ble_eq_true rfl) rfl rfl (Nat.le_of_ble_eq_true rfl) dX12_invite_51 ?_
        intro r11 s12
        exact g_iret dX12_invite_54
      · refine g_iload_n dX12_invite_37 rfl rfl ?_
        refine g_i2l dX12_invite_38 ?_
        refine g_lconst (v := 1) dX12_invite_39 (by decide) ?_
        refine g_ldc2 (n := 30) (tm 2133 (by decide +kernel) rfl) (by decide) dX12_invite_40 ?_
        refine g_calls3 (st := []) mw_X12_isIn lk_RX12_102 (ok_M_isIn a3 1 30 s8) (Nat.le_of_ble_eq_true rfl) rfl rfl (Nat.le_of_ble_eq_true rfl) dX12_invite_43 ?_
        intro r13 s14
        refine g_ifne (tgt := 55) dX12_invite_46 (by decide) ?_ ?_
        · refine g_aload_n dX12_invite_49 rfl rfl ?_
          refine g_iconst dX12_invite_50 (by decide) ?_
          refine g_callv0 (st := []) 10 mw_X12_refuse lk_RX12_325 rfl km_0 (ok_M_refuse 5 s14) (Nat.le_of_ble_eq_true rfl) rfl rfl (Nat.le_of_ble_eq_true rfl) dX12_invite_51 ?_
          intro r15 s16
          exact g_iret dX12_invite_54
        · refine g_aload_n dX12_invite_55 rfl rfl ?_
          refine g_getr' (q := 5) fl_RX12_35 km_0 (by decide) rfl dX12_invite_56 ?_
          refine g_iconst dX12_invite_59 (by decide) ?_
          refine g_iald km_5 dX12_invite_60 ?_
          intro x17
          refine g_istore (lv' := [some (.inr (.inr 0)), some (.inl a1), some (.inl a2), some (.inl a3), some (.inl x17)]) dX12_invite_61 (Nat.le_of_ble_eq_true rfl) rfl ?_
          refine g_iload dX12_invite_63 rfl ?_
          refine g_bipush dX12_invite_65 (by decide) ?_
          refine g_icmpne (tgt := 77) dX12_invite_67 (by decide) ?_ ?_
          · refine g_aload_n dX12_invite_70 rfl rfl ?_
            refine g_bipush dX12_invite_71 (by decide) ?_
            refine g_callv0 (st := []) 10 mw_X12_refuse lk_RX12_325 rfl km_0 (ok_M_refuse 7 s14) (Nat.le_of_ble_eq_true rfl) rfl rfl (Nat.le_of_ble_eq_true rfl) dX12_invite_73 ?_
            intro r18 s19
            exact g_iret dX12_invite_76
          · refine g_aload_n dX12_invite_77 rfl rfl ?_
            refine g_getr' (q := 5) fl_RX12_35 km_0 (by decide) rfl dX12_invite_78 ?_
            refine g_sipush dX12_invite_81 (by decide) ?_
            refine g_iload dX12_invite_84 rfl ?_
            refine g_iadd dX12_invite_86 ?_
            refine g_iload_n dX12_invite_87 rfl rfl ?_
            refine g_iast km_5 dX12_invite_88 ?_
            intro s20
            refine g_aload_n dX12_invite_89 rfl rfl ?_
            refine g_getr' (q := 5) fl_RX12_35 km_0 (by decide) rfl dX12_invite_90 ?_
            refine g_sipush dX12_invite_93 (by decide) ?_
            refine g_iload dX12_invite_96 rfl ?_
            refine g_iadd dX12_invite_98 ?_
            refine g_iload_n dX12_invite_99 rfl rfl ?_
            refine g_iast km_5 dX12_invite_100 ?_
            intro s21
            refine g_aload_n dX12_invite_101 rfl rfl ?_
            refine g_getr' (q := 5) fl_RX12_35 km_0 (by decide) rfl dX12_invite_102 ?_
            refine g_sipush dX12_invite_105 (by decide) ?_
            refine g_iload dX12_invite_108 rfl ?_
            refine g_iadd dX12_invite_110 ?_
            refine g_iload_n dX12_invite_111 rfl rfl ?_
            refine g_iast km_5 dX12_invite_112 ?_
            intro s22
            refine g_aload_n dX12_invite_113 rfl rfl ?_
            refine g_getr' (q := 5) fl_RX12_35 km_0 (by decide) rfl dX12_invite_114 ?_
            refine g_iconst dX12_invite_117 (by decide) ?_
            refine g_dup2 dX12_invite_118 rfl rfl ?_
            refine g_iald km_5 dX12_invite_119 ?_
            intro x23
            refine g_iconst dX12_invite_120 (by decide) ?_
            refine g_iadd dX12_invite_121 ?_
            refine g_iast km_5 dX12_invite_122 ?_
            intro s24
            refine g_iload dX12_invite_123 rfl ?_
            exact g_iret dX12_invite_125
theorem dX12_isWord_0 : decode cX12_isWord 0 = .ok (.aload_n 0, 1) := by decide +kernel
theorem dX12_isWord_1 : decode cX12_isWord 1 = .ok (.getfield 122, 3) := by decide +kernel
theorem dX12_isWord_4 : decode cX12_isWord 4 = .ok (.iconst 1, 1) := by decide +kernel
theorem dX12_isWord_5 : decode cX12_isWord 5 = .ok (.if_icmp .ne 16, 3) := by decide +kernel
theorem dX12_isWord_8 : decode cX12_isWord 8 = .ok (.aload_n 0, 1) := by decide +kernel
theorem dX12_isWord_9 : decode cX12_isWord 9 = .ok (.getfield 128, 3) := by decide +kernel
theorem dX12_isWord_12 : decode cX12_isWord 12 = .ok (.lload_n 1, 1) := by decide +kernel
theorem dX12_isWord_13 : decode cX12_isWord 13 = .ok (.lcmp, 1) := by decide +kernel
theorem dX12_isWord_14 : decode cX12_isWord 14 = .ok (.ifCond .ne 7, 3) := by decide +kernel
theorem dX12_isWord_17 : decode cX12_isWord 17 = .ok (.iconst 1, 1) := by decide +kernel
theorem dX12_isWord_18 : decode cX12_isWord 18 = .ok (.goto 4, 3) := by decide +kernel
theorem dX12_isWord_21 : decode cX12_isWord 21 = .ok (.iconst 0, 1) := by decide +kernel
theorem dX12_isWord_22 : decode cX12_isWord 22 = .ok (.ireturn, 1) := by decide +kernel
theorem mw_X12_isWord : MW yX12_isWord cX12_isWord 3 3 1 false := ⟨tm 1800 (by decide +kernel) rfl, tm 249 (by decide +kernel) rfl, by decide, by decide, (by rw [if_neg (by decide)]; exact ⟨tm 1799 (by decide +kernel) rfl, tm 132 (by decide +kernel) rfl⟩)⟩
def M_isWord (a1 : Int) (σ : Sg) : Rs := (if (σ 0 14) = 1 then (if (σ 0 19) = a1 then (some (1, σ)) else (some (0, σ))) else (some (0, σ)))
theorem ok_M_isWord (a1 : Int) (σ : Sg) : MC l Km Pm yX12_isWord cX12_isWord 3 3 1 [.inr (.inr 0), .inr (.inl a1)] σ (M_isWord a1 σ) := by
  refine mc_of (by decide) (Nat.le_of_ble_eq_true rfl) ?_
  change G l Km Pm RX12 cX12_isWord 3 3 1 0 [some (.inr (.inr 0)), some (.inr (.inl a1)), none] [] σ (M_isWord a1 σ)
  unfold M_isWord
  refine g_aload_n dX12_isWord_0 rfl rfl ?_
  refine g_geti fl_RX12_122 km_0 (by decide) dX12_isWord_1 ?_
  refine g_iconst dX12_isWord_4 (by decide) ?_
  refine g_icmpne (tgt := 21) dX12_isWord_5 (by decide) ?_ ?_
  · refine g_aload_n dX12_isWord_8 rfl rfl ?_
    refine g_getl fl_RX12_128 km_0 (by decide) dX12_isWord_9 ?_
    refine g_lload_n dX12_isWord_12 rfl rfl ?_
    refine g_lcmpne (tgt := 21) dX12_isWord_13 dX12_isWord_14 (by decide) ?_ ?_
    · refine g_iconst dX12_isWord_17 (by decide) ?_
      refine g_goto (tgt := 22) dX12_isWord_18 (by decide) ?_
      exact g_zret1 dX12_isWord_22
    · refine g_iconst dX12_isWord_21 (by decide) ?_
      exact g_zret0 dX12_isWord_22
  · refine g_iconst dX12_isWord_21 (by decide) ?_
    exact g_zret0 dX12_isWord_22
theorem dX12_spelled_0 : decode cX12_spelled 0 = .ok (.iload_n 0, 1) := by decide +kernel
theorem dX12_spelled_1 : decode cX12_spelled 1 = .ok (.i2l, 1) := by decide +kernel
theorem dX12_spelled_2 : decode cX12_spelled 2 = .ok (.ldc2_w 133, 3) := by decide +kernel
theorem dX12_spelled_5 : decode cX12_spelled 5 = .ok (.lsub, 1) := by decide +kernel
theorem dX12_spelled_6 : decode cX12_spelled 6 = .ok (.ldc2_w 131, 3) := by decide +kernel
theorem dX12_spelled_9 : decode cX12_spelled 9 = .ok (.lmul, 1) := by decide +kernel
theorem dX12_spelled_10 : decode cX12_spelled 10 = .ok (.iload_n 1, 1) := by decide +kernel
theorem dX12_spelled_11 : decode cX12_spelled 11 = .ok (.i2l, 1) := by decide +kernel
theorem dX12_spelled_12 : decode cX12_spelled 12 = .ok (.ladd, 1) := by decide +kernel
theorem dX12_spelled_13 : decode cX12_spelled 13 = .ok (.ldc2_w 133, 3) := by decide +kernel
theorem dX12_spelled_16 : decode cX12_spelled 16 = .ok (.lsub, 1) := by decide +kernel
theorem dX12_spelled_17 : decode cX12_spelled 17 = .ok (.lstore 6, 2) := by decide +kernel
theorem dX12_spelled_19 : decode cX12_spelled 19 = .ok (.iload_n 2, 1) := by decide +kernel
theorem dX12_spelled_20 : decode cX12_spelled 20 = .ok (.ifCond .le 19, 3) := by decide +kernel
theorem dX12_spelled_23 : decode cX12_spelled 23 = .ok (.lload 6, 2) := by decide +kernel
theorem dX12_spelled_25 : decode cX12_spelled 25 = .ok (.ldc2_w 131, 3) := by decide +kernel
theorem dX12_spelled_28 : decode cX12_spelled 28 = .ok (.lmul, 1) := by decide +kernel
theorem dX12_spelled_29 : decode cX12_spelled 29 = .ok (.iload_n 2, 1) := by decide +kernel
theorem dX12_spelled_30 : decode cX12_spelled 30 = .ok (.i2l, 1) := by decide +kernel
theorem dX12_spelled_31 : decode cX12_spelled 31 = .ok (.ladd, 1) := by decide +kernel
theorem dX12_spelled_32 : decode cX12_spelled 32 = .ok (.ldc2_w 133, 3) := by decide +kernel
theorem dX12_spelled_35 : decode cX12_spelled 35 = .ok (.lsub, 1) := by decide +kernel
theorem dX12_spelled_36 : decode cX12_spelled 36 = .ok (.goto 5, 3) := by decide +kernel
theorem dX12_spelled_39 : decode cX12_spelled 39 = .ok (.lload 6, 2) := by decide +kernel
theorem dX12_spelled_41 : decode cX12_spelled 41 = .ok (.lstore 6, 2) := by decide +kernel
theorem dX12_spelled_43 : decode cX12_spelled 43 = .ok (.iload_n 3, 1) := by decide +kernel
theorem dX12_spelled_44 : decode cX12_spelled 44 = .ok (.ifCond .le 19, 3) := by decide +kernel
theorem dX12_spelled_47 : decode cX12_spelled 47 = .ok (.lload 6, 2) := by decide +kernel
theorem dX12_spelled_49 : decode cX12_spelled 49 = .ok (.ldc2_w 131, 3) := by decide +kernel
theorem dX12_spelled_52 : decode cX12_spelled 52 = .ok (.lmul, 1) := by decide +kernel
theorem dX12_spelled_53 : decode cX12_spelled 53 = .ok (.iload_n 3, 1) := by decide +kernel
theorem dX12_spelled_54 : decode cX12_spelled 54 = .ok (.i2l, 1) := by decide +kernel
theorem dX12_spelled_55 : decode cX12_spelled 55 = .ok (.ladd, 1) := by decide +kernel
theorem dX12_spelled_56 : decode cX12_spelled 56 = .ok (.ldc2_w 133, 3) := by decide +kernel
theorem dX12_spelled_59 : decode cX12_spelled 59 = .ok (.lsub, 1) := by decide +kernel
theorem dX12_spelled_60 : decode cX12_spelled 60 = .ok (.goto 5, 3) := by decide +kernel
theorem dX12_spelled_63 : decode cX12_spelled 63 = .ok (.lload 6, 2) := by decide +kernel
theorem dX12_spelled_65 : decode cX12_spelled 65 = .ok (.lstore 6, 2) := by decide +kernel
theorem dX12_spelled_67 : decode cX12_spelled 67 = .ok (.iload 4, 2) := by decide +kernel
theorem dX12_spelled_69 : decode cX12_spelled 69 = .ok (.ifCond .le 20, 3) := by decide +kernel
theorem dX12_spelled_72 : decode cX12_spelled 72 = .ok (.lload 6, 2) := by decide +kernel
theorem dX12_spelled_74 : decode cX12_spelled 74 = .ok (.ldc2_w 131, 3) := by decide +kernel
theorem dX12_spelled_77 : decode cX12_spelled 77 = .ok (.lmul, 1) := by decide +kernel
theorem dX12_spelled_78 : decode cX12_spelled 78 = .ok (.iload 4, 2) := by decide +kernel
theorem dX12_spelled_80 : decode cX12_spelled 80 = .ok (.i2l, 1) := by decide +kernel
theorem dX12_spelled_81 : decode cX12_spelled 81 = .ok (.ladd, 1) := by decide +kernel
theorem dX12_spelled_82 : decode cX12_spelled 82 = .ok (.ldc2_w 133, 3) := by decide +kernel
theorem dX12_spelled_85 : decode cX12_spelled 85 = .ok (.lsub, 1) := by decide +kernel
theorem dX12_spelled_86 : decode cX12_spelled 86 = .ok (.goto 5, 3) := by decide +kernel
theorem dX12_spelled_89 : decode cX12_spelled 89 = .ok (.lload 6, 2) := by decide +kernel
theorem dX12_spelled_91 : decode cX12_spelled 91 = .ok (.lstore 6, 2) := by decide +kernel
theorem dX12_spelled_93 : decode cX12_spelled 93 = .ok (.iload 5, 2) := by decide +kernel
theorem dX12_spelled_95 : decode cX12_spelled 95 = .ok (.ifCond .le 20, 3) := by decide +kernel
theorem dX12_spelled_98 : decode cX12_spelled 98 = .ok (.lload 6, 2) := by decide +kernel
theorem dX12_spelled_100 : decode cX12_spelled 100 = .ok (.ldc2_w 131, 3) := by decide +kernel
theorem dX12_spelled_103 : decode cX12_spelled 103 = .ok (.lmul, 1) := by decide +kernel
theorem dX12_spelled_104 : decode cX12_spelled 104 = .ok (.iload 5, 2) := by decide +kernel
theorem dX12_spelled_106 : decode cX12_spelled 106 = .ok (.i2l, 1) := by decide +kernel
theorem dX12_spelled_107 : decode cX12_spelled 107 = .ok (.ladd, 1) := by decide +kernel
theorem dX12_spelled_108 : decode cX12_spelled 108 = .ok (.ldc2_w 133, 3) := by decide +kernel
theorem dX12_spelled_111 : decode cX12_spelled 111 = .ok (.lsub, 1) := by decide +kernel
theorem dX12_spelled_112 : decode cX12_spelled 112 = .ok (.goto 5, 3) := by decide +kernel
theorem dX12_spelled_115 : decode cX12_spelled 115 = .ok (.lload 6, 2) := by decide +kernel
theorem dX12_spelled_117 : decode cX12_spelled 117 = .ok (.lreturn, 1) := by decide +kernel
theorem mw_X12_spelled : MW yX12_spelled cX12_spelled 8 1 6 true := ⟨tm 1796 (by decide +kernel) rfl, tm 249 (by decide +kernel) rfl, by decide, by decide, (by rw [if_pos rfl]; exact tm 1795 (by decide +kernel) rfl)⟩
def M_spelled_J91 (a5 : Int) (t0 : Int) (σ : Sg) : Rs := (if 0 < a5 then (some ((w64 ((w64 ((w64 (t0 * 32)) + a5)) - 96)), σ)) else (some (t0, σ)))
theorem ok_M_spelled_J91 (a5 : Int) : ∀ (t0 : Int) (σ : Sg), G l Km Pm RX12 cX12_spelled 8 1 1 91 [none, none, none, none, none, some (.inl a5), none, none] [.inr (.inl t0)] σ (M_spelled_J91 a5 t0 σ) := by
  intro t0 σ
  unfold M_spelled_J91
  refine g_lstore (lv' := [none, none, none, none, none, some (.inl a5), some (.inr (.inl t0)), none]) dX12_spelled_91 (Nat.le_of_ble_eq_true rfl) rfl ?_
  refine g_iload dX12_spelled_93 rfl ?_
  refine g_ifle (tgt := 115) dX12_spelled_95 (by decide) ?_ ?_
  · refine g_lload dX12_spelled_98 rfl ?_
    refine g_ldc2 (n := 32) (tm 1777 (by decide +kernel) rfl) (by decide) dX12_spelled_100 ?_
    refine g_lmul dX12_spelled_103 ?_
    refine g_iload dX12_spelled_104 rfl ?_
    refine g_i2l dX12_spelled_106 ?_
    refine g_ladd dX12_spelled_107 ?_
    refine g_ldc2 (n := 96) (tm 1778 (by decide +kernel) rfl) (by decide) dX12_spelled_108 ?_
    refine g_lsub dX12_spelled_111 ?_
    refine g_goto (tgt := 117) dX12_spelled_112 (by decide) ?_
    exact g_lret dX12_spelled_117
  · refine g_lload dX12_spelled_115 rfl ?_
    exact g_lret dX12_spelled_117
def M_spelled_J65 (a4 : Int) (a5 : Int) (t0 : Int) (σ : Sg) : Rs := (if 0 < a4 then (M_spelled_J91 a5 (w64 ((w64 ((w64 (t0 * 32)) + a4)) - 96)) σ) else (M_spelled_J91 a5 t0 σ))
theorem ok_M_spelled_J65 (a4 : Int) (a5 : Int) : ∀ (t0 : Int) (σ : Sg), G l Km Pm RX12 cX12_spelled 8 1 1 65 [none, none, none, none, some (.inl a4), some (.inl a5), none, none] [.inr (.inl t0)] σ (M_spelled_J65 a4 a5 t0 σ) := by
  intro t0 σ
  unfold M_spelled_J65
  refine g_lstore (lv' := [none, none, none, none, some (.inl a4), some (.inl a5), some (.inr (.inl t0)), none]) dX12_spelled_65 (Nat.le_of_ble_eq_true rfl) rfl ?_
  refine g_iload dX12_spelled_67 rfl ?_
  refine g_ifle (tgt := 89) dX12_spelled_69 (by decide) ?_ ?_
  · refine g_lload dX12_spelled_72 rfl ?_
    refine g_ldc2 (n := 32) (tm 1777 (by decide +kernel) rfl) (by decide) dX12_spelled_74 ?_
    refine g_lmul dX12_spelled_77 ?_
    refine g_iload dX12_spelled_78 rfl ?_
    refine g_i2l dX12_spelled_80 ?_
    refine g_ladd dX12_spelled_81 ?_
    refine g_ldc2 (n := 96) (tm 1778 (by decide +kernel) rfl) (by decide) dX12_spelled_82 ?_
    refine g_lsub dX12_spelled_85 ?_
    refine g_goto (tgt := 91) dX12_spelled_86 (by decide) ?_
    refine (g_weak [false, false, false, false, false, true, false, false] (ok_M_spelled_J91 a5 (w64 ((w64 ((w64 (t0 * 32)) + a4)) - 96)) σ))
  · refine g_lload dX12_spelled_89 rfl ?_
    refine (g_weak [false, false, false, false, false, true, false, false] (ok_M_spelled_J91 a5 t0 σ))
def M_spelled_J41 (a3 : Int) (a4 : Int) (a5 : Int) (t0 : Int) (σ : Sg) : Rs := (if 0 < a3 then (M_spelled_J65 a4 a5 (w64 ((w64 ((w64 (t0 * 32)) + a3)) - 96)) σ) else (M_spelled_J65 a4 a5 t0 σ))
theorem ok_M_spelled_J41 (a3 : Int) (a4 : Int) (a5 : Int) : ∀ (t0 : Int) (σ : Sg), G l Km Pm RX12 cX12_spelled 8 1 1 41 [none, none, none, some (.inl a3), some (.inl a4), some (.inl a5), none, none] [.inr (.inl t0)] σ (M_spelled_J41 a3 a4 a5 t0 σ) := by
  intro t0 σ
  unfold M_spelled_J41
  refine g_lstore (lv' := [none, none, none, some (.inl a3), some (.inl a4), some (.inl a5), some (.inr (.inl t0)), none]) dX12_spelled_41 (Nat.le_of_ble_eq_true rfl) rfl ?_
  refine g_iload_n dX12_spelled_43 rfl rfl ?_
  refine g_ifle (tgt := 63) dX12_spelled_44 (by decide) ?_ ?_
  · refine g_lload dX12_spelled_47 rfl ?_
    refine g_ldc2 (n := 32) (tm 1777 (by decide +kernel) rfl) (by decide) dX12_spelled_49 ?_
    refine g_lmul dX12_spelled_52 ?_
    refine g_iload_n dX12_spelled_53 rfl rfl ?_
    refine g_i2l dX12_spelled_54 ?_
    refine g_ladd dX12_spelled_55 ?_
    refine g_ldc2 (n := 96) (tm 1778 (by decide +kernel) rfl) (by decide) dX12_spelled_56 ?_
    refine g_lsub dX12_spelled_59 ?_
    refine g_goto (tgt := 65) dX12_spelled_60 (by decide) ?_
    refine (g_weak [false, false, false, false, true, true, false, false] (ok_M_spelled_J65 a4 a5 (w64 ((w64 ((w64 (t0 * 32)) + a3)) - 96)) σ))
  · refine g_lload dX12_spelled_63 rfl ?_
    refine (g_weak [false, false, false, false, true, true, false, false] (ok_M_spelled_J65 a4 a5 t0 σ))
def M_spelled (a0 : Int) (a1 : Int) (a2 : Int) (a3 : Int) (a4 : Int) (a5 : Int) (σ : Sg) : Rs := (nm (w64 ((w64 ((w64 ((w64 (a0 - 96)) * 32)) + a1)) - 96)) (fun x1 => (if 0 < a2 then (M_spelled_J41 a3 a4 a5 (w64 ((w64 ((w64 (x1 * 32)) + a2)) - 96)) σ) else (M_spelled_J41 a3 a4 a5 x1 σ))))
theorem ok_M_spelled (a0 : Int) (a1 : Int) (a2 : Int) (a3 : Int) (a4 : Int) (a5 : Int) (σ : Sg) : MC l Km Pm yX12_spelled cX12_spelled 8 1 1 [.inl a0, .inl a1, .inl a2, .inl a3, .inl a4, .inl a5] σ (M_spelled a0 a1 a2 a3 a4 a5 σ) := by
  refine mc_of (by decide) (Nat.le_of_ble_eq_true rfl) ?_
  change G l Km Pm RX12 cX12_spelled 8 1 1 0 [some (.inl a0), some (.inl a1), some (.inl a2), some (.inl a3), some (.inl a4), some (.inl a5), none, none] [] σ (M_spelled a0 a1 a2 a3 a4 a5 σ)
  unfold M_spelled
  refine g_iload_n dX12_spelled_0 rfl rfl ?_
  refine g_i2l dX12_spelled_1 ?_
  refine g_ldc2 (n := 96) (tm 1778 (by decide +kernel) rfl) (by decide) dX12_spelled_2 ?_
  refine g_lsub dX12_spelled_5 ?_
  refine g_ldc2 (n := 32) (tm 1777 (by decide +kernel) rfl) (by decide) dX12_spelled_6 ?_
  refine g_lmul dX12_spelled_9 ?_
  refine g_iload_n dX12_spelled_10 rfl rfl ?_
  refine g_i2l dX12_spelled_11 ?_
  refine g_ladd dX12_spelled_12 ?_
  refine g_ldc2 (n := 96) (tm 1778 (by decide +kernel) rfl) (by decide) dX12_spelled_13 ?_
  refine g_lsub dX12_spelled_16 ?_
  refine n_lstore (fun x1 => [some (.inl a0), some (.inl a1), some (.inl a2), some (.inl a3), some (.inl a4), some (.inl a5), some (.inr (.inl x1)), none]) dX12_spelled_17 (Nat.le_of_ble_eq_true rfl) (fun _ => rfl) ?_
  intro x1
  refine g_iload_n dX12_spelled_19 rfl rfl ?_
  refine g_ifle (tgt := 39) dX12_spelled_20 (by decide) ?_ ?_
  · refine g_lload dX12_spelled_23 rfl ?_
    refine g_ldc2 (n := 32) (tm 1777 (by decide +kernel) rfl) (by decide) dX12_spelled_25 ?_
    refine g_lmul dX12_spelled_28 ?_
    refine g_iload_n dX12_spelled_29 rfl rfl ?_
    refine g_i2l dX12_spelled_30 ?_
    refine g_ladd dX12_spelled_31 ?_
    refine g_ldc2 (n := 96) (tm 1778 (by decide +kernel) rfl) (by decide) dX12_spelled_32 ?_
    refine g_lsub dX12_spelled_35 ?_
    refine g_goto (tgt := 41) dX12_spelled_36 (by decide) ?_
    refine (g_weak [false, false, false, true, true, true, false, false] (ok_M_spelled_J41 a3 a4 a5 (w64 ((w64 ((w64 (x1 * 32)) + a2)) - 96)) σ))
  · refine g_lload dX12_spelled_39 rfl ?_
    refine (g_weak [false, false, false, true, true, true, false, false] (ok_M_spelled_J41 a3 a4 a5 x1 σ))
theorem dX12_isBarber_0 : decode cX12_isBarber 0 = .ok (.aload_n 0, 1) := by decide +kernel
theorem dX12_isBarber_1 : decode cX12_isBarber 1 = .ok (.bipush 98, 2) := by decide +kernel
theorem dX12_isBarber_3 : decode cX12_isBarber 3 = .ok (.bipush 97, 2) := by decide +kernel
theorem dX12_isBarber_5 : decode cX12_isBarber 5 = .ok (.bipush 114, 2) := by decide +kernel
theorem dX12_isBarber_7 : decode cX12_isBarber 7 = .ok (.bipush 98, 2) := by decide +kernel
theorem dX12_isBarber_9 : decode cX12_isBarber 9 = .ok (.bipush 101, 2) := by decide +kernel
theorem dX12_isBarber_11 : decode cX12_isBarber 11 = .ok (.bipush 114, 2) := by decide +kernel
theorem dX12_isBarber_13 : decode cX12_isBarber 13 = .ok (.invokestatic 147, 3) := by decide +kernel
theorem dX12_isBarber_16 : decode cX12_isBarber 16 = .ok (.invokevirtual 151, 3) := by decide +kernel
theorem dX12_isBarber_19 : decode cX12_isBarber 19 = .ok (.ireturn, 1) := by decide +kernel
theorem mw_X12_isBarber : MW yX12_isBarber cX12_isBarber 1 3 0 false := ⟨tm 1866 (by decide +kernel) rfl, tm 249 (by decide +kernel) rfl, by decide, by decide, (by rw [if_neg (by decide)]; exact ⟨tm 1865 (by decide +kernel) rfl, tm 147 (by decide +kernel) rfl⟩)⟩
theorem lk_RX12_147 : LK RX12 147 yX12_spelled := Or.inl (tm 1794 (by decide +kernel) rfl)
theorem lk_RX12_151 : LK RX12 151 yX12_isWord := Or.inl (tm 1797 (by decide +kernel) rfl)
def M_isBarber  (σ : Sg) : Rs := (bd (M_spelled 98 97 114 98 101 114 σ) (fun r1 s2 => (bd (M_isWord r1 s2) (fun r3 s4 => (zb r3 (some (r3, s4)))))))
theorem ok_M_isBarber (σ : Sg) : MC l Km Pm yX12_isBarber cX12_isBarber 1 3 2 [.inr (.inr 0)] σ (M_isBarber σ) := by
  refine mc_of (by decide) (Nat.le_of_ble_eq_true rfl) ?_
  change G l Km Pm RX12 cX12_isBarber 1 3 2 0 [some (.inr (.inr 0))] [] σ (M_isBarber  σ)
  unfold M_isBarber
  refine g_aload_n dX12_isBarber_0 rfl rfl ?_
  refine g_bipush dX12_isBarber_1 (by decide) ?_
  refine g_bipush dX12_isBarber_3 (by decide) ?_
  refine g_bipush dX12_isBarber_5 (by decide) ?_
  refine g_bipush dX12_isBarber_7 (by decide) ?_
  refine g_bipush dX12_isBarber_9 (by decide) ?_
  refine g_bipush dX12_isBarber_11 (by decide) ?_
  refine g_calls1 (st := [.inr (.inr 0)]) mw_X12_spelled lk_RX12_147 (ok_M_spelled 98 97 114 98 101 114 σ) (Nat.le_of_ble_eq_true rfl) rfl rfl (Nat.le_of_ble_eq_true rfl) dX12_isBarber_13 ?_
  intro r1 s2
  refine g_callv3 (st := []) 10 mw_X12_isWord lk_RX12_151 rfl km_0 (ok_M_isWord r1 s2) (Nat.le_of_ble_eq_true rfl) rfl rfl (Nat.le_of_ble_eq_true rfl) dX12_isBarber_16 ?_
  intro r3 s4
  exact g_zret dX12_isBarber_19
theorem dX12_isBy_0 : decode cX12_isBy 0 = .ok (.aload_n 0, 1) := by decide +kernel
theorem dX12_isBy_1 : decode cX12_isBy 1 = .ok (.bipush 98, 2) := by decide +kernel
theorem dX12_isBy_3 : decode cX12_isBy 3 = .ok (.bipush 121, 2) := by decide +kernel
theorem dX12_isBy_5 : decode cX12_isBy 5 = .ok (.iconst 0, 1) := by decide +kernel
theorem dX12_isBy_6 : decode cX12_isBy 6 = .ok (.iconst 0, 1) := by decide +kernel
theorem dX12_isBy_7 : decode cX12_isBy 7 = .ok (.iconst 0, 1) := by decide +kernel
theorem dX12_isBy_8 : decode cX12_isBy 8 = .ok (.iconst 0, 1) := by decide +kernel
theorem dX12_isBy_9 : decode cX12_isBy 9 = .ok (.invokestatic 147, 3) := by decide +kernel
theorem dX12_isBy_12 : decode cX12_isBy 12 = .ok (.invokevirtual 151, 3) := by decide +kernel
theorem dX12_isBy_15 : decode cX12_isBy 15 = .ok (.ireturn, 1) := by decide +kernel
theorem mw_X12_isBy : MW yX12_isBy cX12_isBy 1 3 0 false := ⟨tm 1890 (by decide +kernel) rfl, tm 249 (by decide +kernel) rfl, by decide, by decide, (by rw [if_neg (by decide)]; exact ⟨tm 1889 (by decide +kernel) rfl, tm 153 (by decide +kernel) rfl⟩)⟩
def M_isBy  (σ : Sg) : Rs := (bd (M_spelled 98 121 0 0 0 0 σ) (fun r1 s2 => (bd (M_isWord r1 s2) (fun r3 s4 => (zb r3 (some (r3, s4)))))))
theorem ok_M_isBy (σ : Sg) : MC l Km Pm yX12_isBy cX12_isBy 1 3 2 [.inr (.inr 0)] σ (M_isBy σ) := by
  refine mc_of (by decide) (Nat.le_of_ble_eq_true rfl) ?_
  change G l Km Pm RX12 cX12_isBy 1 3 2 0 [some (.inr (.inr 0))] [] σ (M_isBy  σ)
  unfold M_isBy
  refine g_aload_n dX12_isBy_0 rfl rfl ?_
  refine g_bipush dX12_isBy_1 (by decide) ?_
  refine g_bipush dX12_isBy_3 (by decide) ?_
  refine g_iconst dX12_isBy_5 (by decide) ?_
  refine g_iconst dX12_isBy_6 (by decide) ?_
  refine g_iconst dX12_isBy_7 (by decide) ?_
  refine g_iconst dX12_isBy_8 (by decide) ?_
  refine g_calls1 (st := [.inr (.inr 0)]) mw_X12_spelled lk_RX12_147 (ok_M_spelled 98 121 0 0 0 0 σ) (Nat.le_of_ble_eq_true rfl) rfl rfl (Nat.le_of_ble_eq_true rfl) dX12_isBy_9 ?_
  intro r1 s2
  refine g_callv3 (st := []) 10 mw_X12_isWord lk_RX12_151 rfl km_0 (ok_M_isWord r1 s2) (Nat.le_of_ble_eq_true rfl) rfl rfl (Nat.le_of_ble_eq_true rfl) dX12_isBy_12 ?_
  intro r3 s4
  exact g_zret dX12_isBy_15
theorem dX12_isDinner_0 : decode cX12_isDinner 0 = .ok (.aload_n 0, 1) := by decide +kernel
theorem dX12_isDinner_1 : decode cX12_isDinner 1 = .ok (.bipush 100, 2) := by decide +kernel
theorem dX12_isDinner_3 : decode cX12_isDinner 3 = .ok (.bipush 105, 2) := by decide +kernel
theorem dX12_isDinner_5 : decode cX12_isDinner 5 = .ok (.bipush 110, 2) := by decide +kernel
theorem dX12_isDinner_7 : decode cX12_isDinner 7 = .ok (.bipush 110, 2) := by decide +kernel
theorem dX12_isDinner_9 : decode cX12_isDinner 9 = .ok (.bipush 101, 2) := by decide +kernel
theorem dX12_isDinner_11 : decode cX12_isDinner 11 = .ok (.bipush 114, 2) := by decide +kernel
theorem dX12_isDinner_13 : decode cX12_isDinner 13 = .ok (.invokestatic 147, 3) := by decide +kernel
theorem dX12_isDinner_16 : decode cX12_isDinner 16 = .ok (.invokevirtual 151, 3) := by decide +kernel
theorem dX12_isDinner_19 : decode cX12_isDinner 19 = .ok (.ireturn, 1) := by decide +kernel
theorem mw_X12_isDinner : MW yX12_isDinner cX12_isDinner 1 3 0 false := ⟨tm 1874 (by decide +kernel) rfl, tm 249 (by decide +kernel) rfl, by decide, by decide, (by rw [if_neg (by decide)]; exact ⟨tm 1873 (by decide +kernel) rfl, tm 149 (by decide +kernel) rfl⟩)⟩
def M_isDinner  (σ : Sg) : Rs := (bd (M_spelled 100 105 110 110 101 114 σ) (fun r1 s2 => (bd (M_isWord r1 s2) (fun r3 s4 => (zb r3 (some (r3, s4)))))))
theorem ok_M_isDinner (σ : Sg) : MC l Km Pm yX12_isDinner cX12_isDinner 1 3 2 [.inr (.inr 0)] σ (M_isDinner σ) := by
  refine mc_of (by decide) (Nat.le_of_ble_eq_true rfl) ?_
  change G l Km Pm RX12 cX12_isDinner 1 3 2 0 [some (.inr (.inr 0))] [] σ (M_isDinner  σ)
  unfold M_isDinner
  refine g_aload_n dX12_isDinner_0 rfl rfl ?_
  refine g_bipush dX12_isDinner_1 (by decide) ?_
  refine g_bipush dX12_isDinner_3 (by decide) ?_
  refine g_bipush dX12_isDinner_5 (by decide) ?_
  refine g_bipush dX12_isDinner_7 (by decide) ?_
  refine g_bipush dX12_isDinner_9 (by decide) ?_
  refine g_bipush dX12_isDinner_11 (by decide) ?_
  refine g_calls1 (st := [.inr (.inr 0)]) mw_X12_spelled lk_RX12_147 (ok_M_spelled 100 105 110 110 101 114 σ) (Nat.le_of_ble_eq_true rfl) rfl rfl (Nat.le_of_ble_eq_true rfl) dX12_isDinner_13 ?_
  intro r1 s2
  refine g_callv3 (st := []) 10 mw_X12_isWord lk_RX12_151 rfl km_0 (ok_M_isWord r1 s2) (Nat.le_of_ble_eq_true rfl) rfl rfl (Nat.le_of_ble_eq_true rfl) dX12_isDinner_16 ?_
  intro r3 s4
  exact g_zret dX12_isDinner_19
theorem dX12_isEnd_0 : decode cX12_isEnd 0 = .ok (.aload_n 0, 1) := by decide +kernel
theorem dX12_isEnd_1 : decode cX12_isEnd 1 = .ok (.bipush 101, 2) := by decide +kernel
theorem dX12_isEnd_3 : decode cX12_isEnd 3 = .ok (.bipush 110, 2) := by decide +kernel
theorem dX12_isEnd_5 : decode cX12_isEnd 5 = .ok (.bipush 100, 2) := by decide +kernel
theorem dX12_isEnd_7 : decode cX12_isEnd 7 = .ok (.iconst 0, 1) := by decide +kernel
theorem dX12_isEnd_8 : decode cX12_isEnd 8 = .ok (.iconst 0, 1) := by decide +kernel
theorem dX12_isEnd_9 : decode cX12_isEnd 9 = .ok (.iconst 0, 1) := by decide +kernel
theorem dX12_isEnd_10 : decode cX12_isEnd 10 = .ok (.invokestatic 147, 3) := by decide +kernel
theorem dX12_isEnd_13 : decode cX12_isEnd 13 = .ok (.invokevirtual 151, 3) := by decide +kernel
theorem dX12_isEnd_16 : decode cX12_isEnd 16 = .ok (.ireturn, 1) := by decide +kernel
theorem mw_X12_isEnd : MW yX12_isEnd cX12_isEnd 1 3 0 false := ⟨tm 1902 (by decide +kernel) rfl, tm 249 (by decide +kernel) rfl, by decide, by decide, (by rw [if_neg (by decide)]; exact ⟨tm 1901 (by decide +kernel) rfl, tm 156 (by decide +kernel) rfl⟩)⟩
def M_isEnd  (σ : Sg) : Rs := (bd (M_spelled 101 110 100 0 0 0 σ) (fun r1 s2 => (bd (M_isWord r1 s2) (fun r3 s4 => (zb r3 (some (r3, s4)))))))
theorem ok_M_isEnd (σ : Sg) : MC l Km Pm yX12_isEnd cX12_isEnd 1 3 2 [.inr (.inr 0)] σ (M_isEnd σ) := by
  refine mc_of (by decide) (Nat.le_of_ble_eq_true rfl) ?_
  change G l Km Pm RX12 cX12_isEnd 1 3 2 0 [some (.inr (.inr 0))] [] σ (M_isEnd  σ)
  unfold M_isEnd
  refine g_aload_n dX12_isEnd_0 rfl rfl ?_
  refine g_bipush dX12_isEnd_1 (by decide) ?_
  refine g_bipush dX12_isEnd_3 (by decide) ?_
  refine g_bipush dX12_isEnd_5 (by decide) ?_
  refine g_iconst dX12_isEnd_7 (by decide) ?_
  refine g_iconst dX12_isEnd_8 (by decide) ?_
  refine g_iconst dX12_isEnd_9 (by decide) ?_
  refine g_calls1 (st := [.inr (.inr 0)]) mw_X12_spelled lk_RX12_147 (ok_M_spelled 101 110 100 0 0 0 σ) (Nat.le_of_ble_eq_true rfl) rfl rfl (Nat.le_of_ble_eq_true rfl) dX12_isEnd_10 ?_
  intro r1 s2
  refine g_callv3 (st := []) 10 mw_X12_isWord lk_RX12_151 rfl km_0 (ok_M_isWord r1 s2) (Nat.le_of_ble_eq_true rfl) rfl rfl (Nat.le_of_ble_eq_true rfl) dX12_isEnd_13 ?_
  intro r3 s4
  exact g_zret dX12_isEnd_16
theorem dX12_isEvery_0 : decode cX12_isEvery 0 = .ok (.aload_n 0, 1) := by decide +kernel
theorem dX12_isEvery_1 : decode cX12_isEvery 1 = .ok (.bipush 101, 2) := by decide +kernel
theorem dX12_isEvery_3 : decode cX12_isEvery 3 = .ok (.bipush 118, 2) := by decide +kernel
theorem dX12_isEvery_5 : decode cX12_isEvery 5 = .ok (.bipush 101, 2) := by decide +kernel
theorem dX12_isEvery_7 : decode cX12_isEvery 7 = .ok (.bipush 114, 2) := by decide +kernel
theorem dX12_isEvery_9 : decode cX12_isEvery 9 = .ok (.bipush 121, 2) := by decide +kernel
theorem dX12_isEvery_11 : decode cX12_isEvery 11 = .ok (.iconst 0, 1) := by decide +kernel
theorem dX12_isEvery_12 : decode cX12_isEvery 12 = .ok (.invokestatic 147, 3) := by decide +kernel
theorem dX12_isEvery_15 : decode cX12_isEvery 15 = .ok (.invokevirtual 151, 3) := by decide +kernel
theorem dX12_isEvery_18 : decode cX12_isEvery 18 = .ok (.ireturn, 1) := by decide +kernel
theorem mw_X12_isEvery : MW yX12_isEvery cX12_isEvery 1 3 0 false := ⟨tm 1878 (by decide +kernel) rfl, tm 249 (by decide +kernel) rfl, by decide, by decide, (by rw [if_neg (by decide)]; exact ⟨tm 1877 (by decide +kernel) rfl, tm 150 (by decide +kernel) rfl⟩)⟩
def M_isEvery  (σ : Sg) : Rs := (bd (M_spelled 101 118 101 114 121 0 σ) (fun r1 s2 => (bd (M_isWord r1 s2) (fun r3 s4 => (zb r3 (some (r3, s4)))))))
theorem ok_M_isEvery (σ : Sg) : MC l Km Pm yX12_isEvery cX12_isEvery 1 3 2 [.inr (.inr 0)] σ (M_isEvery σ) := by
  refine mc_of (by decide) (Nat.le_of_ble_eq_true rfl) ?_
  change G l Km Pm RX12 cX12_isEvery 1 3 2 0 [some (.inr (.inr 0))] [] σ (M_isEvery  σ)
  unfold M_isEvery
  refine g_aload_n dX12_isEvery_0 rfl rfl ?_
  refine g_bipush dX12_isEvery_1 (by decide) ?_
  refine g_bipush dX12_isEvery_3 (by decide) ?_
  refine g_bipush dX12_isEvery_5 (by decide) ?_
  refine g_bipush dX12_isEvery_7 (by decide) ?_
  refine g_bipush dX12_isEvery_9 (by decide) ?_
  refine g_iconst dX12_isEvery_11 (by decide) ?_
  refine g_calls1 (st := [.inr (.inr 0)]) mw_X12_spelled lk_RX12_147 (ok_M_spelled 101 118 101 114 121 0 σ) (Nat.le_of_ble_eq_true rfl) rfl rfl (Nat.le_of_ble_eq_true rfl) dX12_isEvery_12 ?_
  intro r1 s2
  refine g_callv3 (st := []) 10 mw_X12_isWord lk_RX12_151 rfl km_0 (ok_M_isWord r1 s2) (Nat.le_of_ble_eq_true rfl) rfl rfl (Nat.le_of_ble_eq_true rfl) dX12_isEvery_15 ?_
  intro r3 s4
  exact g_zret dX12_isEvery_18
theorem dX12_isGrey_0 : decode cX12_isGrey 0 = .ok (.aload_n 0, 1) := by decide +kernel
theorem dX12_isGrey_1 : decode cX12_isGrey 1 = .ok (.bipush 103, 2) := by decide +kernel
theorem dX12_isGrey_3 : decode cX12_isGrey 3 = .ok (.bipush 114, 2) := by decide +kernel
theorem dX12_isGrey_5 : decode cX12_isGrey 5 = .ok (.bipush 101, 2) := by decide +kernel
theorem dX12_isGrey_7 : decode cX12_isGrey 7 = .ok (.bipush 121, 2) := by decide +kernel
theorem dX12_isGrey_9 : decode cX12_isGrey 9 = .ok (.iconst 0, 1) := by decide +kernel
theorem dX12_isGrey_10 : decode cX12_isGrey 10 = .ok (.iconst 0, 1) := by decide +kernel
theorem dX12_isGrey_11 : decode cX12_isGrey 11 = .ok (.invokestatic 147, 3) := by decide +kernel
theorem dX12_isGrey_14 : decode cX12_isGrey 14 = .ok (.invokevirtual 151, 3) := by decide +kernel
theorem dX12_isGrey_17 : decode cX12_isGrey 17 = .ok (.ireturn, 1) := by decide +kernel
theorem mw_X12_isGrey : MW yX12_isGrey cX12_isGrey 1 3 0 false := ⟨tm 1854 (by decide +kernel) rfl, tm 249 (by decide +kernel) rfl, by decide, by decide, (by rw [if_neg (by decide)]; exact ⟨tm 1853 (by decide +kernel) rfl, tm 144 (by decide +kernel) rfl⟩)⟩
def M_isGrey  (σ : Sg) : Rs := (bd (M_spelled 103 114 101 121 0 0 σ) (fun r1 s2 => (bd (M_isWord r1 s2) (fun r3 s4 => (zb r3 (some (r3, s4)))))))
theorem ok_M_isGrey (σ : Sg) : MC l Km Pm yX12_isGrey cX12_isGrey 1 3 2 [.inr (.inr 0)] σ (M_isGrey σ) := by
  refine mc_of (by decide) (Nat.le_of_ble_eq_true rfl) ?_
  change G l Km Pm RX12 cX12_isGrey 1 3 2 0 [some (.inr (.inr 0))] [] σ (M_isGrey  σ)
  unfold M_isGrey
  refine g_aload_n dX12_isGrey_0 rfl rfl ?_
  refine g_bipush dX12_isGrey_1 (by decide) ?_
  refine g_bipush dX12_isGrey_3 (by decide) ?_
  refine g_bipush dX12_isGrey_5 (by decide) ?_
  refine g_bipush dX12_isGrey_7 (by decide) ?_
  refine g_iconst dX12_isGrey_9 (by decide) ?_
  refine g_iconst dX12_isGrey_10 (by decide) ?_
  refine g_calls1 (st := [.inr (.inr 0)]) mw_X12_spelled lk_RX12_147 (ok_M_spelled 103 114 101 121 0 0 σ) (Nat.le_of_ble_eq_true rfl) rfl rfl (Nat.le_of_ble_eq_true rfl) dX12_isGrey_11 ?_
  intro r1 s2
  refine g_callv3 (st := []) 10 mw_X12_isWord lk_RX12_151 rfl km_0 (ok_M_isWord r1 s2) (Nat.le_of_ble_eq_true rfl) rfl rfl (Nat.le_of_ble_eq_true rfl) dX12_isGrey_14 ?_
  intro r3 s4
  exact g_zret dX12_isGrey_17
theorem dX12_isGrows_0 : decode cX12_isGrows 0 = .ok (.aload_n 0, 1) := by decide +kernel
theorem dX12_isGrows_1 : decode cX12_isGrows 1 = .ok (.bipush 103, 2) := by decide +kernel
theorem dX12_isGrows_3 : decode cX12_isGrows 3 = .ok (.bipush 114, 2) := by decide +kernel
theorem dX12_isGrows_5 : decode cX12_isGrows 5 = .ok (.bipush 111, 2) := by decide +kernel
theorem dX12_isGrows_7 : decode cX12_isGrows 7 = .ok (.bipush 119, 2) := by decide +kernel
theorem dX12_isGrows_9 : decode cX12_isGrows 9 = .ok (.bipush 115, 2) := by decide +kernel
theorem dX12_isGrows_11 : decode cX12_isGrows 11 = .ok (.iconst 0, 1) := by decide +kernel
theorem dX12_isGrows_12 : decode cX12_isGrows 12 = .ok (.invokestatic 147, 3) := by decide +kernel
theorem dX12_isGrows_15 : decode cX12_isGrows 15 = .ok (.invokevirtual 151, 3) := by decide +kernel
theorem dX12_isGrows_18 : decode cX12_isGrows 18 = .ok (.ireturn, 1) := by decide +kernel
theorem mw_X12_isGrows : MW yX12_isGrows cX12_isGrows 1 3 0 false := ⟨tm 1850 (by decide +kernel) rfl, tm 249 (by decide +kernel) rfl, by decide, by decide, (by rw [if_neg (by decide)]; exact ⟨tm 1849 (by decide +kernel) rfl, tm 143 (by decide +kernel) rfl⟩)⟩
def M_isGrows  (σ : Sg) : Rs := (bd (M_spelled 103 114 111 119 115 0 σ) (fun r1 s2 => (bd (M_isWord r1 s2) (fun r3 s4 => (zb r3 (some (r3, s4)))))))
theorem ok_M_isGrows (σ : Sg) : MC l Km Pm yX12_isGrows cX12_isGrows 1 3 2 [.inr (.inr 0)] σ (M_isGrows σ) := by
  refine mc_of (by decide) (Nat.le_of_ble_eq_true rfl) ?_
  change G l Km Pm RX12 cX12_isGrows 1 3 2 0 [some (.inr (.inr 0))] [] σ (M_isGrows  σ)
  unfold M_isGrows
  refine g_aload_n dX12_isGrows_0 rfl rfl ?_
  refine g_bipush dX12_isGrows_1 (by decide) ?_
  refine g_bipush dX12_isGrows_3 (by decide) ?_
  refine g_bipush dX12_isGrows_5 (by decide) ?_
  refine g_bipush dX12_isGrows_7 (by decide) ?_
  refine g_bipush dX12_isGrows_9 (by decide) ?_
  refine g_iconst dX12_isGrows_11 (by decide) ?_
  refine g_calls1 (st := [.inr (.inr 0)]) mw_X12_spelled lk_RX12_147 (ok_M_spelled 103 114 111 119 115 0 σ) (Nat.le_of_ble_eq_true rfl) rfl rfl (Nat.le_of_ble_eq_true rfl) dX12_isGrows_12 ?_
  intro r1 s2
  refine g_callv3 (st := []) 10 mw_X12_isWord lk_RX12_151 rfl km_0 (ok_M_isWord r1 s2) (Nat.le_of_ble_eq_true rfl) rfl rfl (Nat.le_of_ble_eq_true rfl) dX12_isGrows_15 ?_
  intro r3 s4
  exact g_zret dX12_isGrows_18
theorem dX12_isHalves_0 : decode cX12_isHalves 0 = .ok (.aload_n 0, 1) := by decide +kernel
theorem dX12_isHalves_1 : decode cX12_isHalves 1 = .ok (.bipush 104, 2) := by decide +kernel
theorem dX12_isHalves_3 : decode cX12_isHalves 3 = .ok (.bipush 97, 2) := by decide +kernel
theorem dX12_isHalves_5 : decode cX12_isHalves 5 = .ok (.bipush 108, 2) := by decide +kernel
theorem dX12_isHalves_7 : decode cX12_isHalves 7 = .ok (.bipush 118, 2) := by decide +kernel
theorem dX12_isHalves_9 : decode cX12_isHalves 9 = .ok (.bipush 101, 2) := by decide +kernel
theorem dX12_isHalves_11 : decode cX12_isHalves 11 = .ok (.bipush 115, 2) := by decide +kernel
theorem dX12_isHalves_13 : decode cX12_isHalves 13 = .ok (.invokestatic 147, 3) := by decide +kernel
theorem dX12_isHalves_16 : decode cX12_isHalves 16 = .ok (.invokevirtual 151, 3) := by decide +kernel
theorem dX12_isHalves_19 : decode cX12_isHalves 19 = .ok (.ireturn, 1) := by decide +kernel
theorem mw_X12_isHalves : MW yX12_isHalves cX12_isHalves 1 3 0 false := ⟨tm 1882 (by decide +kernel) rfl, tm 249 (by decide +kernel) rfl, by decide, by decide, (by rw [if_neg (by decide)]; exact ⟨tm 1881 (by decide +kernel) rfl, tm 151 (by decide +kernel) rfl⟩)⟩
def M_isHalves  (σ : Sg) : Rs := (bd (M_spelled 104 97 108 118 101 115 σ) (fun r1 s2 => (bd (M_isWord r1 s2) (fun r3 s4 => (zb r3 (some (r3, s4)))))))
theorem ok_M_isHalves (σ : Sg) : MC l Km Pm yX12_isHalves cX12_isHalves 1 3 2 [.inr (.inr 0)] σ (M_isHalves σ) := by
  refine mc_of (by decide) (Nat.le_of_ble_eq_true rfl) ?_
  change G l Km Pm RX12 cX12_isHalves 1 3 2 0 [some (.inr (.inr 0))] [] σ (M_isHalves  σ)
  unfold M_isHalves
  refine g_aload_n dX12_isHalves_0 rfl rfl ?_
  refine g_bipush dX12_isHalves_1 (by decide) ?_
  refine g_bipush dX12_isHalves_3 (by decide) ?_
  refine g_bipush dX12_isHalves_5 (by decide) ?_
  refine g_bipush dX12_isHalves_7 (by decide) ?_
  refine g_bipush dX12_isHalves_9 (by decide) ?_
  refine g_bipush dX12_isHalves_11 (by decide) ?_
  refine g_calls1 (st := [.inr (.inr 0)]) mw_X12_spelled lk_RX12_147 (ok_M_spelled 104 97 108 118 101 115 σ) (Nat.le_of_ble_eq_true rfl) rfl rfl (Nat.le_of_ble_eq_true rfl) dX12_isHalves_13 ?_
  intro r1 s2
  refine g_callv3 (st := []) 10 mw_X12_isWord lk_RX12_151 rfl km_0 (ok_M_isWord r1 s2) (Nat.le_of_ble_eq_true rfl) rfl rfl (Nat.le_of_ble_eq_true rfl) dX12_isHalves_16 ?_
  intro r3 s4
  exact g_zret dX12_isHalves_19
theorem dX12_isHeard_0 : decode cX12_isHeard 0 = .ok (.aload_n 0, 1) := by decide +kernel
theorem dX12_isHeard_1 : decode cX12_isHeard 1 = .ok (.bipush 104, 2) := by decide +kernel
theorem dX12_isHeard_3 : decode cX12_isHeard 3 = .ok (.bipush 101, 2) := by decide +kernel
theorem dX12_isHeard_5 : decode cX12_isHeard 5 = .ok (.bipush 97, 2) := by decide +kernel
theorem dX12_isHeard_7 : decode cX12_isHeard 7 = .ok (.bipush 114, 2) := by decide +kernel
theorem dX12_isHeard_9 : decode cX12_isHeard 9 = .ok (.bipush 100, 2) := by decide +kernel
theorem dX12_isHeard_11 : decode cX12_isHeard 11 = .ok (.iconst 0, 1) := by decide +kernel
theorem dX12_isHeard_12 : decode cX12_isHeard 12 = .ok (.invokestatic 147, 3) := by decide +kernel
theorem dX12_isHeard_15 : decode cX12_isHeard 15 = .ok (.invokevirtual 151, 3) := by decide +kernel
theorem dX12_isHeard_18 : decode cX12_isHeard 18 = .ok (.ireturn, 1) := by decide +kernel
theorem mw_X12_isHeard : MW yX12_isHeard cX12_isHeard 1 3 0 false := ⟨tm 1793 (by decide +kernel) rfl, tm 249 (by decide +kernel) rfl, by decide, by decide, (by rw [if_neg (by decide)]; exact ⟨tm 1792 (by decide +kernel) rfl, tm 131 (by decide +kernel) rfl⟩)⟩
def M_isHeard  (σ : Sg) : Rs := (bd (M_spelled 104 101 97 114 100 0 σ) (fun r1 s2 => (bd (M_isWord r1 s2) (fun r3 s4 => (zb r3 (some (r3, s4)))))))
theorem ok_M_isHeard (σ : Sg) : MC l Km Pm yX12_isHeard cX12_isHeard 1 3 2 [.inr (.inr 0)] σ (M_isHeard σ) := by
  refine mc_of (by decide) (Nat.le_of_ble_eq_true rfl) ?_
  change G l Km Pm RX12 cX12_isHeard 1 3 2 0 [some (.inr (.inr 0))] [] σ (M_isHeard  σ)
  unfold M_isHeard
  refine g_aload_n dX12_isHeard_0 rfl rfl ?_
  refine g_bipush dX12_isHeard_1 (by decide) ?_
  refine g_bipush dX12_isHeard_3 (by decide) ?_
  refine g_bipush dX12_isHeard_5 (by decide) ?_
  refine g_bipush dX12_isHeard_7 (by decide) ?_
  refine g_bipush dX12_isHeard_9 (by decide) ?_
  refine g_iconst dX12_isHeard_11 (by decide) ?_
  refine g_calls1 (st := [.inr (.inr 0)]) mw_X12_spelled lk_RX12_147 (ok_M_spelled 104 101 97 114 100 0 σ) (Nat.le_of_ble_eq_true rfl) rfl rfl (Nat.le_of_ble_eq_true rfl) dX12_isHeard_12 ?_
  intro r1 s2
  refine g_callv3 (st := []) 10 mw_X12_isWord lk_RX12_151 rfl km_0 (ok_M_isWord r1 s2) (Nat.le_of_ble_eq_true rfl) rfl rfl (Nat.le_of_ble_eq_true rfl) dX12_isHeard_15 ?_
  intro r3 s4
  exact g_zret dX12_isHeard_18
theorem dX12_isKeeps_0 : decode cX12_isKeeps 0 = .ok (.aload_n 0, 1) := by decide +kernel
theorem dX12_isKeeps_1 : decode cX12_isKeeps 1 = .ok (.bipush 107, 2) := by decide +kernel
theorem dX12_isKeeps_3 : decode cX12_isKeeps 3 = .ok (.bipush 101, 2) := by decide +kernel
theorem dX12_isKeeps_5 : decode cX12_isKeeps 5 = .ok (.bipush 101, 2) := by decide +kernel
theorem dX12_isKeeps_7 : decode cX12_isKeeps 7 = .ok (.bipush 112, 2) := by decide +kernel
theorem dX12_isKeeps_9 : decode cX12_isKeeps 9 = .ok (.bipush 115, 2) := by decide +kernel
theorem dX12_isKeeps_11 : decode cX12_isKeeps 11 = .ok (.iconst 0, 1) := by decide +kernel
theorem dX12_isKeeps_12 : decode cX12_isKeeps 12 = .ok (.invokestatic 147, 3) := by decide +kernel
theorem dX12_isKeeps_15 : decode cX12_isKeeps 15 = .ok (.invokevirtual 151, 3) := by decide +kernel
theorem dX12_isKeeps_18 : decode cX12_isKeeps 18 = .ok (.ireturn, 1) := by decide +kernel
theorem mw_X12_isKeeps : MW yX12_isKeeps cX12_isKeeps 1 3 0 false := ⟨tm 1870 (by decide +kernel) rfl, tm 249 (by decide +kernel) rfl, by decide, by decide, (by rw [if_neg (by decide)]; exact ⟨tm 1869 (by decide +kernel) rfl, tm 148 (by decide +kernel) rfl⟩)⟩
def M_isKeeps  (σ : Sg) : Rs := (bd (M_spelled 107 101 101 112 115 0 σ) (fun r1 s2 => (bd (M_isWord r1 s2) (fun r3 s4 => (zb r3 (some (r3, s4)))))))
theorem ok_M_isKeeps (σ : Sg) : MC l Km Pm yX12_isKeeps cX12_isKeeps 1 3 2 [.inr (.inr 0)] σ (M_isKeeps σ) := by
  refine mc_of (by decide) (Nat.le_of_ble_eq_true rfl) ?_
  change G l Km Pm RX12 cX12_isKeeps 1 3 2 0 [some (.inr (.inr 0))] [] σ (M_isKeeps  σ)
  unfold M_isKeeps
  refine g_aload_n dX12_isKeeps_0 rfl rfl ?_
  refine g_bipush dX12_isKeeps_1 (by decide) ?_
  refine g_bipush dX12_isKeeps_3 (by decide) ?_
  refine g_bipush dX12_isKeeps_5 (by decide) ?_
  refine g_bipush dX12_isKeeps_7 (by decide) ?_
  refine g_bipush dX12_isKeeps_9 (by decide) ?_
  refine g_iconst dX12_isKeeps_11 (by decide) ?_
  refine g_calls1 (st := [.inr (.inr 0)]) mw_X12_spelled lk_RX12_147 (ok_M_spelled 107 101 101 112 115 0 σ) (Nat.le_of_ble_eq_true rfl) rfl rfl (Nat.le_of_ble_eq_true rfl) dX12_isKeeps_12 ?_
  intro r1 s2
  refine g_callv3 (st := []) 10 mw_X12_isWord lk_RX12_151 rfl km_0 (ok_M_isWord r1 s2) (Nat.le_of_ble_eq_true rfl) rfl rfl (Nat.le_of_ble_eq_true rfl) dX12_isKeeps_15 ?_
  intro r3 s4
  exact g_zret dX12_isKeeps_18
theorem dX12_isOdds_0 : decode cX12_isOdds 0 = .ok (.aload_n 0, 1) := by decide +kernel
theorem dX12_isOdds_1 : decode cX12_isOdds 1 = .ok (.bipush 111, 2) := by decide +kernel
theorem dX12_isOdds_3 : decode cX12_isOdds 3 = .ok (.bipush 100, 2) := by decide +kernel
theorem dX12_isOdds_5 : decode cX12_isOdds 5 = .ok (.bipush 100, 2) := by decide +kernel
theorem dX12_isOdds_7 : decode cX12_isOdds 7 = .ok (.bipush 115, 2) := by decide +kernel
theorem dX12_isOdds_9 : decode cX12_isOdds 9 = .ok (.iconst 0, 1) := by decide +kernel
theorem dX12_isOdds_10 : decode cX12_isOdds 10 = .ok (.iconst 0, 1) := by decide +kernel
theorem dX12_isOdds_11 : decode cX12_isOdds 11 = .ok (.invokestatic 147, 3) := by decide +kernel
theorem dX12_isOdds_14 : decode cX12_isOdds 14 = .ok (.invokevirtual 151, 3) := by decide +kernel
theorem dX12_isOdds_17 : decode cX12_isOdds 17 = .ok (.ireturn, 1) := by decide +kernel
theorem mw_X12_isOdds : MW yX12_isOdds cX12_isOdds 1 3 0 false := ⟨tm 1826 (by decide +kernel) rfl, tm 249 (by decide +kernel) rfl, by decide, by decide, (by rw [if_neg (by decide)]; exact ⟨tm 1825 (by decide +kernel) rfl, tm 137 (by decide +kernel) rfl⟩)⟩
def M_isOdds  (σ : Sg) : Rs := (bd (M_spelled 111 100 100 115 0 0 σ) (fun r1 s2 => (bd (M_isWord r1 s2) (fun r3 s4 => (zb r3 (some (r3, s4)))))))
theorem ok_M_isOdds (σ : Sg) : MC l Km Pm yX12_isOdds cX12_isOdds 1 3 2 [.inr (.inr 0)] σ (M_isOdds σ) := by
  refine mc_of (by decide) (Nat.le_of_ble_eq_true rfl) ?_
  change G l Km Pm RX12 cX12_isOdds 1 3 2 0 [some (.inr (.inr 0))] [] σ (M_isOdds  σ)
  unfold M_isOdds
  refine g_aload_n dX12_isOdds_0 rfl rfl ?_
  refine g_bipush dX12_isOdds_1 (by decide) ?_
  refine g_bipush dX12_isOdds_3 (by decide) ?_
  refine g_bipush dX12_isOdds_5 (by decide) ?_
  refine g_bipush dX12_isOdds_7 (by decide) ?_
  refine g_iconst dX12_isOdds_9 (by decide) ?_
  refine g_iconst dX12_isOdds_10 (by decide) ?_
  refine g_calls1 (st := [.inr (.inr 0)]) mw_X12_spelled lk_RX12_147 (ok_M_spelled 111 100 100 115 0 0 σ) (Nat.le_of_ble_eq_true rfl) rfl rfl (Nat.le_of_ble_eq_true rfl) dX12_isOdds_11 ?_
  intro r1 s2
  refine g_callv3 (st := []) 10 mw_X12_isWord lk_RX12_151 rfl km_0 (ok_M_isWord r1 s2) (Nat.le_of_ble_eq_true rfl) rfl rfl (Nat.le_of_ble_eq_true rfl) dX12_isOdds_14 ?_
  intro r3 s4
  exact g_zret dX12_isOdds_17
theorem dX12_isPerson_0 : decode cX12_isPerson 0 = .ok (.aload_n 0, 1) := by decide +kernel
theorem dX12_isPerson_1 : decode cX12_isPerson 1 = .ok (.bipush 112, 2) := by decide +kernel
theorem dX12_isPerson_3 : decode cX12_isPerson 3 = .ok (.bipush 101, 2) := by decide +kernel
theorem dX12_isPerson_5 : decode cX12_isPerson 5 = .ok (.bipush 114, 2) := by decide +kernel
theorem dX12_isPerson_7 : decode cX12_isPerson 7 = .ok (.bipush 115, 2) := by decide +kernel
theorem dX12_isPerson_9 : decode cX12_isPerson 9 = .ok (.bipush 111, 2) := by decide +kernel
theorem dX12_isPerson_11 : decode cX12_isPerson 11 = .ok (.bipush 110, 2) := by decide +kernel
theorem dX12_isPerson_13 : decode cX12_isPerson 13 = .ok (.invokestatic 147, 3) := by decide +kernel
theorem dX12_isPerson_16 : decode cX12_isPerson 16 = .ok (.invokevirtual 151, 3) := by decide +kernel
theorem dX12_isPerson_19 : decode cX12_isPerson 19 = .ok (.ireturn, 1) := by decide +kernel
theorem mw_X12_isPerson : MW yX12_isPerson cX12_isPerson 1 3 0 false := ⟨tm 1858 (by decide +kernel) rfl, tm 249 (by decide +kernel) rfl, by decide, by decide, (by rw [if_neg (by decide)]; exact ⟨tm 1857 (by decide +kernel) rfl, tm 145 (by decide +kernel) rfl⟩)⟩
def M_isPerson  (σ : Sg) : Rs := (bd (M_spelled 112 101 114 115 111 110 σ) (fun r1 s2 => (bd (M_isWord r1 s2) (fun r3 s4 => (zb r3 (some (r3, s4)))))))
theorem ok_M_isPerson (σ : Sg) : MC l Km Pm yX12_isPerson cX12_isPerson 1 3 2 [.inr (.inr 0)] σ (M_isPerson σ) := by
  refine mc_of (by decide) (Nat.le_of_ble_eq_true rfl) ?_
  change G l Km Pm RX12 cX12_isPerson 1 3 2 0 [some (.inr (.inr 0))] [] σ (M_isPerson  σ)
  unfold M_isPerson
  refine g_aload_n dX12_isPerson_0 rfl rfl ?_
  refine g_bipush dX12_isPerson_1 (by decide) ?_
  refine g_bipush dX12_isPerson_3 (by decide) ?_
  refine g_bipush dX12_isPerson_5 (by decide) ?_
  refine g_bipush dX12_isPerson_7 (by decide) ?_
  refine g_bipush dX12_isPerson_9 (by decide) ?_
  refine g_bipush dX12_isPerson_11 (by decide) ?_
  refine g_calls1 (st := [.inr (.inr 0)]) mw_X12_spelled lk_RX12_147 (ok_M_spelled 112 101 114 115 111 110 σ) (Nat.le_of_ble_eq_true rfl) rfl rfl (Nat.le_of_ble_eq_true rfl) dX12_isPerson_13 ?_
  intro r1 s2
  refine g_callv3 (st := []) 10 mw_X12_isWord lk_RX12_151 rfl km_0 (ok_M_isWord r1 s2) (Nat.le_of_ble_eq_true rfl) rfl rfl (Nat.le_of_ble_eq_true rfl) dX12_isPerson_16 ?_
  intro r3 s4
  exact g_zret dX12_isPerson_19
theorem dX12_isTemper_0 : decode cX12_isTemper 0 = .ok (.aload_n 0, 1) := by decide +kernel
theorem dX12_isTemper_1 : decode cX12_isTemper 1 = .ok (.bipush 116, 2) := by decide +kernel
theorem dX12_isTemper_3 : decode cX12_isTemper 3 = .ok (.bipush 101, 2) := by decide +kernel
theorem dX12_isTemper_5 : decode cX12_isTemper 5 = .ok (.bipush 109, 2) := by decide +kernel
theorem dX12_isTemper_7 : decode cX12_isTemper 7 = .ok (.bipush 112, 2) := by decide +kernel
theorem dX12_isTemper_9 : decode cX12_isTemper 9 = .ok (.bipush 101, 2) := by decide +kernel
theorem dX12_isTemper_11 : decode cX12_isTemper 11 = .ok (.bipush 114, 2) := by decide +kernel
theorem dX12_isTemper_13 : decode cX12_isTemper 13 = .ok (.invokestatic 147, 3) := by decide +kernel
theorem dX12_isTemper_16 : decode cX12_isTemper 16 = .ok (.invokevirtual 151, 3) := by decide +kernel
theorem dX12_isTemper_19 : decode cX12_isTemper 19 = .ok (.ireturn, 1) := by decide +kernel
theorem mw_X12_isTemper : MW yX12_isTemper cX12_isTemper 1 3 0 false := ⟨tm 1862 (by decide +kernel) rfl, tm 249 (by decide +kernel) rfl, by decide, by decide, (by rw [if_neg (by decide)]; exact ⟨tm 1861 (by decide +kernel) rfl, tm 146 (by decide +kernel) rfl⟩)⟩
def M_isTemper  (σ : Sg) : Rs := (bd (M_spelled 116 101 109 112 101 114 σ) (fun r1 s2 => (bd (M_isWord r1 s2) (fun r3 s4 => (zb r3 (some (r3, s4)))))))
theorem ok_M_isTemper (σ : Sg) : MC l Km Pm yX12_isTemper cX12_isTemper 1 3 2 [.inr (.inr 0)] σ (M_isTemper σ) := by
  refine mc_of (by decide) (Nat.le_of_ble_eq_true rfl) ?_
  change G l Km Pm RX12 cX12_isTemper 1 3 2 0 [some (.inr (.inr 0))] [] σ (M_isTemper  σ)
  unfold M_isTemper
  refine g_aload_n dX12_isTemper_0 rfl rfl ?_
  refine g_bipush dX12_isTemper_1 (by decide) ?_
  refine g_bipush dX12_isTemper_3 (by decide) ?_
  refine g_bipush dX12_isTemper_5 (by decide) ?_
  refine g_bipush dX12_isTemper_7 (by decide) ?_
  refine g_bipush dX12_isTemper_9 (by decide) ?_
  refine g_bipush dX12_isTemper_11 (by decide) ?_
  refine g_calls1 (st := [.inr (.inr 0)]) mw_X12_spelled lk_RX12_147 (ok_M_spelled 116 101 109 112 101 114 σ) (Nat.le_of_ble_eq_true rfl) rfl rfl (Nat.le_of_ble_eq_true rfl) dX12_isTemper_13 ?_
  intro r1 s2
  refine g_callv3 (st := []) 10 mw_X12_isWord lk_RX12_151 rfl km_0 (ok_M_isWord r1 s2) (Nat.le_of_ble_eq_true rfl) rfl rfl (Nat.le_of_ble_eq_true rfl) dX12_isTemper_16 ?_
  intro r3 s4
  exact g_zret dX12_isTemper_19
theorem dX12_isTo_0 : decode cX12_isTo 0 = .ok (.aload_n 0, 1) := by decide +kernel
theorem dX12_isTo_1 : decode cX12_isTo 1 = .ok (.bipush 116, 2) := by decide +kernel
theorem dX12_isTo_3 : decode cX12_isTo 3 = .ok (.bipush 111, 2) := by decide +kernel
theorem dX12_isTo_5 : decode cX12_isTo 5 = .ok (.iconst 0, 1) := by decide +kernel
theorem dX12_isTo_6 : decode cX12_isTo 6 = .ok (.iconst 0, 1) := by decide +kernel
theorem dX12_isTo_7 : decode cX12_isTo 7 = .ok (.iconst 0, 1) := by decide +kernel
theorem dX12_isTo_8 : decode cX12_isTo 8 = .ok (.iconst 0, 1) := by decide +kernel
theorem dX12_isTo_9 : decode cX12_isTo 9 = .ok (.invokestatic 147, 3) := by decide +kernel
theorem dX12_isTo_12 : decode cX12_isTo 12 = .ok (.invokevirtual 151, 3) := by decide +kernel
theorem dX12_isTo_15 : decode cX12_isTo 15 = .ok (.ireturn, 1) := by decide +kernel
theorem mw_X12_isTo : MW yX12_isTo cX12_isTo 1 3 0 false := ⟨tm 1886 (by decide +kernel) rfl, tm 249 (by decide +kernel) rfl, by decide, by decide, (by rw [if_neg (by decide)]; exact ⟨tm 1885 (by decide +kernel) rfl, tm 152 (by decide +kernel) rfl⟩)⟩
def M_isTo  (σ : Sg) : Rs := (bd (M_spelled 116 111 0 0 0 0 σ) (fun r1 s2 => (bd (M_isWord r1 s2) (fun r3 s4 => (zb r3 (some (r3, s4)))))))
theorem ok_M_isTo (σ : Sg) : MC l Km Pm yX12_isTo cX12_isTo 1 3 2 [.inr (.inr 0)] σ (M_isTo σ) := by
  refine mc_of (by decide) (Nat.le_of_ble_eq_true rfl) ?_
  change G l Km Pm RX12 cX12_isTo 1 3 2 0 [some (.inr (.inr 0))] [] σ (M_isTo  σ)
  unfold M_isTo
  refine g_aload_n dX12_isTo_0 rfl rfl ?_
  refine g_bipush dX12_isTo_1 (by decide) ?_
  refine g_bipush dX12_isTo_3 (by decide) ?_
  refine g_iconst dX12_isTo_5 (by decide) ?_
  refine g_iconst dX12_isTo_6 (by decide) ?_
  refine g_iconst dX12_isTo_7 (by decide) ?_
  refine g_iconst dX12_isTo_8 (by decide) ?_
  refine g_calls1 (st := [.inr (.inr 0)]) mw_X12_spelled lk_RX12_147 (ok_M_spelled 116 111 0 0 0 0 σ) (Nat.le_of_ble_eq_true rfl) rfl rfl (Nat.le_of_ble_eq_true rfl) dX12_isTo_9 ?_
  intro r1 s2
  refine g_callv3 (st := []) 10 mw_X12_isWord lk_RX12_151 rfl km_0 (ok_M_isWord r1 s2) (Nat.le_of_ble_eq_true rfl) rfl rfl (Nat.le_of_ble_eq_true rfl) dX12_isTo_12 ?_
  intro r3 s4
  exact g_zret dX12_isTo_15
theorem dX12_isWordWord_0 : decode cX12_isWordWord 0 = .ok (.aload_n 0, 1) := by decide +kernel
theorem dX12_isWordWord_1 : decode cX12_isWordWord 1 = .ok (.bipush 119, 2) := by decide +kernel
theorem dX12_isWordWord_3 : decode cX12_isWordWord 3 = .ok (.bipush 111, 2) := by decide +kernel
theorem dX12_isWordWord_5 : decode cX12_isWordWord 5 = .ok (.bipush 114, 2) := by decide +kernel
theorem dX12_isWordWord_7 : decode cX12_isWordWord 7 = .ok (.bipush 100, 2) := by decide +kernel
theorem dX12_isWordWord_9 : decode cX12_isWordWord 9 = .ok (.iconst 0, 1) := by decide +kernel
theorem dX12_isWordWord_10 : decode cX12_isWordWord 10 = .ok (.iconst 0, 1) := by decide +kernel
theorem dX12_isWordWord_11 : decode cX12_isWordWord 11 = .ok (.invokestatic 147, 3) := by decide +kernel
theorem dX12_isWordWord_14 : decode cX12_isWordWord 14 = .ok (.invokevirtual 151, 3) := by decide +kernel
theorem dX12_isWordWord_17 : decode cX12_isWordWord 17 = .ok (.ireturn, 1) := by decide +kernel
theorem mw_X12_isWordWord : MW yX12_isWordWord cX12_isWordWord 1 3 0 false := ⟨tm 1830 (by decide +kernel) rfl, tm 249 (by decide +kernel) rfl, by decide, by decide, (by rw [if_neg (by decide)]; exact ⟨tm 1829 (by decide +kernel) rfl, tm 138 (by decide +kernel) rfl⟩)⟩
def M_isWordWord  (σ : Sg) : Rs := (bd (M_spelled 119 111 114 100 0 0 σ) (fun r1 s2 => (bd (M_isWord r1 s2) (fun r3 s4 => (zb r3 (some (r3, s4)))))))
theorem ok_M_isWordWord (σ : Sg) : MC l Km Pm yX12_isWordWord cX12_isWordWord 1 3 2 [.inr (.inr 0)] σ (M_isWordWord σ) := by
  refine mc_of (by decide) (Nat.le_of_ble_eq_true rfl) ?_
  change G l Km Pm RX12 cX12_isWordWord 1 3 2 0 [some (.inr (.inr 0))] [] σ (M_isWordWord  σ)
  unfold M_isWordWord
  refine g_aload_n dX12_isWordWord_0 rfl rfl ?_
  refine g_bipush dX12_isWordWord_1 (by decide) ?_
  refine g_bipush dX12_isWordWord_3 (by decide) ?_
  refine g_bipush dX12_isWordWord_5 (by decide) ?_
  refine g_bipush dX12_isWordWord_7 (by decide) ?_
  refine g_iconst dX12_isWordWord_9 (by decide) ?_
  refine g_iconst dX12_isWordWord_10 (by decide) ?_
  refine g_calls1 (st := [.inr (.inr 0)]) mw_X12_spelled lk_RX12_147 (ok_M_spelled 119 111 114 100 0 0 σ) (Nat.le_of_ble_eq_true rfl) rfl rfl (Nat.le_of_ble_eq_true rfl) dX12_isWordWord_11 ?_
  intro r1 s2
  refine g_callv3 (st := []) 10 mw_X12_isWord lk_RX12_151 rfl km_0 (ok_M_isWord r1 s2) (Nat.le_of_ble_eq_true rfl) rfl rfl (Nat.le_of_ble_eq_true rfl) dX12_isWordWord_14 ?_
  intro r3 s4
  exact g_zret dX12_isWordWord_17
theorem dX12_stepWord_0 : decode cX12_stepWord 0 = .ok (.aload_n 0, 1) := by decide +kernel
theorem dX12_stepWord_1 : decode cX12_stepWord 1 = .ok (.bipush 100, 2) := by decide +kernel
theorem dX12_stepWord_3 : decode cX12_stepWord 3 = .ok (.bipush 97, 2) := by decide +kernel
theorem dX12_stepWord_5 : decode cX12_stepWord 5 = .ok (.bipush 121, 2) := by decide +kernel
theorem dX12_stepWord_7 : decode cX12_stepWord 7 = .ok (.iconst 0, 1) := by decide +kernel
theorem dX12_stepWord_8 : decode cX12_stepWord 8 = .ok (.iconst 0, 1) := by decide +kernel
theorem dX12_stepWord_9 : decode cX12_stepWord 9 = .ok (.iconst 0, 1) := by decide +kernel
theorem dX12_stepWord_10 : decode cX12_stepWord 10 = .ok (.invokestatic 147, 3) := by decide +kernel
theorem dX12_stepWord_13 : decode cX12_stepWord 13 = .ok (.invokevirtual 151, 3) := by decide +kernel
theorem dX12_stepWord_16 : decode cX12_stepWord 16 = .ok (.ifCond .eq 5, 3) := by decide +kernel
theorem dX12_stepWord_19 : decode cX12_stepWord 19 = .ok (.iconst 0, 1) := by decide +kernel
theorem dX12_stepWord_20 : decode cX12_stepWord 20 = .ok (.ireturn, 1) := by decide +kernel
theorem dX12_stepWord_21 : decode cX12_stepWord 21 = .ok (.aload_n 0, 1) := by decide +kernel
theorem dX12_stepWord_22 : decode cX12_stepWord 22 = .ok (.bipush 107, 2) := by decide +kernel
theorem dX12_stepWord_24 : decode cX12_stepWord 24 = .ok (.bipush 101, 2) := by decide +kernel
theorem dX12_stepWord_26 : decode cX12_stepWord 26 = .ok (.bipush 101, 2) := by decide +kernel
theorem dX12_stepWord_28 : decode cX12_stepWord 28 = .ok (.bipush 112, 2) := by decide +kernel
theorem dX12_stepWord_30 : decode cX12_stepWord 30 = .ok (.iconst 0, 1) := by decide +kernel
theorem dX12_stepWord_31 : decode cX12_stepWord 31 = .ok (.iconst 0, 1) := by decide +kernel
theorem dX12_stepWord_32 : decode cX12_stepWord 32 = .ok (.invokestatic 147, 3) := by decide +kernel
theorem dX12_stepWord_35 : decode cX12_stepWord 35 = .ok (.invokevirtual 151, 3) := by decide +kernel
theorem dX12_stepWord_38 : decode cX12_stepWord 38 = .ok (.ifCond .eq 5, 3) := by decide +kernel
theorem dX12_stepWord_41 : decode cX12_stepWord 41 = .ok (.iconst 1, 1) := by decide +kernel
theorem dX12_stepWord_42 : decode cX12_stepWord 42 = .ok (.ireturn, 1) := by decide +kernel
theorem dX12_stepWord_43 : decode cX12_stepWord 43 = .ok (.aload_n 0, 1) := by decide +kernel
theorem dX12_stepWord_44 : decode cX12_stepWord 44 = .ok (.bipush 115, 2) := by decide +kernel
theorem dX12_stepWord_46 : decode cX12_stepWord 46 = .ok (.bipush 97, 2) := by decide +kernel
theorem dX12_stepWord_48 : decode cX12_stepWord 48 = .ok (.bipush 121, 2) := by decide +kernel
theorem dX12_stepWord_50 : decode cX12_stepWord 50 = .ok (.iconst 0, 1) := by decide +kernel
theorem dX12_stepWord_51 : decode cX12_stepWord 51 = .ok (.iconst 0, 1) := by decide +kernel
theorem dX12_stepWord_52 : decode cX12_stepWord 52 = .ok (.iconst 0, 1) := by decide +kernel
theorem dX12_stepWord_53 : decode cX12_stepWord 53 = .ok (.invokestatic 147, 3) := by decide +kernel
theorem dX12_stepWord_56 : decode cX12_stepWord 56 = .ok (.invokevirtual 151, 3) := by decide +kernel
theorem dX12_stepWord_59 : decode cX12_stepWord 59 = .ok (.ifCond .eq 5, 3) := by decide +kernel
theorem dX12_stepWord_62 : decode cX12_stepWord 62 = .ok (.iconst 2, 1) := by decide +kernel
theorem dX12_stepWord_63 : decode cX12_stepWord 63 = .ok (.ireturn, 1) := by decide +kernel
theorem dX12_stepWord_64 : decode cX12_stepWord 64 = .ok (.aload_n 0, 1) := by decide +kernel
theorem dX12_stepWord_65 : decode cX12_stepWord 65 = .ok (.bipush 99, 2) := by decide +kernel
theorem dX12_stepWord_67 : decode cX12_stepWord 67 = .ok (.bipush 117, 2) := by decide +kernel
theorem dX12_stepWord_69 : decode cX12_stepWord 69 = .ok (.bipush 116, 2) := by decide +kernel
theorem dX12_stepWord_71 : decode cX12_stepWord 71 = .ok (.iconst 0, 1) := by decide +kernel
theorem dX12_stepWord_72 : decode cX12_stepWord 72 = .ok (.iconst 0, 1) := by decide +kernel
theorem dX12_stepWord_73 : decode cX12_stepWord 73 = .ok (.iconst 0, 1) := by decide +kernel
theorem dX12_stepWord_74 : decode cX12_stepWord 74 = .ok (.invokestatic 147, 3) := by decide +kernel
theorem dX12_stepWord_77 : decode cX12_stepWord 77 = .ok (.invokevirtual 151, 3) := by decide +kernel
theorem dX12_stepWord_80 : decode cX12_stepWord 80 = .ok (.ifCond .eq 5, 3) := by decide +kernel
theorem dX12_stepWord_83 : decode cX12_stepWord 83 = .ok (.iconst 3, 1) := by decide +kernel
theorem dX12_stepWord_84 : decode cX12_stepWord 84 = .ok (.ireturn, 1) := by decide +kernel
theorem dX12_stepWord_85 : decode cX12_stepWord 85 = .ok (.aload_n 0, 1) := by decide +kernel
theorem dX12_stepWord_86 : decode cX12_stepWord 86 = .ok (.bipush 97, 2) := by decide +kernel
theorem dX12_stepWord_88 : decode cX12_stepWord 88 = .ok (.bipush 110, 2) := by decide +kernel
theorem dX12_stepWord_90 : decode cX12_stepWord 90 = .ok (.bipush 121, 2) := by decide +kernel
theorem dX12_stepWord_92 : decode cX12_stepWord 92 = .ok (.iconst 0, 1) := by decide +kernel
theorem dX12_stepWord_93 : decode cX12_stepWord 93 = .ok (.iconst 0, 1) := by decide +kernel
theorem dX12_stepWord_94 : decode cX12_stepWord 94 = .ok (.iconst 0, 1) := by decide +kernel
theorem dX12_stepWord_95 : decode cX12_stepWord 95 = .ok (.invokestatic 147, 3) := by decide +kernel
theorem dX12_stepWord_98 : decode cX12_stepWord 98 = .ok (.invokevirtual 151, 3) := by decide +kernel
theorem dX12_stepWord_101 : decode cX12_stepWord 101 = .ok (.ifCond .eq 5, 3) := by decide +kernel
theorem dX12_stepWord_104 : decode cX12_stepWord 104 = .ok (.iconst 4, 1) := by decide +kernel
theorem dX12_stepWord_105 : decode cX12_stepWord 105 = .ok (.ireturn, 1) := by decide +kernel
theorem dX12_stepWord_106 : decode cX12_stepWord 106 = .ok (.aload_n 0, 1) := by decide +kernel
theorem dX12_stepWord_107 : decode cX12_stepWord 107 = .ok (.bipush 119, 2) := by decide +kernel
theorem dX12_stepWord_109 : decode cX12_stepWord 109 = .ok (.bipush 104, 2) := by decide +kernel
theorem dX12_stepWord_111 : decode cX12_stepWord 111 = .ok (.bipush 101, 2) := by decide +kernel
theorem dX12_stepWord_113 : decode cX12_stepWord 113 = .ok (.bipush 110, 2) := by decide +kernel
theorem dX12_stepWord_115 : decode cX12_stepWord 115 = .ok (.iconst 0, 1) := by decide +kernel
theorem dX12_stepWord_116 : decode cX12_stepWord 116 = .ok (.iconst 0, 1) := by decide +kernel
theorem dX12_stepWord_117 : decode cX12_stepWord 117 = .ok (.invokestatic 147, 3) := by decide +kernel
theorem dX12_stepWord_120 : decode cX12_stepWord 120 = .ok (.invokevirtual 151, 3) := by decide +kernel
theorem dX12_stepWord_123 : decode cX12_stepWord 123 = .ok (.ifCond .eq 5, 3) := by decide +kernel
theorem dX12_stepWord_126 : decode cX12_stepWord 126 = .ok (.iconst 5, 1) := by decide +kernel
theorem dX12_stepWord_127 : decode cX12_stepWord 127 = .ok (.ireturn, 1) := by decide +kernel
theorem dX12_stepWord_128 : decode cX12_stepWord 128 = .ok (.aload_n 0, 1) := by decide +kernel
theorem dX12_stepWord_129 : decode cX12_stepWord 129 = .ok (.bipush 108, 2) := by decide +kernel
theorem dX12_stepWord_131 : decode cX12_stepWord 131 = .ok (.bipush 111, 2) := by decide +kernel
theorem dX12_stepWord_133 : decode cX12_stepWord 133 = .ok (.bipush 111, 2) := by decide +kernel
theorem dX12_stepWord_135 : decode cX12_stepWord 135 = .ok (.bipush 112, 2) := by decide +kernel
theorem dX12_stepWord_137 : decode cX12_stepWord 137 = .ok (.iconst 0, 1) := by decide +kernel
theorem dX12_stepWord_138 : decode cX12_stepWord 138 = .ok (.iconst 0, 1) := by decide +kernel
theorem dX12_stepWord_139 : decode cX12_stepWord 139 = .ok (.invokestatic 147, 3) := by decide +kernel
theorem dX12_stepWord_142 : decode cX12_stepWord 142 = .ok (.invokevirtual 151, 3) := by decide +kernel
theorem dX12_stepWord_145 : decode cX12_stepWord 145 = .ok (.ifCond .eq 6, 3) := by decide +kernel
theorem dX12_stepWord_148 : decode cX12_stepWord 148 = .ok (.bipush 6, 2) := by decide +kernel
theorem dX12_stepWord_150 : decode cX12_stepWord 150 = .ok (.ireturn, 1) := by decide +kernel
theorem dX12_stepWord_151 : decode cX12_stepWord 151 = .ok (.aload_n 0, 1) := by decide +kernel
theorem dX12_stepWord_152 : decode cX12_stepWord 152 = .ok (.bipush 115, 2) := by decide +kernel
theorem dX12_stepWord_154 : decode cX12_stepWord 154 = .ok (.bipush 116, 2) := by decide +kernel
theorem dX12_stepWord_156 : decode cX12_stepWord 156 = .ok (.bipush 111, 2) := by decide +kernel
theorem dX12_stepWord_158 : decode cX12_stepWord 158 = .ok (.bipush 112, 2) := by decide +kernel
theorem dX12_stepWord_160 : decode cX12_stepWord 160 = .ok (.iconst 0, 1) := by decide +kernel
theorem dX12_stepWord_161 : decode cX12_stepWord 161 = .ok (.iconst 0, 1) := by decide +kernel
theorem dX12_stepWord_162 : decode cX12_stepWord 162 = .ok (.invokestatic 147, 3) := by decide +kernel
theorem dX12_stepWord_165 : decode cX12_stepWord 165 = .ok (.invokevirtual 151, 3) := by decide +kernel
theorem dX12_stepWord_168 : decode cX12_stepWord 168 = .ok (.ifCond .eq 8, 3) := by decide +kernel
theorem dX12_stepWord_171 : decode cX12_stepWord 171 = .ok (.bipush 7, 2) := by decide +kernel
theorem dX12_stepWord_173 : decode cX12_stepWord 173 = .ok (.goto 4, 3) := by decide +kernel
theorem dX12_stepWord_176 : decode cX12_stepWord 176 = .ok (.iconst (-1), 1) := by decide +kernel
theorem dX12_stepWord_177 : decode cX12_stepWord 177 = .ok (.ireturn, 1) := by decide +kernel
theorem mw_X12_stepWord : MW yX12_stepWord cX12_stepWord 1 0 0 false := ⟨tm 1894 (by decide +kernel) rfl, tm 249 (by decide +kernel) rfl, by decide, by decide, (by rw [if_neg (by decide)]; exact ⟨tm 1893 (by decide +kernel) rfl, tm 154 (by decide +kernel) rfl⟩)⟩
def M_stepWord  (σ : Sg) : Rs := (bd (M_spelled 100 97 121 0 0 0 σ) (fun r1 s2 => (bd (M_isWord r1 s2) (fun r3 s4 => (if r3 = 0 then (bd (M_spelled 107 101 101 112 0 0 s4) (fun r5 s6 => (bd (M_isWord r5 s6) (fun r7 s8 => (if r7 = 0 then (bd (M_spelled 115 97 121 0 0 0 s8) (fun r9 s10 => (bd (M_isWord r9 s10) (fun r11 s12 => (if r11 = 0 then (bd (M_spelled 99 117 116 0 0 0 s12) (fun r13 s14 => (bd (M_isWord r13 s14) (fun r15 s16 => (if r15 = 0 then (bd (M_spelled 97 110 121 0 0 0 s16) (fun r17 s18 => (bd (M_isWord r17 s18) (fun r19 s20 => (if r19 = 0 then (bd (M_spelled 119 104 101 110 0 0 s20) (fun r21 s22 => (bd (M_isWord r21 s22) (fun r23 s24 => (if r23 = 0 then (bd (M_spelled 108 111 111 112 0 0 s24) (fun r25 s26 => (bd (M_isWord r25 s26) (fun r27 s28 => (if r27 = 0 then (bd (M_spelled 115 116 111 112 0 0 s28) (fun r29 s30 => (bd (M_isWord r29 s30) (fun r31 s32 => (if r31 = 0 then (some ((-1), s32)) else (some (7, s32))))))) else (some (6, s28))))))) else (some (5, s24))))))) else (some (4, s20))))))) else (some (3, s16))))))) else (some (2, s12))))))) else (some (1, s8))))))) else (some (0, s4)))))))
theorem ok_M_stepWord (σ : Sg) : MC l Km Pm yX12_stepWord cX12_stepWord 1 0 2 [.inr (.inr 0)] σ (M_stepWord σ) := by
  refine mc_of (by decide) (Nat.le_of_ble_eq_true rfl) ?_
  change G l Km Pm RX12 cX12_stepWord 1 0 2 0 [some (.inr (.inr 0))] [] σ (M_stepWord  σ)
  unfold M_stepWord
  refine g_aload_n dX12_stepWord_0 rfl rfl ?_
  refine g_bipush dX12_stepWord_1 (by decide) ?_
  refine g_bipush dX12_stepWord_3 (by decide) ?_
  refine g_bipush dX12_stepWord_5 (by decide) ?_
  refine g_iconst dX12_stepWord_7 (by decide) ?_
  refine g_iconst dX12_stepWord_8 (by decide) ?_
  refine g_iconst dX12_stepWord_9 (by decide) ?_
  refine g_calls1 (st := [.inr (.inr 0)]) mw_X12_spelled lk_RX12_147 (ok_M_spelled 100 97 121 0 0 0 σ) (Nat.le_of_ble_eq_true rfl) rfl rfl (Nat.le_of_ble_eq_true rfl) dX12_stepWord_10 ?_
  intro r1 s2
  refine g_callv3 (st := []) 10 mw_X12_isWord lk_RX12_151 rfl km_0 (ok_M_isWord r1 s2) (Nat.le_of_ble_eq_true rfl) rfl rfl (Nat.le_of_ble_eq_true rfl) dX12_stepWord_13 ?_
  intro r3 s4
  refine g_ifeq (tgt := 21) dX12_stepWord_16 (by decide) ?_ ?_
  · refine g_aload_n dX12_stepWord_21 rfl rfl ?_
    refine g_bipush dX12_stepWord_22 (by decide) ?_
    refine g_bipush dX12_stepWord_24 (by decide) ?_
    refine g_bipush dX12_stepWord_26 (by decide) ?_
    refine g_bipush dX12_stepWord_28 (by decide) ?_
    refine g_iconst dX12_stepWord_30 (by decide) ?_
    refine g_iconst dX12_stepWord_31 (by decide) ?_
    refine g_calls1 (st := [.inr (.inr 0)]) mw_X12_spelled lk_RX12_147 (ok_M_spelled 107 101 101 112 0 0 s4) (Nat.le_of_ble_eq_true rfl) rfl rfl (Nat.le_of_ble_eq_true rfl) dX12_stepWord_32 ?_
    intro r5 s6
    refine g_callv3 (st := []) 10 mw_X12_isWord lk_RX12_151 rfl km_0 (ok_M_isWord r5 s6) (Nat.le_of_ble_eq_true rfl) rfl rfl (Nat.le_of_ble_eq_true rfl) dX12_stepWord_35 ?_
    intro r7 s8
    refine g_ifeq (tgt := 43) dX12_stepWord_38 (by decide) ?_ ?_
    · refine g_aload_n dX12_stepWord_43 rfl rfl ?_
      refine g_bipush dX12_stepWord_44 (by decide) ?_
      refine g_bipush dX12_stepWord_46 (by decide) ?_
      refine g_bipush dX12_stepWord_48 (by decide) ?_
      refine g_iconst dX12_stepWord_50 (by decide) ?_
      refine g_iconst dX12_stepWord_51 (by decide) ?_
      refine g_iconst dX12_stepWord_52 (by decide) ?_
      refine g_calls1 (st := [.inr (.inr 0)]) mw_X12_spelled lk_RX12_147 (ok_M_spelled 115 97 121 0 0 0 s8) (Nat.le_of_ble_eq_true rfl) rfl rfl (Nat.le_of_ble_eq_true rfl) dX12_stepWord_53 ?_
      intro r9 s10
      refine g_callv3 (st := []) 10 mw_X12_isWord lk_RX12_151 rfl km_0 (ok_M_isWord r9 s10) (Nat.le_of_ble_eq_true rfl) rfl rfl (Nat.le_of_ble_eq_true rfl) dX12_stepWord_56 ?_
      intro r11 s12
      refine g_ifeq (tgt := 64) dX12_stepWord_59 (by decide) ?_ ?_
      · refine g_aload_n dX12_stepWord_64 rfl rfl ?_
        refine g_bipush dX12_stepWord_65 (by decide) ?_
        refine g_bipush dX12_stepWord_67 (by decide) ?_
        refine g_bipush dX12_stepWord_69 (by decide) ?_
        refine g_iconst dX12_stepWord_71 (by decide) ?_
        refine g_iconst dX12_stepWord_72 (by decide) ?_
        refine g_iconst dX12_stepWord_73 (by decide) ?_
        refine g_calls1 (st := [.inr (.inr 0)]) mw_X12_spelled lk_RX12_147 (ok_M_spelled 99 117 116 0 0 0 s12) (Nat.le_of_ble_eq_true rfl) rfl rfl (Nat.le_of_ble_eq_true rfl) dX12_stepWord_74 ?_
        intro r13 s14
        refine g_callv3 (st := []) 10 mw_X12_isWord lk_RX12_151 rfl km_0 (ok_M_isWord r13 s14) (Nat.le_of_ble_eq_true rfl) rfl rfl (Nat.le_of_ble_eq_true rfl) dX12_stepWord_77 ?_
        intro r15 s16
        refine g_ifeq (tgt := 85) dX12_stepWord_80 (by decide) ?_ ?_
        · refine g_aload_n dX12_stepWord_85 rfl rfl ?_
          refine g_bipush dX12_stepWord_86 (by decide) ?_
          refine g_bipush dX12_stepWord_88 (by decide) ?_
          refine g_bipush dX12_stepWord_90 (by decide) ?_
          refine g_iconst dX12_stepWord_92 (by decide) ?_
          refine g_iconst dX12_stepWord_93 (by decide) ?_
          refine g_iconst dX12_stepWord_94 (by decide) ?_
          refine g_calls1 (st := [.inr (.inr 0)]) mw_X12_spelled lk_RX12_147 (ok_M_spelled 97 110 121 0 0 0 s16) (Nat.le_of_ble_eq_true rfl) rfl rfl (Nat.le_of_ble_eq_true rfl) dX12_stepWord_95 ?_
          intro r17 s18
          refine g_callv3 (st := []) 10 mw_X12_isWord lk_RX12_151 rfl km_0 (ok_M_isWord r17 s18) (Nat.le_of_ble_eq_true rfl) rfl rfl (Nat.le_of_ble_eq_true rfl) dX12_stepWord_98 ?_
          intro r19 s20
          refine g_ifeq (tgt := 106) dX12_stepWord_101 (by decide) ?_ ?_
          · refine g_aload_n dX12_stepWord_106 rfl rfl ?_
            refine g_bipush dX12_stepWord_107 (by decide) ?_
            refine g_bipush dX12_stepWord_109 (by decide) ?_
            refine g_bipush dX12_stepWord_111 (by decide) ?_
            refine g_bipush dX12_stepWord_113 (by decide) ?_
            refine g_iconst dX12_stepWord_115 (by decide) ?_
            refine g_iconst dX12_stepWord_116 (by decide) ?_
            refine g_calls1 (st := [.inr (.inr 0)]) mw_X12_spelled lk_RX12_147 (ok_M_spelled 119 104 101 110 0 0 s20) (Nat.le_of_ble_eq_true rfl) rfl rfl (Nat.le_of_ble_eq_true rfl) dX12_stepWord_117 ?_
            intro r21 s22
            refine g_callv3 (st := []) 10 mw_X12_isWord lk_RX12_151 rfl km_0 (ok_M_isWord r21 s22) (Nat.le_of_ble_eq_true rfl) rfl rfl (Nat.le_of_ble_eq_true rfl) dX12_stepWord_120 ?_
            intro r23 s24
            refine g_ifeq (tgt := 128) dX12_stepWord_123 (by decide) ?_ ?_
            · refine g_aload_n dX12_stepWord_128 rfl rfl ?_
              refine g_bipush dX12_stepWord_129 (by decide) ?_
              refine g_bipush dX12_stepWord_131 (by decide) ?_
              refine g_bipush dX12_stepWord_133 (by decide) ?_
              refine g_bipush dX12_stepWord_135 (by decide) ?_
              refine g_iconst dX12_stepWord_137 (by decide) ?_
              refine g_iconst dX12_stepWord_138 (by decide) ?_
              refine g_calls1 (st := [.inr (.inr 0)]) mw_X12_spelled lk_RX12_147 (ok_M_spelled 108 111 111 112 0 0 s24) (Nat.le_of_ble_eq_true rfl) rfl rfl (Nat.le_of_ble_eq_true rfl) dX12_stepWord_139 ?_
              intro r25 s26
              refine g_callv3 (st := []) 10 mw_X12_isWord lk_RX12_151 rfl km_0 (ok_M_isWord r25 s26) (Nat.le_of_ble_eq_true rfl) rfl rfl (Nat.le_of_ble_eq_true rfl) dX12_stepWord_142 ?_
              intro r27 s28
              refine g_ifeq (tgt := 151) dX12_stepWord_145 (by decide) ?_ ?_
              · refine g_aload_n dX12_stepWord_151 rfl rfl ?_
                refine g_bipush dX12_stepWord_152 (by decide) ?_
                refine g_bipush dX12_stepWord_154 (by decide) ?_
                refine g_bipush dX12_stepWord_156 (by decide) ?_
                refine g_bipush dX12_stepWord_158 (by decide) ?_
                refine g_iconst dX12_stepWord_160 (by decide) ?_
                refine g_iconst dX12_stepWord_161 (by decide) ?_
                refine g_calls1 (st := [.inr (.inr 0)]) mw_X12_spelled lk_RX12_147 (ok_M_spelled 115 116 111 112 0 0 s28) (Nat.le_of_ble_eq_true rfl) rfl rfl (Nat.le_of_ble_eq_true rfl) dX12_stepWord_162 ?_
                intro r29 s30
                refine g_callv3 (st := []) 10 mw_X12_isWord lk_RX12_151 rfl km_0 (ok_M_isWord r29 s30) (Nat.le_of_ble_eq_true rfl) rfl rfl (Nat.le_of_ble_eq_true rfl) dX12_stepWord_165 ?_
                intro r31 s32
                refine g_ifeq (tgt := 176) dX12_stepWord_168 (by decide) ?_ ?_
                · refine g_iconst dX12_stepWord_176 (by decide) ?_
                  exact g_iret dX12_stepWord_177
                · refine g_bipush dX12_stepWord_171 (by decide) ?_
                  refine g_goto (tgt := 177) dX12_stepWord_173 (by decide) ?_
                  exact g_iret dX12_stepWord_177
              · refine g_bipush dX12_stepWord_148 (by decide) ?_
                exact g_iret dX12_stepWord_150
            · refine g_iconst dX12_stepWord_126 (by decide) ?_
              exact g_iret dX12_stepWord_127
          · refine g_iconst dX12_stepWord_104 (by decide) ?_
            exact g_iret dX12_stepWord_105
        · refine g_iconst dX12_stepWord_83 (by decide) ?_
          exact g_iret dX12_stepWord_84
      · refine g_iconst dX12_stepWord_62 (by decide) ?_
        exact g_iret dX12_stepWord_63
    · refine g_iconst dX12_stepWord_41 (by decide) ?_
      exact g_iret dX12_stepWord_42
  · refine g_iconst dX12_stepWord_19 (by decide) ?_
    exact g_iret dX12_stepWord_20
theorem dX12_testWord_0 : decode cX12_testWord 0 = .ok (.aload_n 0, 1) := by decide +kernel
theorem dX12_testWord_1 : decode cX12_testWord 1 = .ok (.bipush 107, 2) := by decide +kernel
theorem dX12_testWord_3 : decode cX12_testWord 3 = .ok (.bipush 110, 2) := by decide +kernel
theorem dX12_testWord_5 : decode cX12_testWord 5 = .ok (.bipush 111, 2) := by decide +kernel
theorem dX12_testWord_7 : decode cX12_testWord 7 = .ok (.bipush 119, 2) := by decide +kernel
theorem dX12_testWord_9 : decode cX12_testWord 9 = .ok (.bipush 115, 2) := by decide +kernel
theorem dX12_testWord_11 : decode cX12_testWord 11 = .ok (.iconst 0, 1) := by decide +kernel
theorem dX12_testWord_12 : decode cX12_testWord 12 = .ok (.invokestatic 147, 3) := by decide +kernel
theorem dX12_testWord_15 : decode cX12_testWord 15 = .ok (.invokevirtual 151, 3) := by decide +kernel
theorem dX12_testWord_18 : decode cX12_testWord 18 = .ok (.ifCond .eq 5, 3) := by decide +kernel
theorem dX12_testWord_21 : decode cX12_testWord 21 = .ok (.iconst 0, 1) := by decide +kernel
theorem dX12_testWord_22 : decode cX12_testWord 22 = .ok (.ireturn, 1) := by decide +kernel
theorem dX12_testWord_23 : decode cX12_testWord 23 = .ok (.aload_n 0, 1) := by decide +kernel
theorem dX12_testWord_24 : decode cX12_testWord 24 = .ok (.bipush 104, 2) := by decide +kernel
theorem dX12_testWord_26 : decode cX12_testWord 26 = .ok (.bipush 97, 2) := by decide +kernel
theorem dX12_testWord_28 : decode cX12_testWord 28 = .ok (.bipush 105, 2) := by decide +kernel
theorem dX12_testWord_30 : decode cX12_testWord 30 = .ok (.bipush 114, 2) := by decide +kernel
theorem dX12_testWord_32 : decode cX12_testWord 32 = .ok (.iconst 0, 1) := by decide +kernel
theorem dX12_testWord_33 : decode cX12_testWord 33 = .ok (.iconst 0, 1) := by decide +kernel
theorem dX12_testWord_34 : decode cX12_testWord 34 = .ok (.invokestatic 147, 3) := by decide +kernel
theorem dX12_testWord_37 : decode cX12_testWord 37 = .ok (.invokevirtual 151, 3) := by decide +kernel
theorem dX12_testWord_40 : decode cX12_testWord 40 = .ok (.ifCond .eq 7, 3) := by decide +kernel
theorem dX12_testWord_43 : decode cX12_testWord 43 = .ok (.iconst 1, 1) := by decide +kernel
theorem dX12_testWord_44 : decode cX12_testWord 44 = .ok (.goto 4, 3) := by decide +kernel
theorem dX12_testWord_47 : decode cX12_testWord 47 = .ok (.iconst (-1), 1) := by decide +kernel
theorem dX12_testWord_48 : decode cX12_testWord 48 = .ok (.ireturn, 1) := by decide +kernel
theorem mw_X12_testWord : MW yX12_testWord cX12_testWord 1 0 0 false := ⟨tm 1898 (by decide +kernel) rfl, tm 249 (by decide +kernel) rfl, by decide, by decide, (by rw [if_neg (by decide)]; exact ⟨tm 1897 (by decide +kernel) rfl, tm 155 (by decide +kernel) rfl⟩)⟩
def M_testWord  (σ : Sg) : Rs := (bd (M_spelled 107 110 111 119 115 0 σ) (fun r1 s2 => (bd (M_isWord r1 s2) (fun r3 s4 => (if r3 = 0 then (bd (M_spelled 104 97 105 114 0 0 s4) (fun r5 s6 => (bd (M_isWord r5 s6) (fun r7 s8 => (if r7 = 0 then (some ((-1), s8)) else (some (1, s8))))))) else (some (0, s4)))))))
theorem ok_M_testWord (σ : Sg) : MC l Km Pm yX12_testWord cX12_testWord 1 0 2 [.inr (.inr 0)] σ (M_testWord σ) := by
  refine mc_of (by decide) (Nat.le_of_ble_eq_true rfl) ?_
  change G l Km Pm RX12 cX12_testWord 1 0 2 0 [some (.inr (.inr 0))] [] σ (M_testWord  σ)
  unfold M_testWord
  refine g_aload_n dX12_testWord_0 rfl rfl ?_
  refine g_bipush dX12_testWord_1 (by decide) ?_
  refine g_bipush dX12_testWord_3 (by decide) ?_
  refine g_bipush dX12_testWord_5 (by decide) ?_
  refine g_bipush dX12_testWord_7 (by decide) ?_
  refine g_bipush dX12_testWord_9 (by decide) ?_
  refine g_iconst dX12_testWord_11 (by decide) ?_
  refine g_calls1 (st := [.inr (.inr 0)]) mw_X12_spelled lk_RX12_147 (ok_M_spelled 107 110 111 119 115 0 σ) (Nat.le_of_ble_eq_true rfl) rfl rfl (Nat.le_of_ble_eq_true rfl) dX12_testWord_12 ?_
  intro r1 s2
  refine g_callv3 (st := []) 10 mw_X12_isWord lk_RX12_151 rfl km_0 (ok_M_isWord r1 s2) (Nat.le_of_ble_eq_true rfl) rfl rfl (Nat.le_of_ble_eq_true rfl) dX12_testWord_15 ?_
  intro r3 s4
  refine g_ifeq (tgt := 23) dX12_testWord_18 (by decide) ?_ ?_
  · refine g_aload_n dX12_testWord_23 rfl rfl ?_
    refine g_bipush dX12_testWord_24 (by decide) ?_
    refine g_bipush dX12_testWord_26 (by decide) ?_
    refine g_bipush dX12_testWord_28 (by decide) ?_
    refine g_bipush dX12_testWord_30 (by decide) ?_
    refine g_iconst dX12_testWord_32 (by decide) ?_
    refine g_iconst dX12_testWord_33 (by decide) ?_
    refine g_calls1 (st := [.inr (.inr 0)]) mw_X12_spelled lk_RX12_147 (ok_M_spelled 104 97 105 114 0 0 s4) (Nat.le_of_ble_eq_true rfl) rfl rfl (Nat.le_of_ble_eq_true rfl) dX12_testWord_34 ?_
    intro r5 s6
    refine g_callv3 (st := []) 10 mw_X12_isWord lk_RX12_151 rfl km_0 (ok_M_isWord r5 s6) (Nat.le_of_ble_eq_true rfl) rfl rfl (Nat.le_of_ble_eq_true rfl) dX12_testWord_37 ?_
    intro r7 s8
    refine g_ifeq (tgt := 47) dX12_testWord_40 (by decide) ?_ ?_
    · refine g_iconst dX12_testWord_47 (by decide) ?_
      exact g_iret dX12_testWord_48
    · refine g_iconst dX12_testWord_43 (by decide) ?_
      refine g_goto (tgt := 48) dX12_testWord_44 (by decide) ?_
      exact g_iret dX12_testWord_48
  · refine g_iconst dX12_testWord_21 (by decide) ?_
    exact g_iret dX12_testWord_22
theorem dX12_isKept_0 : decode cX12_isKept 0 = .ok (.aload_n 0, 1) := by decide +kernel
theorem dX12_isKept_1 : decode cX12_isKept 1 = .ok (.invokevirtual 155, 3) := by decide +kernel
theorem dX12_isKept_4 : decode cX12_isKept 4 = .ok (.ifCond .ne 52, 3) := by decide +kernel
theorem dX12_isKept_7 : decode cX12_isKept 7 = .ok (.aload_n 0, 1) := by decide +kernel
theorem dX12_isKept_8 : decode cX12_isKept 8 = .ok (.invokevirtual 159, 3) := by decide +kernel
theorem dX12_isKept_11 : decode cX12_isKept 11 = .ok (.ifCond .ne 45, 3) := by decide +kernel
theorem dX12_isKept_14 : decode cX12_isKept 14 = .ok (.aload_n 0, 1) := by decide +kernel
theorem dX12_isKept_15 : decode cX12_isKept 15 = .ok (.invokevirtual 162, 3) := by decide +kernel
theorem dX12_isKept_18 : decode cX12_isKept 18 = .ok (.ifCond .ne 38, 3) := by decide +kernel
theorem dX12_isKept_21 : decode cX12_isKept 21 = .ok (.aload_n 0, 1) := by decide +kernel
theorem dX12_isKept_22 : decode cX12_isKept 22 = .ok (.invokevirtual 165, 3) := by decide +kernel
theorem dX12_isKept_25 : decode cX12_isKept 25 = .ok (.ifCond .ne 31, 3) := by decide +kernel
theorem dX12_isKept_28 : decode cX12_isKept 28 = .ok (.aload_n 0, 1) := by decide +kernel
theorem dX12_isKept_29 : decode cX12_isKept 29 = .ok (.invokevirtual 168, 3) := by decide +kernel
theorem dX12_isKept_32 : decode cX12_isKept 32 = .ok (.ifCond .ne 24, 3) := by decide +kernel
theorem dX12_isKept_35 : decode cX12_isKept 35 = .ok (.aload_n 0, 1) := by decide +kernel
theorem dX12_isKept_36 : decode cX12_isKept 36 = .ok (.invokevirtual 171, 3) := by decide +kernel
theorem dX12_isKept_39 : decode cX12_isKept 39 = .ok (.ifCond .ne 17, 3) := by decide +kernel
theorem dX12_isKept_42 : decode cX12_isKept 42 = .ok (.aload_n 0, 1) := by decide +kernel
theorem dX12_isKept_43 : decode cX12_isKept 43 = .ok (.invokevirtual 174, 3) := by decide +kernel
theorem dX12_isKept_46 : decode cX12_isKept 46 = .ok (.ifCond .ne 10, 3) := by decide +kernel
theorem dX12_isKept_49 : decode cX12_isKept 49 = .ok (.aload_n 0, 1) := by decide +kernel
theorem dX12_isKept_50 : decode cX12_isKept 50 = .ok (.invokevirtual 177, 3) := by decide +kernel
theorem dX12_isKept_53 : decode cX12_isKept 53 = .ok (.ifCond .eq 5, 3) := by decide +kernel
theorem dX12_isKept_56 : decode cX12_isKept 56 = .ok (.iconst 1, 1) := by decide +kernel
theorem dX12_isKept_57 : decode cX12_isKept 57 = .ok (.ireturn, 1) := by decide +kernel
theorem dX12_isKept_58 : decode cX12_isKept 58 = .ok (.aload_n 0, 1) := by decide +kernel
theorem dX12_isKept_59 : decode cX12_isKept 59 = .ok (.invokevirtual 180, 3) := by decide +kernel
theorem dX12_isKept_62 : decode cX12_isKept 62 = .ok (.ifCond .ne 38, 3) := by decide +kernel
theorem dX12_isKept_65 : decode cX12_isKept 65 = .ok (.aload_n 0, 1) := by decide +kernel
theorem dX12_isKept_66 : decode cX12_isKept 66 = .ok (.invokevirtual 183, 3) := by decide +kernel
theorem dX12_isKept_69 : decode cX12_isKept 69 = .ok (.ifCond .ne 31, 3) := by decide +kernel
theorem dX12_isKept_72 : decode cX12_isKept 72 = .ok (.aload_n 0, 1) := by decide +kernel
theorem dX12_isKept_73 : decode cX12_isKept 73 = .ok (.invokevirtual 186, 3) := by decide +kernel
theorem dX12_isKept_76 : decode cX12_isKept 76 = .ok (.ifCond .ne 24, 3) := by decide +kernel
theorem dX12_isKept_79 : decode cX12_isKept 79 = .ok (.aload_n 0, 1) := by decide +kernel
theorem dX12_isKept_80 : decode cX12_isKept 80 = .ok (.invokevirtual 189, 3) := by decide +kernel
theorem dX12_isKept_83 : decode cX12_isKept 83 = .ok (.ifCond .ne 17, 3) := by decide +kernel
theorem dX12_isKept_86 : decode cX12_isKept 86 = .ok (.aload_n 0, 1) := by decide +kernel
theorem dX12_isKept_87 : decode cX12_isKept 87 = .ok (.invokevirtual 192, 3) := by decide +kernel
theorem dX12_isKept_90 : decode cX12_isKept 90 = .ok (.ifCond .ne 10, 3) := by decide +kernel
theorem dX12_isKept_93 : decode cX12_isKept 93 = .ok (.aload_n 0, 1) := by decide +kernel
theorem dX12_isKept_94 : decode cX12_isKept 94 = .ok (.invokevirtual 195, 3) := by decide +kernel
theorem dX12_isKept_97 : decode cX12_isKept 97 = .ok (.ifCond .eq 5, 3) := by decide +kernel
theorem dX12_isKept_100 : decode cX12_isKept 100 = .ok (.iconst 1, 1) := by decide +kernel
theorem dX12_isKept_101 : decode cX12_isKept 101 = .ok (.ireturn, 1) := by decide +kernel
theorem dX12_isKept_102 : decode cX12_isKept 102 = .ok (.aload_n 0, 1) := by decide +kernel
theorem dX12_isKept_103 : decode cX12_isKept 103 = .ok (.invokevirtual 198, 3) := by decide +kernel
theorem dX12_isKept_106 : decode cX12_isKept 106 = .ok (.ifCond .ge 17, 3) := by decide +kernel
theorem dX12_isKept_109 : decode cX12_isKept 109 = .ok (.aload_n 0, 1) := by decide +kernel
theorem dX12_isKept_110 : decode cX12_isKept 110 = .ok (.invokevirtual 202, 3) := by decide +kernel
theorem dX12_isKept_113 : decode cX12_isKept 113 = .ok (.ifCond .ge 10, 3) := by decide +kernel
theorem dX12_isKept_116 : decode cX12_isKept 116 = .ok (.aload_n 0, 1) := by decide +kernel
theorem dX12_isKept_117 : decode cX12_isKept 117 = .ok (.invokevirtual 205, 3) := by decide +kernel
theorem dX12_isKept_120 : decode cX12_isKept 120 = .ok (.ifCond .eq 7, 3) := by decide +kernel
theorem dX12_isKept_123 : decode cX12_isKept 123 = .ok (.iconst 1, 1) := by decide +kernel
theorem dX12_isKept_124 : decode cX12_isKept 124 = .ok (.goto 4, 3) := by decide +kernel
theorem dX12_isKept_127 : decode cX12_isKept 127 = .ok (.iconst 0, 1) := by decide +kernel
theorem dX12_isKept_128 : decode cX12_isKept 128 = .ok (.ireturn, 1) := by decide +kernel
theorem mw_X12_isKept : MW yX12_isKept cX12_isKept 1 3 0 false := ⟨tm 1846 (by decide +kernel) rfl, tm 249 (by decide +kernel) rfl, by decide, by decide, (by rw [if_neg (by decide)]; exact ⟨tm 1845 (by decide +kernel) rfl, tm 142 (by decide +kernel) rfl⟩)⟩
theorem lk_RX12_155 : LK RX12 155 yX12_isHeard := Or.inl (tm 1790 (by decide +kernel) rfl)
theorem lk_RX12_159 : LK RX12 159 yX12_isOdds := Or.inl (tm 1823 (by decide +kernel) rfl)
theorem lk_RX12_162 : LK RX12 162 yX12_isWordWord := Or.inl (tm 1827 (by decide +kernel) rfl)
theorem lk_RX12_165 : LK RX12 165 yX12_isGrows := Or.inl (tm 1847 (by decide +kernel) rfl)
theorem lk_RX12_168 : LK RX12 168 yX12_isGrey := Or.inl (tm 1851 (by decide +kernel) rfl)
theorem lk_RX12_171 : LK RX12 171 yX12_isPerson := Or.inl (tm 1855 (by decide +kernel) rfl)
theorem lk_RX12_174 : LK RX12 174 yX12_isTemper := Or.inl (tm 1859 (by decide +kernel) rfl)
theorem lk_RX12_177 : LK RX12 177 yX12_isBarber := Or.inl (tm 1863 (by decide +kernel) rfl)
theorem lk_RX12_180 : LK RX12 180 yX12_isKeeps := Or.inl (tm 1867 (by decide +kernel) rfl)
theorem lk_RX12_183 : LK RX12 183 yX12_isDinner := Or.inl (tm 1871 (by decide +kernel) rfl)
theorem lk_RX12_186 : LK RX12 186 yX12_isEvery := Or.inl (tm 1875 (by decide +kernel) rfl)
theorem lk_RX12_189 : LK RX12 189 yX12_isHalves := Or.inl (tm 1879 (by decide +kernel) rfl)
theorem lk_RX12_192 : LK RX12 192 yX12_isTo := Or.inl (tm 1883 (by decide +kernel) rfl)
theorem lk_RX12_195 : LK RX12 195 yX12_isBy := Or.inl (tm 1887 (by decide +kernel) rfl)
theorem lk_RX12_198 : LK RX12 198 yX12_stepWord := Or.inl (tm 1891 (by decide +kernel) rfl)
theorem lk_RX12_202 : LK RX12 202 yX12_testWord := Or.inl (tm 1895 (by decide +kernel) rfl)
theorem lk_RX12_205 : LK RX12 205 yX12_isEnd := Or.inl (tm 1899 (by decide +kernel) rfl)
def M_isKept  (σ : Sg) : Rs := (bd (M_isHeard σ) (fun r1 s2 => (if r1 = 0 then (bd (M_isOdds s2) (fun r3 s4 => (if r3 = 0 then (bd (M_isWordWord s4) (fun r5 s6 => (if r5 = 0 then (bd (M_isGrows s6) (fun r7 s8 => (if r7 = 0 then (bd (M_isGrey s8) (fun r9 s10 => (if r9 = 0 then (bd (M_isPerson s10) (fun r11 s12 => (if r11 = 0 then (bd (M_isTemper s12) (fun r13 s14 => (if r13 = 0 then (bd (M_isBarber s14) (fun r15 s16 => (if r15 = 0 then (bd (M_isKeeps s16) (fun r17 s18 => (if r17 = 0 then (bd (M_isDinner s18) (fun r19 s20 => (if r19 = 0 then (bd (M_isEvery s20) (fun r21 s22 => (if r21 = 0 then (bd (M_isHalves s22) (fun r23 s24 => (if r23 = 0 then (bd (M_isTo s24) (fun r25 s26 => (if r25 = 0 then (bd (M_isBy s26) (fun r27 s28 => (if r27 = 0 then (bd (M_stepWord s28) (fun r29 s30 => (if r29 < 0 then (bd (M_testWord s30) (fun r31 s32 => (if r31 < 0 then (bd (M_isEnd s32) (fun r33 s34 => (if r33 = 0 then (some (0, s34)) else (some (1, s34))))) else (some (1, s32))))) else (some (1, s30))))) else (some (1, s28))))) else (some (1, s26))))) else (some (1, s24))))) else (some (1, s22))))) else (some (1, s20))))) else (some (1, s18))))) else (some (1, s16))))) else (some (1, s14))))) else (some (1, s12))))) else (some (1, s10))))) else (some (1, s8))))) else (some (1, s6))))) else (some (1, s4))))) else (some (1, s2)))))
theorem ok_M_isKept (σ : Sg) : MC l Km Pm yX12_isKept cX12_isKept 1 3 3 [.inr (.inr 0)] σ (M_isKept σ) := by
  refine mc_of (by decide) (Nat.le_of_ble_eq_true rfl) ?_
  change G l Km Pm RX12 cX12_isKept 1 3 3 0 [some (.inr (.inr 0))] [] σ (M_isKept  σ)
  unfold M_isKept
  refine g_aload_n dX12_isKept_0 rfl rfl ?_
  refine g_callv3 (st := []) 10 mw_X12_isHeard lk_RX12_155 rfl km_0 (ok_M_isHeard σ) (Nat.le_of_ble_eq_true rfl) rfl rfl (Nat.le_of_ble_eq_true rfl) dX12_isKept_1 ?_
  intro r1 s2
  refine g_ifne (tgt := 56) dX12_isKept_4 (by decide) ?_ ?_
  · refine g_aload_n dX12_isKept_7 rfl rfl ?_
    refine g_callv3 (st := []) 10 mw_X12_isOdds lk_RX12_159 rfl km_0 (ok_M_isOdds s2) (Nat.le_of_ble_eq_true rfl) rfl rfl (Nat.le_of_ble_eq_true rfl) dX12_isKept_8 ?_
    intro r3 s4
    refine g_ifne (tgt := 56) dX12_isKept_11 (by decide) ?_ ?_
    · refine g_aload_n dX12_isKept_14 rfl rfl ?_
      refine g_callv3 (st := []) 10 mw_X12_isWordWord lk_RX12_162 rfl km_0 (ok_M_isWordWord s4) (Nat.le_of_ble_eq_true rfl) rfl rfl (Nat.le_of_ble_eq_true rfl) dX12_isKept_15 ?_
      intro r5 s6
      refine g_ifne (tgt := 56) dX12_isKept_18 (by decide) ?_ ?_
      · refine g_aload_n dX12_isKept_21 rfl rfl ?_
        refine g_callv3 (st := []) 10 mw_X12_isGrows lk_RX12_165 rfl km_0 (ok_M_isGrows s6) (Nat.le_of_ble_eq_true rfl) rfl rfl (Nat.le_of_ble_eq_true rfl) dX12_isKept_22 ?_
        intro r7 s8
        refine g_ifne (tgt := 56) dX12_isKept_25 (by decide) ?_ ?_
        · refine g_aload_n dX12_isKept_28 rfl rfl ?_
          refine g_callv3 (st := []) 10 mw_X12_isGrey lk_RX12_168 rfl km_0 (ok_M_isGrey s8) (Nat.le_of_ble_eq_true rfl) rfl rfl (Nat.le_of_ble_eq_true rfl) dX12_isKept_29 ?_
          intro r9 s10
          refine g_ifne (tgt := 56) dX12_isKept_32 (by decide) ?_ ?_
          · refine g_aload_n dX12_isKept_35 rfl rfl ?_
            refine g_callv3 (st := []) 10 mw_X12_isPerson lk_RX12_171 rfl km_0 (ok_M_isPerson s10) (Nat.le_of_ble_eq_true rfl) rfl rfl (Nat.le_of_ble_eq_true rfl) dX12_isKept_36 ?_
            intro r11 s12
            refine g_ifne (tgt := 56) dX12_isKept_39 (by decide) ?_ ?_
            · refine g_aload_n dX12_isKept_42 rfl rfl ?_
              refine g_callv3 (st := []) 10 mw_X12_isTemper lk_RX12_174 rfl km_0 (ok_M_isTemper s12) (Nat.le_of_ble_eq_true rfl) rfl rfl (Nat.le_of_ble_eq_true rfl) dX12_isKept_43 ?_
              intro r13 s14
              refine g_ifne (tgt := 56) dX12_isKept_46 (by decide) ?_ ?_
              · refine g_aload_n dX12_isKept_49 rfl rfl ?_
                refine g_callv3 (st := []) 10 mw_X12_isBarber lk_RX12_177 rfl km_0 (ok_M_isBarber s14) (Nat.le_of_ble_eq_true rfl) rfl rfl (Nat.le_of_ble_eq_true rfl) dX12_isKept_50 ?_
                intro r15 s16
                refine g_ifeq (tgt := 58) dX12_isKept_53 (by decide) ?_ ?_
                · refine g_aload_n dX12_isKept_58 rfl rfl ?_
                  refine g_callv3 (st := []) 10 mw_X12_isKeeps lk_RX12_180 rfl km_0 (ok_M_isKeeps s16) (Nat.le_of_ble_eq_true rfl) rfl rfl (Nat.le_of_ble_eq_true rfl) dX12_isKept_59 ?_
                  intro r17 s18
                  refine g_ifne (tgt := 100) dX12_isKept_62 (by decide) ?_ ?_
                  · refine g_aload_n dX12_isKept_65 rfl rfl ?_
                    refine g_callv3 (st := []) 10 mw_X12_isDinner lk_RX12_183 rfl km_0 (ok_M_isDinner s18) (Nat.le_of_ble_eq_true rfl) rfl rfl (Nat.le_of_ble_eq_true rfl) dX12_isKept_66 ?_
                    intro r19 s20
                    refine g_ifne (tgt := 100) dX12_isKept_69 (by decide) ?_ ?_
                    · refine g_aload_n dX12_isKept_72 rfl rfl ?_
                      refine g_callv3 (st := []) 10 mw_X12_isEvery lk_RX12_186 rfl km_0 (ok_M_isEvery s20) (Nat.le_of_ble_eq_true rfl) rfl rfl (Nat.le_of_ble_eq_true rfl) dX12_isKept_73 ?_
                      intro r21 s22
                      refine g_ifne (tgt := 100) dX12_isKept_76 (by decide) ?_ ?_
                      · refine g_aload_n dX12_isKept_79 rfl rfl ?_
                        refine g_callv3 (st := []) 10 mw_X12_isHalves lk_RX12_189 rfl km_0 (ok_M_isHalves s22) (Nat.le_of_ble_eq_true rfl) rfl rfl (Nat.le_of_ble_eq_true rfl) dX12_isKept_80 ?_
                        intro r23 s24
                        refine g_ifne (tgt := 100) dX12_isKept_83 (by decide) ?_ ?_
                        · refine g_aload_n dX12_isKept_86 rfl rfl ?_
                          refine g_callv3 (st := []) 10 mw_X12_isTo lk_RX12_192 rfl km_0 (ok_M_isTo s24) (Nat.le_of_ble_eq_true rfl) rfl rfl (Nat.le_of_ble_eq_true rfl) dX12_isKept_87 ?_
                          intro r25 s26
                          refine g_ifne (tgt := 100) dX12_isKept_90 (by decide) ?_ ?_
                          · refine g_aload_n dX12_isKept_93 rfl rfl ?_
                            refine g_callv3 (st := []) 10 mw_X12_isBy lk_RX12_195 rfl km_0 (ok_M_isBy s26) (Nat.le_of_ble_eq_true rfl) rfl rfl (Nat.le_of_ble_eq_true rfl) dX12_isKept_94 ?_
                            intro r27 s28
                            refine g_ifeq (tgt := 102) dX12_isKept_97 (by decide) ?_ ?_
                            · refine g_aload_n dX12_isKept_102 rfl rfl ?_
                              refine g_callv0 (st := []) 10 mw_X12_stepWord lk_RX12_198 rfl km_0 (ok_M_stepWord s28) (Nat.le_of_ble_eq_true rfl) rfl rfl (Nat.le_of_ble_eq_true rfl) dX12_isKept_103 ?_
                              intro r29 s30
                              refine g_ifge (tgt := 123) dX12_isKept_106 (by decide) ?_ ?_
                              · refine g_aload_n dX12_isKept_109 rfl rfl ?_
                                refine g_callv0 (st := []) 10 mw_X12_testWord lk_RX12_202 rfl km_0 (ok_M_testWord s30) (Nat.le_of_ble_eq_true rfl) rfl rfl (Nat.le_of_ble_eq_true rfl) dX12_isKept_110 ?_
                                intro r31 s32
                                refine g_ifge (tgt := 123) dX12_isKept_113 (by decide) ?_ ?_
                                · refine g_aload_n dX12_isKept_116 rfl rfl ?_
                                  refine g_callv3 (st := []) 10 mw_X12_isEnd lk_RX12_205 rfl km_0 (ok_M_isEnd s32) (Nat.le_of_ble_eq_true rfl) rfl rfl (Nat.le_of_ble_eq_true rfl) dX12_isKept_117 ?_
                                  intro r33 s34
                                  refine g_ifeq (tgt := 127) dX12_isKept_120 (by decide) ?_ ?_
                                  · refine g_iconst dX12_isKept_127 (by decide) ?_
                                    exact g_zret0 dX12_isKept_128
                                  · refine g_iconst dX12_isKept_123 (by decide) ?_
                                    refine g_goto (tgt := 128) dX12_isKept_124 (by decide) ?_
                                    exact g_zret1 dX12_isKept_128
                                · refine g_iconst dX12_isKept_123 (by decide) ?_
                                  refine g_goto (tgt := 128) dX12_isKept_124 (by decide) ?_
                                  exact g_zret1 dX12_isKept_128
                              · refine g_iconst dX12_isKept_123 (by decide) ?_
                                refine g_goto (tgt := 128) dX12_isKept_124 (by decide) ?_
                                exact g_zret1 dX12_isKept_128
                            · refine g_iconst dX12_isKept_100 (by decide) ?_
                              exact g_zret1 dX12_isKept_101
                          · refine g_iconst dX12_isKept_100 (by decide) ?_
                            exact g_zret1 dX12_isKept_101
                        · refine g_iconst dX12_isKept_100 (by decide) ?_
                          exact g_zret1 dX12_isKept_101
                      · refine g_iconst dX12_isKept_100 (by decide) ?_
                        exact g_zret1 dX12_isKept_101
                    · refine g_iconst dX12_isKept_100 (by decide) ?_
                      exact g_zret1 dX12_isKept_101
                  · refine g_iconst dX12_isKept_100 (by decide) ?_
                    exact g_zret1 dX12_isKept_101
                · refine g_iconst dX12_isKept_56 (by decide) ?_
                  exact g_zret1 dX12_isKept_57
              · refine g_iconst dX12_isKept_56 (by decide) ?_
                exact g_zret1 dX12_isKept_57
            · refine g_iconst dX12_isKept_56 (by decide) ?_
              exact g_zret1 dX12_isKept_57
          · refine g_iconst dX12_isKept_56 (by decide) ?_
            exact g_zret1 dX12_isKept_57
        · refine g_iconst dX12_isKept_56 (by decide) ?_
          exact g_zret1 dX12_isKept_57
      · refine g_iconst dX12_isKept_56 (by decide) ?_
        exact g_zret1 dX12_isKept_57
    · refine g_iconst dX12_isKept_56 (by decide) ?_
      exact g_zret1 dX12_isKept_57
  · refine g_iconst dX12_isKept_56 (by decide) ?_
    exact g_zret1 dX12_isKept_57
theorem dX12_isName_0 : decode cX12_isName 0 = .ok (.aload_n 0, 1) := by decide +kernel
theorem dX12_isName_1 : decode cX12_isName 1 = .ok (.getfield 122, 3) := by decide +kernel
theorem dX12_isName_4 : decode cX12_isName 4 = .ok (.iconst 1, 1) := by decide +kernel
theorem dX12_isName_5 : decode cX12_isName 5 = .ok (.if_icmp .ne 23, 3) := by decide +kernel
theorem dX12_isName_8 : decode cX12_isName 8 = .ok (.aload_n 0, 1) := by decide +kernel
theorem dX12_isName_9 : decode cX12_isName 9 = .ok (.getfield 135, 3) := by decide +kernel
theorem dX12_isName_12 : decode cX12_isName 12 = .ok (.bipush 8, 2) := by decide +kernel
theorem dX12_isName_14 : decode cX12_isName 14 = .ok (.if_icmp .gt 14, 3) := by decide +kernel
theorem dX12_isName_17 : decode cX12_isName 17 = .ok (.aload_n 0, 1) := by decide +kernel
theorem dX12_isName_18 : decode cX12_isName 18 = .ok (.invokevirtual 208, 3) := by decide +kernel
theorem dX12_isName_21 : decode cX12_isName 21 = .ok (.ifCond .ne 7, 3) := by decide +kernel
theorem dX12_isName_24 : decode cX12_isName 24 = .ok (.iconst 1, 1) := by decide +kernel
theorem dX12_isName_25 : decode cX12_isName 25 = .ok (.goto 4, 3) := by decide +kernel
theorem dX12_isName_28 : decode cX12_isName 28 = .ok (.iconst 0, 1) := by decide +kernel
theorem dX12_isName_29 : decode cX12_isName 29 = .ok (.ireturn, 1) := by decide +kernel
theorem mw_X12_isName : MW yX12_isName cX12_isName 1 3 0 false := ⟨tm 1842 (by decide +kernel) rfl, tm 249 (by decide +kernel) rfl, by decide, by decide, (by rw [if_neg (by decide)]; exact ⟨tm 1841 (by decide +kernel) rfl, tm 141 (by decide +kernel) rfl⟩)⟩
theorem lk_RX12_208 : LK RX12 208 yX12_isKept := Or.inl (tm 1843 (by decide +kernel) rfl)
def M_isName  (σ : Sg) : Rs := (if (σ 0 14) = 1 then (if 8 < (σ 0 18) then (some (0, σ)) else (bd (M_isKept σ) (fun r1 s2 => (if r1 = 0 then (some (1, s2)) else (some (0, s2)))))) else (some (0, σ)))
theorem ok_M_isName (σ : Sg) : MC l Km Pm yX12_isName cX12_isName 1 3 4 [.inr (.inr 0)] σ (M_isName σ) := by
  refine mc_of (by decide) (Nat.le_of_ble_eq_true rfl) ?_
  change G l Km Pm RX12 cX12_isName 1 3 4 0 [some (.inr (.inr 0))] [] σ (M_isName  σ)
  unfold M_isName
  refine g_aload_n dX12_isName_0 rfl rfl ?_
  refine g_geti fl_RX12_122 km_0 (by decide) dX12_isName_1 ?_
  refine g_iconst dX12_isName_4 (by decide) ?_
  refine g_icmpne (tgt := 28) dX12_isName_5 (by decide) ?_ ?_
  · refine g_aload_n dX12_isName_8 rfl rfl ?_
    refine g_geti fl_RX12_135 km_0 (by decide) dX12_isName_9 ?_
    refine g_bipush dX12_isName_12 (by decide) ?_
    refine g_icmpgt (tgt := 28) dX12_isName_14 (by decide) ?_ ?_
    · refine g_iconst dX12_isName_28 (by decide) ?_
      exact g_zret0 dX12_isName_29
    · refine g_aload_n dX12_isName_17 rfl rfl ?_
      refine g_callv3 (st := []) 10 mw_X12_isKept lk_RX12_208 rfl km_0 (ok_M_isKept σ) (Nat.le_of_ble_eq_true rfl) rfl rfl (Nat.le_of_ble_eq_true rfl) dX12_isName_18 ?_
      intro r1 s2
      refine g_ifne (tgt := 28) dX12_isName_21 (by decide) ?_ ?_
      · refine g_iconst dX12_isName_24 (by decide) ?_
        refine g_goto (tgt := 29) dX12_isName_25 (by decide) ?_
        exact g_zret1 dX12_isName_29
      · refine g_iconst dX12_isName_28 (by decide) ?_
        exact g_zret0 dX12_isName_29
  · refine g_iconst dX12_isName_28 (by decide) ?_
    exact g_zret0 dX12_isName_29
theorem dX12_isNext_0 : decode cX12_isNext 0 = .ok (.iconst 0, 1) := by decide +kernel
theorem dX12_isNext_1 : decode cX12_isNext 1 = .ok (.istore 5, 2) := by decide +kernel
theorem dX12_isNext_3 : decode cX12_isNext 3 = .ok (.iload 5, 2) := by decide +kernel
theorem dX12_isNext_5 : decode cX12_isNext 5 = .ok (.iload 4, 2) := by decide +kernel
theorem dX12_isNext_7 : decode cX12_isNext 7 = .ok (.if_icmp .ge 45, 3) := by decide +kernel
theorem dX12_isNext_10 : decode cX12_isNext 10 = .ok (.aload_n 0, 1) := by decide +kernel
theorem dX12_isNext_11 : decode cX12_isNext 11 = .ok (.iload_n 3, 1) := by decide +kernel
theorem dX12_isNext_12 : decode cX12_isNext 12 = .ok (.iconst 2, 1) := by decide +kernel
theorem dX12_isNext_13 : decode cX12_isNext 13 = .ok (.iload 5, 2) := by decide +kernel
theorem dX12_isNext_15 : decode cX12_isNext 15 = .ok (.imul, 1) := by decide +kernel
theorem dX12_isNext_16 : decode cX12_isNext 16 = .ok (.iconst 1, 1) := by decide +kernel
theorem dX12_isNext_17 : decode cX12_isNext 17 = .ok (.iadd, 1) := by decide +kernel
theorem dX12_isNext_18 : decode cX12_isNext 18 = .ok (.invokevirtual 439, 3) := by decide +kernel
theorem dX12_isNext_21 : decode cX12_isNext 21 = .ok (.iload_n 1, 1) := by decide +kernel
theorem dX12_isNext_22 : decode cX12_isNext 22 = .ok (.i2l, 1) := by decide +kernel
theorem dX12_isNext_23 : decode cX12_isNext 23 = .ok (.lcmp, 1) := by decide +kernel
theorem dX12_isNext_24 : decode cX12_isNext 24 = .ok (.ifCond .ne 22, 3) := by decide +kernel
theorem dX12_isNext_27 : decode cX12_isNext 27 = .ok (.iload_n 2, 1) := by decide +kernel
theorem dX12_isNext_28 : decode cX12_isNext 28 = .ok (.aload_n 0, 1) := by decide +kernel
theorem dX12_isNext_29 : decode cX12_isNext 29 = .ok (.iload_n 3, 1) := by decide +kernel
theorem dX12_isNext_30 : decode cX12_isNext 30 = .ok (.iconst 2, 1) := by decide +kernel
theorem dX12_isNext_31 : decode cX12_isNext 31 = .ok (.iload 5, 2) := by decide +kernel
theorem dX12_isNext_33 : decode cX12_isNext 33 = .ok (.imul, 1) := by decide +kernel
theorem dX12_isNext_34 : decode cX12_isNext 34 = .ok (.invokevirtual 439, 3) := by decide +kernel
theorem dX12_isNext_37 : decode cX12_isNext 37 = .ok (.l2i, 1) := by decide +kernel
theorem dX12_isNext_38 : decode cX12_isNext 38 = .ok (.invokestatic 106, 3) := by decide +kernel
theorem dX12_isNext_41 : decode cX12_isNext 41 = .ok (.ifCond .eq 5, 3) := by decide +kernel
theorem dX12_isNext_44 : decode cX12_isNext 44 = .ok (.iconst 0, 1) := by decide +kernel
theorem dX12_isNext_45 : decode cX12_isNext 45 = .ok (.ireturn, 1) := by decide +kernel
theorem dX12_isNext_46 : decode cX12_isNext 46 = .ok (.iinc 5 1, 3) := by decide +kernel
theorem dX12_isNext_49 : decode cX12_isNext 49 = .ok (.goto (-46), 3) := by decide +kernel
theorem dX12_isNext_52 : decode cX12_isNext 52 = .ok (.iconst 1, 1) := by decide +kernel
theorem dX12_isNext_53 : decode cX12_isNext 53 = .ok (.ireturn, 1) := by decide +kernel
theorem mw_X12_isNext : MW yX12_isNext cX12_isNext 6 3 4 false := ⟨tm 2299 (by decide +kernel) rfl, tm 249 (by decide +kernel) rfl, by decide, by decide, (by rw [if_neg (by decide)]; exact ⟨tm 2298 (by decide +kernel) rfl, tm 216 (by decide +kernel) rfl⟩)⟩
def M_isNext_L3 (a1 : Int) (a2 : Int) (a3 : Int) (a4 : Int) : Nat → Int → Sg → Rs
  | 0, _, _ => none
  | n + 1, v5, σ => (if v5 < a4 then (bd (M_numberOf a3 (w32 ((w32 (2 * v5)) + 1)) σ) (fun r1 s2 => (if r1 = a1 then (bd (M_numberOf a3 (w32 (2 * v5)) s2) (fun r3 s4 => (bd (M_has a2 (w32 r3) s4) (fun r5 s6 => (if r5 = 0 then (nm (w32 (v5 + 1)) (fun x7 => (M_isNext_L3 a1 a2 a3 a4 n x7 s6))) else (some (0, s6))))))) else (nm (w32 (v5 + 1)) (fun x8 => (M_isNext_L3 a1 a2 a3 a4 n x8 s2)))))) else (some (1, σ)))
theorem ok_M_isNext_L3 (a1 : Int) (a2 : Int) (a3 : Int) (a4 : Int) : ∀ (n : Nat) (v5 : Int) (σ : Sg), G l Km Pm RX12 cX12_isNext 6 3 2 3 [some (.inr (.inr 0)), some (.inl a1), some (.inl a2), some (.inl a3), some (.inl a4), some (.inl v5)] [] σ (M_isNext_L3 a1 a2 a3 a4 n v5 σ) := by
  intro n
  induction n with
  | zero => intros; exact G.none_
  | succ n ih =>
    intro v5 σ
    rw [M_isNext_L3]
    refine g_iload dX12_isNext_3 rfl ?_
    refine g_iload dX12_isNext_5 rfl ?_
    refine g_icmpge (tgt := 52) dX12_isNext_7 (by decide) ?_ ?_
    · refine g_aload_n dX12_isNext_10 rfl rfl ?_
      refine g_iload_n dX12_isNext_11 rfl rfl ?_
      refine g_iconst dX12_isNext_12 (by decide) ?_
      refine g_iload dX12_isNext_13 rfl ?_
      refine g_imul dX12_isNext_15 ?_
      refine g_iconst dX12_isNext_16 (by decide) ?_
      refine g_iadd dX12_isNext_17 ?_
      refine g_callv1 (st := []) 10 mw_X12_numberOf lk_RX12_439 rfl km_0 (ok_M_numberOf a3 (w32 ((w32 (2 * v5)) + 1)) σ) (Nat.le_of_ble_eq_true rfl) rfl rfl (Nat.le_of_ble_eq_true rfl) dX12_isNext_18 ?_
      intro r1 s2
      refine g_iload_n dX12_isNext_21 rfl rfl ?_
      refine g_i2l dX12_isNext_22 ?_
      refine g_lcmpne (tgt := 46) dX12_isNext_23 dX12_isNext_24 (by decide) ?_ ?_
      · refine g_iload_n dX12_isNext_27 rfl rfl ?_
        refine g_aload_n dX12_isNext_28 rfl rfl ?_
        refine g_iload_n dX12_isNext_29 rfl rfl ?_
        refine g_iconst dX12_isNext_30 (by decide) ?_
        refine g_iload dX12_isNext_31 rfl ?_
        refine g_imul dX12_isNext_33 ?_
        refine g_callv1 (st := [.inl a2]) 10 mw_X12_numberOf lk_RX12_439 rfl km_0 (ok_M_numberOf a3 (w32 (2 * v5)) s2) (Nat.le_of_ble_eq_true rfl) rfl rfl (Nat.le_of_ble_eq_true rfl) dX12_isNext_34 ?_
        intro r3 s4
        refine g_l2i dX12_isNext_37 ?_
        refine g_calls3 (st := []) mw_X12_has lk_RX12_106 (ok_M_has a2 (w32 r3) s4) (Nat.le_of_ble_eq_true rfl) rfl rfl (Nat.le_of_ble_eq_true rfl) dX12_isNext_38 ?_
        intro r5 s6
        refine g_ifeq (tgt := 46) dX12_isNext_41 (by decide) ?_ ?_
        · refine n_iinc (fun x7 => [some (.inr (.inr 0)), some (.inl a1), some (.inl a2), some (.inl a3), some (.inl a4), some (.inl x7)]) dX12_isNext_46 rfl (Nat.le_of_ble_eq_true rfl) (fun _ => rfl) ?_
          intro x7
          refine g_goto (tgt := 3) dX12_isNext_49 (by decide) ?_
          exact (ih x7 s6)
        · refine g_iconst dX12_isNext_44 (by decide) ?_
          exact g_zret0 dX12_isNext_45
      · refine n_iinc (fun x8 => [some (.inr (.inr 0)), some (.inl a1), some (.inl a2), some (.inl a3), some (.inl a4), some (.inl x8)]) dX12_isNext_46 rfl (Nat.le_of_ble_eq_true rfl) (fun _ => rfl) ?_
        intro x8
        refine g_goto (tgt := 3) dX12_isNext_49 (by decide) ?_
        exact (ih x8 s2)
    · refine g_iconst dX12_isNext_52 (by decide) ?_
      exact g_zret1 dX12_isNext_53
def M_isNext (a1 : Int) (a2 : Int) (a3 : Int) (a4 : Int) (σ : Sg) : Rs := (M_isNext_L3 a1 a2 a3 a4 fu 0 σ)
theorem ok_M_isNext (a1 : Int) (a2 : Int) (a3 : Int) (a4 : Int) (σ : Sg) : MC l Km Pm yX12_isNext cX12_isNext 6 3 2 [.inr (.inr 0), .inl a1, .inl a2, .inl a3, .inl a4] σ (M_isNext a1 a2 a3 a4 σ) := by
  refine mc_of (by decide) (Nat.le_of_ble_eq_true rfl) ?_
  change G l Km Pm RX12 cX12_isNext 6 3 2 0 [some (.inr (.inr 0)), some (.inl a1), some (.inl a2), some (.inl a3), some (.inl a4), none] [] σ (M_isNext a1 a2 a3 a4 σ)
  unfold M_isNext
  refine g_iconst dX12_isNext_0 (by decide) ?_
  refine g_istore (lv' := [some (.inr (.inr 0)), some (.inl a1), some (.inl a2), some (.inl a3), some (.inl a4), some (.inl 0)]) dX12_isNext_1 (Nat.le_of_ble_eq_true rfl) rfl ?_
  refine (ok_M_isNext_L3 a1 a2 a3 a4 fu 0 σ)
theorem dX12_keptBy_0 : decode cX12_keptBy 0 = .ok (.iconst 0, 1) := by decide +kernel
theorem dX12_keptBy_1 : decode cX12_keptBy 1 = .ok (.istore_n 2, 1) := by decide +kernel
theorem dX12_keptBy_2 : decode cX12_keptBy 2 = .ok (.iconst 0, 1) := by decide +kernel
theorem dX12_keptBy_3 : decode cX12_keptBy 3 = .ok (.istore_n 3, 1) := by decide +kernel
theorem dX12_keptBy_4 : decode cX12_keptBy 4 = .ok (.iload_n 3, 1) := by decide +kernel
theorem dX12_keptBy_5 : decode cX12_keptBy 5 = .ok (.aload_n 0, 1) := by decide +kernel
theorem dX12_keptBy_6 : decode cX12_keptBy 6 = .ok (.getfield 35, 3) := by decide +kernel
theorem dX12_keptBy_9 : decode cX12_keptBy 9 = .ok (.iconst 1, 1) := by decide +kernel
theorem dX12_keptBy_10 : decode cX12_keptBy 10 = .ok (.iaload, 1) := by decide +kernel
theorem dX12_keptBy_11 : decode cX12_keptBy 11 = .ok (.if_icmp .ge 33, 3) := by decide +kernel
theorem dX12_keptBy_14 : decode cX12_keptBy 14 = .ok (.iload_n 2, 1) := by decide +kernel
theorem dX12_keptBy_15 : decode cX12_keptBy 15 = .ok (.iload_n 1, 1) := by decide +kernel
theorem dX12_keptBy_16 : decode cX12_keptBy 16 = .ok (.iload_n 3, 1) := by decide +kernel
theorem dX12_keptBy_17 : decode cX12_keptBy 17 = .ok (.invokestatic 106, 3) := by decide +kernel
theorem dX12_keptBy_20 : decode cX12_keptBy 20 = .ok (.ifCond .eq 15, 3) := by decide +kernel
theorem dX12_keptBy_23 : decode cX12_keptBy 23 = .ok (.aload_n 0, 1) := by decide +kernel
theorem dX12_keptBy_24 : decode cX12_keptBy 24 = .ok (.getfield 35, 3) := by decide +kernel
theorem dX12_keptBy_27 : decode cX12_keptBy 27 = .ok (.bipush 43, 2) := by decide +kernel
theorem dX12_keptBy_29 : decode cX12_keptBy 29 = .ok (.iload_n 3, 1) := by decide +kernel
theorem dX12_keptBy_30 : decode cX12_keptBy 30 = .ok (.iadd, 1) := by decide +kernel
theorem dX12_keptBy_31 : decode cX12_keptBy 31 = .ok (.iaload, 1) := by decide +kernel
theorem dX12_keptBy_32 : decode cX12_keptBy 32 = .ok (.goto 4, 3) := by decide +kernel
theorem dX12_keptBy_35 : decode cX12_keptBy 35 = .ok (.iconst 0, 1) := by decide +kernel
theorem dX12_keptBy_36 : decode cX12_keptBy 36 = .ok (.ior, 1) := by decide +kernel
theorem dX12_keptBy_37 : decode cX12_keptBy 37 = .ok (.istore_n 2, 1) := by decide +kernel
theorem dX12_keptBy_38 : decode cX12_keptBy 38 = .ok (.iinc 3 1, 3) := by decide +kernel
theorem dX12_keptBy_41 : decode cX12_keptBy 41 = .ok (.goto (-37), 3) := by decide +kernel
theorem dX12_keptBy_44 : decode cX12_keptBy 44 = .ok (.iload_n 2, 1) := by decide +kernel
theorem dX12_keptBy_45 : decode cX12_keptBy 45 = .ok (.ireturn, 1) := by decide +kernel
theorem mw_X12_keptBy : MW yX12_keptBy cX12_keptBy 4 0 1 false := ⟨tm 2279 (by decide +kernel) rfl, tm 249 (by decide +kernel) rfl, by decide, by decide, (by rw [if_neg (by decide)]; exact ⟨tm 2278 (by decide +kernel) rfl, tm 213 (by decide +kernel) rfl⟩)⟩
def M_keptBy_L4 (a1 : Int) : Nat → Int → Int → Sg → Rs
  | 0, _, _, _ => none
  | n + 1, v2, v3, σ => (rd 2235 1 (σ 5 (Int.toNat 1)) (fun x1 => (if v3 < x1 then (bd (M_has a1 v3 σ) (fun r2 s3 => (if r2 = 0 then (nm (or32 v2 0) (fun x4 => (nm (w32 (v3 + 1)) (fun x5 => (M_keptBy_L4 a1 n x4 x5 s3))))) else (rd 2235 (w32 (43 + v3)) (s3 5 (Int.toNat (w32 (43 + v3)))) (fun x6 => (nm (or32 v2 x6) (fun x7 => (nm (w32 (v3 + 1)) (fun x8 => (M_keptBy_L4 a1 n x7 x8 s3)))))))))) else (some (v2, σ)))))
theorem ok_M_keptBy_L4 (a1 : Int) : ∀ (n : Nat) (v2 v3 : Int) (σ : Sg), G l Km Pm RX12 cX12_keptBy 4 0 2 4 [some (.inr (.inr 0)), some (.inl a1), some (.inl v2), some (.inl v3)] [] σ (M_keptBy_L4 a1 n v2 v3 σ) := by
  intro n
  induction n with
  | zero => intros; exact G.none_
  | succ n ih =>
    intro v2 v3 σ
    rw [M_keptBy_L4]
    refine g_iload_n dX12_keptBy_4 rfl rfl ?_
    refine g_aload_n dX12_keptBy_5 rfl rfl ?_
    refine g_getr' (q := 5) fl_RX12_35 km_0 (by decide) rfl dX12_keptBy_6 ?_
    refine g_iconst dX12_keptBy_9 (by decide) ?_
    refine g_iald km_5 dX12_keptBy_10 ?_
    intro x1
    refine g_icmpge (tgt := 44) dX12_keptBy_11 (by decide) ?_ ?_
    · refine g_iload_n dX12_keptBy_14 rfl rfl ?_
      refine g_iload_n dX12_keptBy_15 rfl rfl ?_
      refine g_iload_n dX12_keptBy_16 rfl rfl ?_
      refine g_calls3 (st := [.inl v2]) mw_X12_has lk_RX12_106 (ok_M_has a1 v3 σ) (Nat.le_of_ble_eq_true rfl) rfl rfl (Nat.le_of_ble_eq_true rfl) dX12_keptBy_17 ?_
      intro r2 s3
      refine g_ifeq (tgt := 35) dX12_keptBy_20 (by decide) ?_ ?_
      · refine g_iconst dX12_keptBy_35 (by decide) ?_
        refine g_ior dX12_keptBy_36 ?_
        refine n_istore_n (fun x4 => [some (.inr (.inr 0)), some (.inl a1), some (.inl x4), some (.inl v3)]) dX12_keptBy_37 rfl (Nat.le_of_ble_eq_true rfl) (fun _ => rfl) ?_
        intro x4
        refine n_iinc (fun x5 => [some (.inr (.inr 0)), some (.inl a1), some (.inl x4), some (.inl x5)]) dX12_keptBy_38 rfl (Nat.le_of_ble_eq_true rfl) (fun _ => rfl) ?_
        intro x5
        refine g_goto (tgt := 4) dX12_keptBy_41 (by decide) ?_
        exact (ih x4 x5 s3)
      · refine g_aload_n dX12_keptBy_23 rfl rfl ?_
        refine g_getr' (q := 5) fl_RX12_35 km_0 (by decide) rfl dX12_keptBy_24 ?_
        refine g_bipush dX12_keptBy_27 (by decide) ?_
        refine g_iload_n dX12_keptBy_29 rfl rfl ?_
        refine g_iadd dX12_keptBy_30 ?_
        refine g_iald km_5 dX12_keptBy_31 ?_
        intro x6
        refine g_goto (tgt := 36) dX12_keptBy_32 (by decide) ?_
        refine g_ior dX12_keptBy_36 ?_
        refine n_istore_n (fun x7 => [some (.inr (.inr 0)), some (.inl a1), some (.inl x7), some (.inl v3)]) dX12_keptBy_37 rfl (Nat.le_of_ble_eq_true rfl) (fun _ => rfl) ?_
        intro x7
        refine n_iinc (fun x8 => [some (.inr (.inr 0)), some (.inl a1), some (.inl x7), some (.inl x8)]) dX12_keptBy_38 rfl (Nat.le_of_ble_eq_true rfl) (fun _ => rfl) ?_
        intro x8
        refine g_goto (tgt := 4) dX12_keptBy_41 (by decide) ?_
        exact (ih x7 x8 s3)
    · refine g_iload_n dX12_keptBy_44 rfl rfl ?_
      exact g_iret dX12_keptBy_45
def M_keptBy (a1 : Int) (σ : Sg) : Rs := (M_keptBy_L4 a1 fu 0 0 σ)
theorem ok_M_keptBy (a1 : Int) (σ : Sg) : MC l Km Pm yX12_keptBy cX12_keptBy 4 0 2 [.inr (.inr 0), .inl a1] σ (M_keptBy a1 σ) := by
  refine mc_of (by decide) (Nat.le_of_ble_eq_true rfl) ?_
  change G l Km Pm RX12 cX12_keptBy 4 0 2 0 [some (.inr (.inr 0)), some (.inl a1), none, none] [] σ (M_keptBy a1 σ)
  unfold M_keptBy
  refine g_iconst dX12_keptBy_0 (by decide) ?_
  refine g_istore_n (lv' := [some (.inr (.inr 0)), some (.inl a1), some (.inl 0), none]) dX12_keptBy_1 rfl (Nat.le_of_ble_eq_true rfl) rfl ?_
  refine g_iconst dX12_keptBy_2 (by decide) ?_
  refine g_istore_n (lv' := [some (.inr (.inr 0)), some (.inl a1), some (.inl 0), some (.inl 0)]) dX12_keptBy_3 rfl (Nat.le_of_ble_eq_true rfl) rfl ?_
  refine (ok_M_keptBy_L4 a1 fu 0 0 σ)
theorem dX12_isOne_0 : decode cX12_isOne 0 = .ok (.aload_n 0, 1) := by decide +kernel
theorem dX12_isOne_1 : decode cX12_isOne 1 = .ok (.iload_n 1, 1) := by decide +kernel
theorem dX12_isOne_2 : decode cX12_isOne 2 = .ok (.invokevirtual 469, 3) := by decide +kernel
theorem dX12_isOne_5 : decode cX12_isOne 5 = .ok (.istore_n 2, 1) := by decide +kernel
theorem dX12_isOne_6 : decode cX12_isOne 6 = .ok (.iconst 0, 1) := by decide +kernel
theorem dX12_isOne_7 : decode cX12_isOne 7 = .ok (.istore_n 3, 1) := by decide +kernel
theorem dX12_isOne_8 : decode cX12_isOne 8 = .ok (.iload_n 3, 1) := by decide +kernel
theorem dX12_isOne_9 : decode cX12_isOne 9 = .ok (.aload_n 0, 1) := by decide +kernel
theorem dX12_isOne_10 : decode cX12_isOne 10 = .ok (.getfield 35, 3) := by decide +kernel
theorem dX12_isOne_13 : decode cX12_isOne 13 = .ok (.iconst 3, 1) := by decide +kernel
theorem dX12_isOne_14 : decode cX12_isOne 14 = .ok (.iaload, 1) := by decide +kernel
theorem dX12_isOne_15 : decode cX12_isOne 15 = .ok (.if_icmp .ge 45, 3) := by decide +kernel
theorem dX12_isOne_18 : decode cX12_isOne 18 = .ok (.iload_n 2, 1) := by decide +kernel
theorem dX12_isOne_19 : decode cX12_isOne 19 = .ok (.aload_n 0, 1) := by decide +kernel
theorem dX12_isOne_20 : decode cX12_isOne 20 = .ok (.getfield 35, 3) := by decide +kernel
theorem dX12_isOne_23 : decode cX12_isOne 23 = .ok (.sipush 163, 3) := by decide +kernel
theorem dX12_isOne_26 : decode cX12_isOne 26 = .ok (.iload_n 3, 1) := by decide +kernel
theorem dX12_isOne_27 : decode cX12_isOne 27 = .ok (.iadd, 1) := by decide +kernel
theorem dX12_isOne_28 : decode cX12_isOne 28 = .ok (.iaload, 1) := by decide +kernel
theorem dX12_isOne_29 : decode cX12_isOne 29 = .ok (.invokestatic 106, 3) := by decide +kernel
theorem dX12_isOne_32 : decode cX12_isOne 32 = .ok (.ifCond .eq 22, 3) := by decide +kernel
theorem dX12_isOne_35 : decode cX12_isOne 35 = .ok (.iload_n 2, 1) := by decide +kernel
theorem dX12_isOne_36 : decode cX12_isOne 36 = .ok (.aload_n 0, 1) := by decide +kernel
theorem dX12_isOne_37 : decode cX12_isOne 37 = .ok (.getfield 35, 3) := by decide +kernel
theorem dX12_isOne_40 : decode cX12_isOne 40 = .ok (.sipush 169, 3) := by decide +kernel
theorem dX12_isOne_43 : decode cX12_isOne 43 = .ok (.iload_n 3, 1) := by decide +kernel
theorem dX12_isOne_44 : decode cX12_isOne 44 = .ok (.iadd, 1) := by decide +kernel
theorem dX12_isOne_45 : decode cX12_isOne 45 = .ok (.iaload, 1) := by decide +kernel
theorem dX12_isOne_46 : decode cX12_isOne 46 = .ok (.invokestatic 106, 3) := by decide +kernel
theorem dX12_isOne_49 : decode cX12_isOne 49 = .ok (.ifCond .eq 5, 3) := by decide +kernel
theorem dX12_isOne_52 : decode cX12_isOne 52 = .ok (.iconst 0, 1) := by decide +kernel
theorem dX12_isOne_53 : decode cX12_isOne 53 = .ok (.ireturn, 1) := by decide +kernel
theorem dX12_isOne_54 : decode cX12_isOne 54 = .ok (.iinc 3 1, 3) := by decide +kernel
theorem dX12_isOne_57 : decode cX12_isOne 57 = .ok (.goto (-49), 3) := by decide +kernel
theorem dX12_isOne_60 : decode cX12_isOne 60 = .ok (.iconst 1, 1) := by decide +kernel
theorem dX12_isOne_61 : decode cX12_isOne 61 = .ok (.ireturn, 1) := by decide +kernel
theorem mw_X12_isOne : MW yX12_isOne cX12_isOne 4 3 1 false := ⟨tm 2275 (by decide +kernel) rfl, tm 249 (by decide +kernel) rfl, by decide, by decide, (by rw [if_neg (by decide)]; exact ⟨tm 2274 (by decide +kernel) rfl, tm 212 (by decide +kernel) rfl⟩)⟩
theorem lk_RX12_469 : LK RX12 469 yX12_keptBy := Or.inl (tm 2276 (by decide +kernel) rfl)
def M_isOne_L8 (v2 : Int) : Nat → Int → Sg → Rs
  | 0, _, _ => none
  | n + 1, v3, σ => (rd 2235 3 (σ 5 (Int.toNat 3)) (fun x3 => (if v3 < x3 then (rd 2235 (w32 (163 + v3)) (σ 5 (Int.toNat (w32 (163 + v3)))) (fun x4 => (bd (M_has v2 x4 σ) (fun r5 s6 => (if r5 = 0 then (nm (w32 (v3 + 1)) (fun x7 => (M_isOne_L8 v2 n x7 s6))) else (rd 2235 (w32 (169 + v3)) (s6 5 (Int.toNat (w32 (169 + v3)))) (fun x8 => (bd (M_has v2 x8 s6) (fun r9 s10 => (if r9 = 0 then (nm (w32 (v3 + 1)) (fun x11 => (M_isOne_L8 v2 n x11 s10))) else (some (0, s10)))))))))))) else (some (1, σ)))))
theorem ok_M_isOne_L8 (v2 : Int) : ∀ (n : Nat) (v3 : Int) (σ : Sg), G l Km Pm RX12 cX12_isOne 4 3 3 8 [some (.inr (.inr 0)), none, some (.inl v2), some (.inl v3)] [] σ (M_isOne_L8 v2 n v3 σ) := by
  intro n
  induction n with
  | zero => intros; exact G.none_
  | succ n ih =>
    intro v3 σ
    rw [M_isOne_L8]
    refine g_iload_n dX12_isOne_8 rfl rfl ?_
    refine g_aload_n dX12_isOne_9 rfl rfl ?_
    refine g_getr' (q := 5) fl_RX12_35 km_0 (by decide) rfl dX12_isOne_10 ?_
    refine g_iconst dX12_isOne_13 (by decide) ?_
    refine g_iald km_5 dX12_isOne_14 ?_
    intro x3
    refine g_icmpge (tgt := 60) dX12_isOne_15 (by decide) ?_ ?_
    · refine g_iload_n dX12_isOne_18 rfl rfl ?_
      refine g_aload_n dX12_isOne_19 rfl rfl ?_
      refine g_getr' (q := 5) fl_RX12_35 km_0 (by decide) rfl dX12_isOne_20 ?_
      refine g_sipush dX12_isOne_23 (by decide) ?_
      refine g_iload_n dX12_isOne_26 rfl rfl ?_
      refine g_iadd dX12_isOne_27 ?_
      refine g_iald km_5 dX12_isOne_28 ?_
      intro x4
      refine g_calls3 (st := []) mw_X12_has lk_RX12_106 (ok_M_has v2 x4 σ) (Nat.le_of_ble_eq_true rfl) rfl rfl (Nat.le_of_ble_eq_true rfl) dX12_isOne_29 ?_
      intro r5 s6
      refine g_ifeq (tgt := 54) dX12_isOne_32 (by decide) ?_ ?_
      · refine n_iinc (fun x7 => [some (.inr (.inr 0)), none, some (.inl v2), some (.inl x7)]) dX12_isOne_54 rfl (Nat.le_of_ble_eq_true rfl) (fun _ => rfl) ?_
        intro x7
        refine g_goto (tgt := 8) dX12_isOne_57 (by decide) ?_
        exact (ih x7 s6)
      · refine g_iload_n dX12_isOne_35 rfl rfl ?_
        refine g_aload_n dX12_isOne_36 rfl rfl ?_
        refine g_getr' (q := 5) fl_RX12_35 km_0 (by decide) rfl dX12_isOne_37 ?_
        refine g_sipush dX12_isOne_40 (by decide) ?_
        refine g_iload_n dX12_isOne_43 rfl rfl ?_
        refine g_iadd dX12_isOne_44 ?_
        refine g_iald km_5 dX12_isOne_45 ?_
        intro x8
        refine g_calls3 (st := []) mw_X12_has lk_RX12_106 (ok_M_has v2 x8 s6) (Nat.le_of_ble_eq_true rfl) rfl rfl (Nat.le_of_ble_eq_true rfl) dX12_isOne_46 ?_
        intro r9 s10
        refine g_ifeq (tgt := 54) dX12_isOne_49 (by decide) ?_ ?_
        · refine n_iinc (fun x11 => [some (.inr (.inr 0)), none, some (.inl v2), some (.inl x11)]) dX12_isOne_54 rfl (Nat.le_of_ble_eq_true rfl) (fun _ => rfl) ?_
          intro x11
          refine g_goto (tgt := 8) dX12_isOne_57 (by decide) ?_
          exact (ih x11 s10)
        · refine g_iconst dX12_isOne_52 (by decide) ?_
          exact g_zret0 dX12_isOne_53
    · refine g_iconst dX12_isOne_60 (by decide) ?_
      exact g_zret1 dX12_isOne_61
def M_isOne (a1 : Int) (σ : Sg) : Rs := (bd (M_keptBy a1 σ) (fun r1 s2 => (M_isOne_L8 r1 fu 0 s2)))
theorem ok_M_isOne (a1 : Int) (σ : Sg) : MC l Km Pm yX12_isOne cX12_isOne 4 3 3 [.inr (.inr 0), .inl a1] σ (M_isOne a1 σ) := by
  refine mc_of (by decide) (Nat.le_of_ble_eq_true rfl) ?_
  change G l Km Pm RX12 cX12_isOne 4 3 3 0 [some (.inr (.inr 0)), some (.inl a1), none, none] [] σ (M_isOne a1 σ)
  unfold M_isOne
  refine g_aload_n dX12_isOne_0 rfl rfl ?_
  refine g_iload_n dX12_isOne_1 rfl rfl ?_
  refine g_callv0 (st := []) 10 mw_X12_keptBy lk_RX12_469 rfl km_0 (ok_M_keptBy a1 σ) (Nat.le_of_ble_eq_true rfl) rfl rfl (Nat.le_of_ble_eq_true rfl) dX12_isOne_2 ?_
  intro r1 s2
  refine g_istore_n (lv' := [some (.inr (.inr 0)), some (.inl a1), some (.inl r1), none]) dX12_isOne_5 rfl (Nat.le_of_ble_eq_true rfl) rfl ?_
  refine g_iconst dX12_isOne_6 (by decide) ?_
  refine g_istore_n (lv' := [some (.inr (.inr 0)), some (.inl a1), some (.inl r1), some (.inl 0)]) dX12_isOne_7 rfl (Nat.le_of_ble_eq_true rfl) rfl ?_
  refine (g_weak [true, false, true, true] (ok_M_isOne_L8 r1 fu 0 s2))
theorem dX12_isSign_0 : decode cX12_isSign 0 = .ok (.aload_n 0, 1) := by decide +kernel
theorem dX12_isSign_1 : decode cX12_isSign 1 = .ok (.getfield 122, 3) := by decide +kernel
theorem dX12_isSign_4 : decode cX12_isSign 4 = .ok (.iconst 3, 1) := by decide +kernel
theorem dX12_isSign_5 : decode cX12_isSign 5 = .ok (.if_icmp .ne 15, 3) := by decide +kernel
theorem dX12_isSign_8 : decode cX12_isSign 8 = .ok (.aload_n 0, 1) := by decide +kernel
theorem dX12_isSign_9 : decode cX12_isSign 9 = .ok (.getfield 141, 3) := by decide +kernel
theorem dX12_isSign_12 : decode cX12_isSign 12 = .ok (.iload_n 1, 1) := by decide +kernel
theorem dX12_isSign_13 : decode cX12_isSign 13 = .ok (.if_icmp .ne 7, 3) := by decide +kernel
theorem dX12_isSign_16 : decode cX12_isSign 16 = .ok (.iconst 1, 1) := by decide +kernel
theorem dX12_isSign_17 : decode cX12_isSign 17 = .ok (.goto 4, 3) := by decide +kernel
theorem dX12_isSign_20 : decode cX12_isSign 20 = .ok (.iconst 0, 1) := by decide +kernel
theorem dX12_isSign_21 : decode cX12_isSign 21 = .ok (.ireturn, 1) := by decide +kernel
theorem mw_X12_isSign : MW yX12_isSign cX12_isSign 2 3 1 false := ⟨tm 1951 (by decide +kernel) rfl, tm 249 (by decide +kernel) rfl, by decide, by decide, (by rw [if_neg (by decide)]; exact ⟨tm 1950 (by decide +kernel) rfl, tm 168 (by decide +kernel) rfl⟩)⟩
def M_isSign (a1 : Int) (σ : Sg) : Rs := (if (σ 0 14) = 3 then (if (σ 0 17) = a1 then (some (1, σ)) else (some (0, σ))) else (some (0, σ)))
theorem ok_M_isSign (a1 : Int) (σ : Sg) : MC l Km Pm yX12_isSign cX12_isSign 2 3 1 [.inr (.inr 0), .inl a1] σ (M_isSign a1 σ) := by
  refine mc_of (by decide) (Nat.le_of_ble_eq_true rfl) ?_
  change G l Km Pm RX12 cX12_isSign 2 3 1 0 [some (.inr (.inr 0)), some (.inl a1)] [] σ (M_isSign a1 σ)
  unfold M_isSign
  refine g_aload_n dX12_isSign_0 rfl rfl ?_
  refine g_geti fl_RX12_122 km_0 (by decide) dX12_isSign_1 ?_
  refine g_iconst dX12_isSign_4 (by decide) ?_
  refine g_icmpne (tgt := 20) dX12_isSign_5 (by decide) ?_ ?_
  · refine g_aload_n dX12_isSign_8 rfl rfl ?_
    refine g_geti fl_RX12_141 km_0 (by decide) dX12_isSign_9 ?_
    refine g_iload_n dX12_isSign_12 rfl rfl ?_
    refine g_icmpne (tgt := 20) dX12_isSign_13 (by decide) ?_ ?_
    · refine g_iconst dX12_isSign_16 (by decide) ?_
      refine g_goto (tgt := 21) dX12_isSign_17 (by decide) ?_
      exact g_zret1 dX12_isSign_21
    · refine g_iconst dX12_isSign_20 (by decide) ?_
      exact g_zret0 dX12_isSign_21
  · refine g_iconst dX12_isSign_20 (by decide) ?_
    exact g_zret0 dX12_isSign_21
theorem dX12_no_0 : decode cX12_no 0 = .ok (.aload_n 0, 1) := by decide +kernel
theorem dX12_no_1 : decode cX12_no 1 = .ok (.iload_n 1, 1) := by decide +kernel
theorem dX12_no_2 : decode cX12_no 2 = .ok (.putfield 70, 3) := by decide +kernel
theorem dX12_no_5 : decode cX12_no 5 = .ok (.iconst 0, 1) := by decide +kernel
theorem dX12_no_6 : decode cX12_no 6 = .ok (.ireturn, 1) := by decide +kernel
theorem mw_X12_no : MW yX12_no cX12_no 2 3 1 false := ⟨tm 1721 (by decide +kernel) rfl, tm 249 (by decide +kernel) rfl, by decide, by decide, (by rw [if_neg (by decide)]; exact ⟨tm 1720 (by decide +kernel) rfl, tm 122 (by decide +kernel) rfl⟩)⟩
def M_no (a1 : Int) (σ : Sg) : Rs := (nm (up_s σ 0 0 a1) (fun s1 => (some (0, s1))))
theorem ok_M_no (a1 : Int) (σ : Sg) : MC l Km Pm yX12_no cX12_no 2 3 1 [.inr (.inr 0), .inl a1] σ (M_no a1 σ) := by
  refine mc_of (by decide) (Nat.le_of_ble_eq_true rfl) ?_
  change G l Km Pm RX12 cX12_no 2 3 1 0 [some (.inr (.inr 0)), some (.inl a1)] [] σ (M_no a1 σ)
  unfold M_no
  refine g_aload_n dX12_no_0 rfl rfl ?_
  refine g_iload_n dX12_no_1 rfl rfl ?_
  refine g_puti fl_RX12_70 km_0 (by decide) dX12_no_2 ?_
  intro s1
  refine g_iconst dX12_no_5 (by decide) ?_
  exact g_zret0 dX12_no_6
end WK
