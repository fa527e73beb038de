section WK
variable {l : Launch}
theorem dX11_tell_0 : decode cX11_tell 0 = .ok (.lload_n 1, 1) := by decide +kernel
theorem dX11_tell_1 : decode cX11_tell 1 = .ok (.lstore 5, 2) := by decide +kernel
theorem dX11_tell_3 : decode cX11_tell 3 = .ok (.lload_n 3, 1) := by decide +kernel
theorem dX11_tell_4 : decode cX11_tell 4 = .ok (.lstore 7, 2) := by decide +kernel
theorem dX11_tell_6 : decode cX11_tell 6 = .ok (.iconst 0, 1) := by decide +kernel
theorem dX11_tell_7 : decode cX11_tell 7 = .ok (.istore 9, 2) := by decide +kernel
theorem dX11_tell_9 : decode cX11_tell 9 = .ok (.iload 9, 2) := by decide +kernel
theorem dX11_tell_11 : decode cX11_tell 11 = .ok (.bipush 100, 2) := by decide +kernel
theorem dX11_tell_13 : decode cX11_tell 13 = .ok (.if_icmp .ge 31, 3) := by decide +kernel
theorem dX11_tell_16 : decode cX11_tell 16 = .ok (.lload 7, 2) := by decide +kernel
theorem dX11_tell_18 : decode cX11_tell 18 = .ok (.lconst 0, 1) := by decide +kernel
theorem dX11_tell_19 : decode cX11_tell 19 = .ok (.lcmp, 1) := by decide +kernel
theorem dX11_tell_20 : decode cX11_tell 20 = .ok (.ifCond .eq 24, 3) := by decide +kernel
theorem dX11_tell_23 : decode cX11_tell 23 = .ok (.lload 5, 2) := by decide +kernel
theorem dX11_tell_25 : decode cX11_tell 25 = .ok (.lload 7, 2) := by decide +kernel
theorem dX11_tell_27 : decode cX11_tell 27 = .ok (.lrem, 1) := by decide +kernel
theorem dX11_tell_28 : decode cX11_tell 28 = .ok (.lstore 10, 2) := by decide +kernel
theorem dX11_tell_30 : decode cX11_tell 30 = .ok (.lload 7, 2) := by decide +kernel
theorem dX11_tell_32 : decode cX11_tell 32 = .ok (.lstore 5, 2) := by decide +kernel
theorem dX11_tell_34 : decode cX11_tell 34 = .ok (.lload 10, 2) := by decide +kernel
theorem dX11_tell_36 : decode cX11_tell 36 = .ok (.lstore 7, 2) := by decide +kernel
theorem dX11_tell_38 : decode cX11_tell 38 = .ok (.iinc 9 1, 3) := by decide +kernel
theorem dX11_tell_41 : decode cX11_tell 41 = .ok (.goto (-32), 3) := by decide +kernel
theorem dX11_tell_44 : decode cX11_tell 44 = .ok (.lload 5, 2) := by decide +kernel
theorem dX11_tell_46 : decode cX11_tell 46 = .ok (.lconst 0, 1) := by decide +kernel
theorem dX11_tell_47 : decode cX11_tell 47 = .ok (.lcmp, 1) := by decide +kernel
theorem dX11_tell_48 : decode cX11_tell 48 = .ok (.ifCond .le 8, 3) := by decide +kernel
theorem dX11_tell_51 : decode cX11_tell 51 = .ok (.lload 5, 2) := by decide +kernel
theorem dX11_tell_53 : decode cX11_tell 53 = .ok (.goto 4, 3) := by decide +kernel
theorem dX11_tell_56 : decode cX11_tell 56 = .ok (.lconst 1, 1) := by decide +kernel
theorem dX11_tell_57 : decode cX11_tell 57 = .ok (.lstore 9, 2) := by decide +kernel
theorem dX11_tell_59 : decode cX11_tell 59 = .ok (.aload_n 0, 1) := by decide +kernel
theorem dX11_tell_60 : decode cX11_tell 60 = .ok (.lload_n 1, 1) := by decide +kernel
theorem dX11_tell_61 : decode cX11_tell 61 = .ok (.lload 9, 2) := by decide +kernel
theorem dX11_tell_63 : decode cX11_tell 63 = .ok (.ldiv, 1) := by decide +kernel
theorem dX11_tell_64 : decode cX11_tell 64 = .ok (.putfield 13, 3) := by decide +kernel
theorem dX11_tell_67 : decode cX11_tell 67 = .ok (.aload_n 0, 1) := by decide +kernel
theorem dX11_tell_68 : decode cX11_tell 68 = .ok (.lload_n 3, 1) := by decide +kernel
theorem dX11_tell_69 : decode cX11_tell 69 = .ok (.lload 9, 2) := by decide +kernel
theorem dX11_tell_71 : decode cX11_tell 71 = .ok (.ldiv, 1) := by decide +kernel
theorem dX11_tell_72 : decode cX11_tell 72 = .ok (.putfield 17, 3) := by decide +kernel
theorem dX11_tell_75 : decode cX11_tell 75 = .ok (.return_, 1) := by decide +kernel
theorem mw_X11_tell : MW yX11_tell cX11_tell 12 2 2 false := ⟨tm 1477 (by decide +kernel) rfl, tm 235 (by decide +kernel) rfl, by decide, by decide, (by rw [if_neg (by decide)]; exact ⟨tm 1476 (by decide +kernel) rfl, tm 110 (by decide +kernel) rfl⟩)⟩
theorem fl_RX11_13 : FL RX11 13 9 1 := ⟨_, _, _, _, cw_9, by decide, Or.inr (Or.inl (by decide)), Or.inr (by decide), Or.inl (tm 623 (by decide +kernel) rfl)⟩
def H_tell_L9 (a1 : Int) (a3 : Int) (k44 : Int → Sg → Rs) : Nat → Int → Int → Int → Sg → Rs
  | 0, _, _, _, _ => none
  | n + 1, v5, v7, v9, σ => (if v9 < 100 then (if v7 = 0 then (k44 v5 σ) else (dv v7 (rm64 v5 v7) (fun x1 => (nm (w32 (v9 + 1)) (fun x2 => (H_tell_L9 a1 a3 k44 n v7 x1 x2 σ)))))) else (k44 v5 σ))
theorem ok_H_tell_L9 (a1 : Int) (a3 : Int) (k44 : Int → Sg → Rs) (hk44 : ∀ (y5 : Int) (σ : Sg), G l Kh Ph RX11 cX11_tell 12 2 1 44 [some (.inr (.inr 0)), some (.inr (.inl a1)), none, some (.inr (.inl a3)), none, some (.inr (.inl y5)), none, none, none, none, none, none] [] σ (k44 y5 σ)) : ∀ (n : Nat) (v5 v7 v9 : Int) (σ : Sg), G l Kh Ph RX11 cX11_tell 12 2 1 9 [some (.inr (.inr 0)), some (.inr (.inl a1)), none, some (.inr (.inl a3)), none, some (.inr (.inl v5)), none, some (.inr (.inl v7)), none, some (.inl v9), none, none] [] σ (H_tell_L9 a1 a3 k44 n v5 v7 v9 σ) := by
  intro n
  induction n with
  | zero => intros; exact G.none_
  | succ n ih =>
    intro v5 v7 v9 σ
    rw [H_tell_L9]
    refine g_iload dX11_tell_9 rfl ?_
    refine g_bipush dX11_tell_11 (by decide) ?_
    refine g_icmpge (tgt := 44) dX11_tell_13 (by decide) ?_ ?_
    · refine g_lload dX11_tell_16 rfl ?_
      refine g_lconst (v := 0) dX11_tell_18 (by decide) ?_
      refine g_lcmpeq (tgt := 44) dX11_tell_19 dX11_tell_20 (by decide) ?_ ?_
      · exact (g_weak [true, true, false, true, false, true, false, false, false, false, false, false] (hk44 v5 σ))
      · refine g_lload dX11_tell_23 rfl ?_
        refine g_lload dX11_tell_25 rfl ?_
        refine g_lrem dX11_tell_27 ?_
        intro x1
        refine g_lstore (lv' := [some (.inr (.inr 0)), some (.inr (.inl a1)), none, some (.inr (.inl a3)), none, some (.inr (.inl v5)), none, some (.inr (.inl v7)), none, some (.inl v9), some (.inr (.inl x1)), none]) dX11_tell_28 (Nat.le_of_ble_eq_true rfl) rfl ?_
        refine g_lload dX11_tell_30 rfl ?_
        refine g_lstore (lv' := [some (.inr (.inr 0)), some (.inr (.inl a1)), none, some (.inr (.inl a3)), none, some (.inr (.inl v7)), none, some (.inr (.inl v7)), none, some (.inl v9), some (.inr (.inl x1)), none]) dX11_tell_32 (Nat.le_of_ble_eq_true rfl) rfl ?_
        refine g_lload dX11_tell_34 rfl ?_
        refine g_lstore (lv' := [some (.inr (.inr 0)), some (.inr (.inl a1)), none, some (.inr (.inl a3)), none, some (.inr (.inl v7)), none, some (.inr (.inl x1)), none, some (.inl v9), some (.inr (.inl x1)), none]) dX11_tell_36 (Nat.le_of_ble_eq_true rfl) rfl ?_
        refine n_iinc (fun x2 => [some (.inr (.inr 0)), some (.inr (.inl a1)), none, some (.inr (.inl a3)), none, some (.inr (.inl v7)), none, some (.inr (.inl x1)), none, some (.inl x2), some (.inr (.inl x1)), none]) dX11_tell_38 rfl (Nat.le_of_ble_eq_true rfl) (fun _ => rfl) ?_
        intro x2
        refine g_goto (tgt := 9) dX11_tell_41 (by decide) ?_
        exact (g_weak [true, true, false, true, false, true, false, true, false, true, false, false] (ih v7 x1 x2 σ))
    · exact (g_weak [true, true, false, true, false, true, false, false, false, false, false, false] (hk44 v5 σ))
def H_tell_J44 (a1 : Int) (a3 : Int) (v5 : Int) (σ : Sg) : Rs := (if 0 < v5 then (dv v5 (dv64 a1 v5) (fun x5 => (nm (up_s σ 0 1 x5) (fun s6 => (dv v5 (dv64 a3 v5) (fun x7 => (nm (up_s s6 0 2 x7) (fun s8 => (some (0, s8)))))))))) else (dv 1 (dv64 a1 1) (fun x9 => (nm (up_s σ 0 1 x9) (fun s10 => (dv 1 (dv64 a3 1) (fun x11 => (nm (up_s s10 0 2 x11) (fun s12 => (some (0, s12)))))))))))
theorem ok_H_tell_J44 (a1 : Int) (a3 : Int) (v5 : Int) : ∀ (σ : Sg), G l Kh Ph RX11 cX11_tell 12 2 1 44 [some (.inr (.inr 0)), some (.inr (.inl a1)), none, some (.inr (.inl a3)), none, some (.inr (.inl v5)), none, none, none, none, none, none] [] σ (H_tell_J44 a1 a3 v5  σ) := by
  intro σ
  unfold H_tell_J44
  refine g_lload dX11_tell_44 rfl ?_
  refine g_lconst (v := 0) dX11_tell_46 (by decide) ?_
  refine g_lcmple (tgt := 56) dX11_tell_47 dX11_tell_48 (by decide) ?_ ?_
  · refine g_lload dX11_tell_51 rfl ?_
    refine g_goto (tgt := 57) dX11_tell_53 (by decide) ?_
    refine g_lstore (lv' := [some (.inr (.inr 0)), some (.inr (.inl a1)), none, some (.inr (.inl a3)), none, some (.inr (.inl v5)), none, none, none, some (.inr (.inl v5)), none, none]) dX11_tell_57 (Nat.le_of_ble_eq_true rfl) rfl ?_
    refine g_aload_n dX11_tell_59 rfl rfl ?_
    refine g_lload_n dX11_tell_60 rfl rfl ?_
    refine g_lload dX11_tell_61 rfl ?_
    refine g_ldiv dX11_tell_63 ?_
    intro x5
    refine g_putl fl_RX11_13 kh_0 (by decide) dX11_tell_64 ?_
    intro s6
    refine g_aload_n dX11_tell_67 rfl rfl ?_
    refine g_lload_n dX11_tell_68 rfl rfl ?_
    refine g_lload dX11_tell_69 rfl ?_
    refine g_ldiv dX11_tell_71 ?_
    intro x7
    refine g_putl fl_RX11_17 kh_0 (by decide) dX11_tell_72 ?_
    intro s8
    exact g_vret dX11_tell_75
  · refine g_lconst (v := 1) dX11_tell_56 (by decide) ?_
    refine g_lstore (lv' := [some (.inr (.inr 0)), some (.inr (.inl a1)), none, some (.inr (.inl a3)), none, some (.inr (.inl v5)), none, none, none, some (.inr (.inl 1)), none, none]) dX11_tell_57 (Nat.le_of_ble_eq_true rfl) rfl ?_
    refine g_aload_n dX11_tell_59 rfl rfl ?_
    refine g_lload_n dX11_tell_60 rfl rfl ?_
    refine g_lload dX11_tell_61 rfl ?_
    refine g_ldiv dX11_tell_63 ?_
    intro x9
    refine g_putl fl_RX11_13 kh_0 (by decide) dX11_tell_64 ?_
    intro s10
    refine g_aload_n dX11_tell_67 rfl rfl ?_
    refine g_lload_n dX11_tell_68 rfl rfl ?_
    refine g_lload dX11_tell_69 rfl ?_
    refine g_ldiv dX11_tell_71 ?_
    intro x11
    refine g_putl fl_RX11_17 kh_0 (by decide) dX11_tell_72 ?_
    intro s12
    exact g_vret dX11_tell_75
def H_tell (a1 : Int) (a3 : Int) (σ : Sg) : Rs := (H_tell_L9 a1 a3 (fun x3 s4 => (H_tell_J44 a1 a3 x3 s4)) fu a1 a3 0 σ)
theorem ok_H_tell (a1 : Int) (a3 : Int) (σ : Sg) : MC l Kh Ph yX11_tell cX11_tell 12 2 1 [.inr (.inr 0), .inr (.inl a1), .inr (.inl a3)] σ (H_tell a1 a3 σ) := by
  refine mc_of (by decide) (Nat.le_of_ble_eq_true rfl) ?_
  change G l Kh Ph RX11 cX11_tell 12 2 1 0 [some (.inr (.inr 0)), some (.inr (.inl a1)), none, some (.inr (.inl a3)), none, none, none, none, none, none, none, none] [] σ (H_tell a1 a3 σ)
  unfold H_tell
  refine g_lload_n dX11_tell_0 rfl rfl ?_
  refine g_lstore (lv' := [some (.inr (.inr 0)), some (.inr (.inl a1)), none, some (.inr (.inl a3)), none, some (.inr (.inl a1)), none, none, none, none, none, none]) dX11_tell_1 (Nat.le_of_ble_eq_true rfl) rfl ?_
  refine g_lload_n dX11_tell_3 rfl rfl ?_
  refine g_lstore (lv' := [some (.inr (.inr 0)), some (.inr (.inl a1)), none, some (.inr (.inl a3)), none, some (.inr (.inl a1)), none, some (.inr (.inl a3)), none, none, none, none]) dX11_tell_4 (Nat.le_of_ble_eq_true rfl) rfl ?_
  refine g_iconst dX11_tell_6 (by decide) ?_
  refine g_istore (lv' := [some (.inr (.inr 0)), some (.inr (.inl a1)), none, some (.inr (.inl a3)), none, some (.inr (.inl a1)), none, some (.inr (.inl a3)), none, some (.inl 0), none, none]) dX11_tell_7 (Nat.le_of_ble_eq_true rfl) rfl ?_
  refine (ok_H_tell_L9 a1 a3 _ ?_ fu a1 a3 0 σ)
  · intro x3 s4
    refine (ok_H_tell_J44 a1 a3 x3 s4)
theorem dX11_mean_0 : decode cX11_mean 0 = .ok (.iload_n 1, 1) := by decide +kernel
theorem dX11_mean_1 : decode cX11_mean 1 = .ok (.iconst 0, 1) := by decide +kernel
theorem dX11_mean_2 : decode cX11_mean 2 = .ok (.sipush 9999, 3) := by decide +kernel
theorem dX11_mean_5 : decode cX11_mean 5 = .ok (.invokestatic 135, 3) := by decide +kernel
theorem dX11_mean_8 : decode cX11_mean 8 = .ok (.ifCond .eq 24, 3) := by decide +kernel
theorem dX11_mean_11 : decode cX11_mean 11 = .ok (.iload_n 2, 1) := by decide +kernel
theorem dX11_mean_12 : decode cX11_mean 12 = .ok (.iconst 1, 1) := by decide +kernel
theorem dX11_mean_13 : decode cX11_mean 13 = .ok (.bipush 20, 2) := by decide +kernel
theorem dX11_mean_15 : decode cX11_mean 15 = .ok (.invokestatic 135, 3) := by decide +kernel
theorem dX11_mean_18 : decode cX11_mean 18 = .ok (.ifCond .eq 14, 3) := by decide +kernel
theorem dX11_mean_21 : decode cX11_mean 21 = .ok (.iload_n 1, 1) := by decide +kernel
theorem dX11_mean_22 : decode cX11_mean 22 = .ok (.iload_n 2, 1) := by decide +kernel
theorem dX11_mean_23 : decode cX11_mean 23 = .ok (.iadd, 1) := by decide +kernel
theorem dX11_mean_24 : decode cX11_mean 24 = .ok (.iconst 1, 1) := by decide +kernel
theorem dX11_mean_25 : decode cX11_mean 25 = .ok (.isub, 1) := by decide +kernel
theorem dX11_mean_26 : decode cX11_mean 26 = .ok (.sipush 9999, 3) := by decide +kernel
theorem dX11_mean_29 : decode cX11_mean 29 = .ok (.if_icmp .le 9, 3) := by decide +kernel
theorem dX11_mean_32 : decode cX11_mean 32 = .ok (.aload_n 0, 1) := by decide +kernel
theorem dX11_mean_33 : decode cX11_mean 33 = .ok (.iconst 5, 1) := by decide +kernel
theorem dX11_mean_34 : decode cX11_mean 34 = .ok (.invokevirtual 114, 3) := by decide +kernel
theorem dX11_mean_37 : decode cX11_mean 37 = .ok (.ireturn, 1) := by decide +kernel
theorem dX11_mean_38 : decode cX11_mean 38 = .ok (.aload_n 0, 1) := by decide +kernel
theorem dX11_mean_39 : decode cX11_mean 39 = .ok (.getfield 53, 3) := by decide +kernel
theorem dX11_mean_42 : decode cX11_mean 42 = .ok (.getfield 430, 3) := by decide +kernel
theorem dX11_mean_45 : decode cX11_mean 45 = .ok (.ifCond .ne 10, 3) := by decide +kernel
theorem dX11_mean_48 : decode cX11_mean 48 = .ok (.aload_n 0, 1) := by decide +kernel
theorem dX11_mean_49 : decode cX11_mean 49 = .ok (.bipush 8, 2) := by decide +kernel
theorem dX11_mean_51 : decode cX11_mean 51 = .ok (.invokevirtual 114, 3) := by decide +kernel
theorem dX11_mean_54 : decode cX11_mean 54 = .ok (.ireturn, 1) := by decide +kernel
theorem dX11_mean_55 : decode cX11_mean 55 = .ok (.lconst 0, 1) := by decide +kernel
theorem dX11_mean_56 : decode cX11_mean 56 = .ok (.lstore_n 3, 1) := by decide +kernel
theorem dX11_mean_57 : decode cX11_mean 57 = .ok (.iconst 0, 1) := by decide +kernel
theorem dX11_mean_58 : decode cX11_mean 58 = .ok (.istore 5, 2) := by decide +kernel
theorem dX11_mean_60 : decode cX11_mean 60 = .ok (.iload 5, 2) := by decide +kernel
theorem dX11_mean_62 : decode cX11_mean 62 = .ok (.iload_n 2, 1) := by decide +kernel
theorem dX11_mean_63 : decode cX11_mean 63 = .ok (.if_icmp .ge 50, 3) := by decide +kernel
theorem dX11_mean_66 : decode cX11_mean 66 = .ok (.aload_n 0, 1) := by decide +kernel
theorem dX11_mean_67 : decode cX11_mean 67 = .ok (.getfield 47, 3) := by decide +kernel
theorem dX11_mean_70 : decode cX11_mean 70 = .ok (.aload_n 0, 1) := by decide +kernel
theorem dX11_mean_71 : decode cX11_mean 71 = .ok (.getfield 43, 3) := by decide +kernel
theorem dX11_mean_74 : decode cX11_mean 74 = .ok (.invokevirtual 184, 3) := by decide +kernel
theorem dX11_mean_77 : decode cX11_mean 77 = .ok (.aload_n 0, 1) := by decide +kernel
theorem dX11_mean_78 : decode cX11_mean 78 = .ok (.getfield 71, 3) := by decide +kernel
theorem dX11_mean_81 : decode cX11_mean 81 = .ok (.aload_n 0, 1) := by decide +kernel
theorem dX11_mean_82 : decode cX11_mean 82 = .ok (.getfield 47, 3) := by decide +kernel
theorem dX11_mean_85 : decode cX11_mean 85 = .ok (.aload_n 0, 1) := by decide +kernel
theorem dX11_mean_86 : decode cX11_mean 86 = .ok (.getfield 53, 3) := by decide +kernel
theorem dX11_mean_89 : decode cX11_mean 89 = .ok (.iload_n 1, 1) := by decide +kernel
theorem dX11_mean_90 : decode cX11_mean 90 = .ok (.iload 5, 2) := by decide +kernel
theorem dX11_mean_92 : decode cX11_mean 92 = .ok (.iadd, 1) := by decide +kernel
theorem dX11_mean_93 : decode cX11_mean 93 = .ok (.invokevirtual 434, 3) := by decide +kernel
theorem dX11_mean_96 : decode cX11_mean 96 = .ok (.lload_n 3, 1) := by decide +kernel
theorem dX11_mean_97 : decode cX11_mean 97 = .ok (.aload_n 0, 1) := by decide +kernel
theorem dX11_mean_98 : decode cX11_mean 98 = .ok (.getfield 47, 3) := by decide +kernel
theorem dX11_mean_101 : decode cX11_mean 101 = .ok (.invokevirtual 244, 3) := by decide +kernel
theorem dX11_mean_104 : decode cX11_mean 104 = .ok (.i2l, 1) := by decide +kernel
theorem dX11_mean_105 : decode cX11_mean 105 = .ok (.ladd, 1) := by decide +kernel
theorem dX11_mean_106 : decode cX11_mean 106 = .ok (.lstore_n 3, 1) := by decide +kernel
theorem dX11_mean_107 : decode cX11_mean 107 = .ok (.iinc 5 1, 3) := by decide +kernel
theorem dX11_mean_110 : decode cX11_mean 110 = .ok (.goto (-50), 3) := by decide +kernel
theorem dX11_mean_113 : decode cX11_mean 113 = .ok (.aload_n 0, 1) := by decide +kernel
theorem dX11_mean_114 : decode cX11_mean 114 = .ok (.lload_n 3, 1) := by decide +kernel
theorem dX11_mean_115 : decode cX11_mean 115 = .ok (.iload_n 2, 1) := by decide +kernel
theorem dX11_mean_116 : decode cX11_mean 116 = .ok (.i2l, 1) := by decide +kernel
theorem dX11_mean_117 : decode cX11_mean 117 = .ok (.invokevirtual 422, 3) := by decide +kernel
theorem dX11_mean_120 : decode cX11_mean 120 = .ok (.aload_n 0, 1) := by decide +kernel
theorem dX11_mean_121 : decode cX11_mean 121 = .ok (.invokevirtual 121, 3) := by decide +kernel
theorem dX11_mean_124 : decode cX11_mean 124 = .ok (.ireturn, 1) := by decide +kernel
theorem mw_X11_mean : MW yX11_mean cX11_mean 6 3 2 false := ⟨tm 1549 (by decide +kernel) rfl, tm 235 (by decide +kernel) rfl, by decide, by decide, (by rw [if_neg (by decide)]; exact ⟨tm 1547 (by decide +kernel) rfl, tm 1548 (by decide +kernel) rfl⟩)⟩
theorem lk_RX11_114 : LK RX11 114 yX11_refuse := Or.inl (tm 707 (by decide +kernel) rfl)
theorem lk_RX11_121 : LK RX11 121 yX11_agree := Or.inl (tm 716 (by decide +kernel) rfl)
theorem lk_RX11_422 : LK RX11 422 yX11_tell := Or.inl (tm 1474 (by decide +kernel) rfl)
def H_mean_L60 (a1 : Int) (a2 : Int) (k113 : Int → Sg → Rs) : Nat → Int → Int → Sg → Rs
  | 0, _, _, _ => none
  | n + 1, v3, v5, σ => (if v5 < a2 then (bd (Pr_copyFrom 19 8 σ) (fun r13 s14 => (bd (Li_run 19 30 (w32 (a1 + v5)) s14) (fun r15 s16 => (bd (Pr_allHair 19 s16) (fun r17 s18 => (nm (w64 (v3 + r17)) (fun x19 => (nm (w32 (v5 + 1)) (fun x20 => (H_mean_L60 a1 a2 k113 n x19 x20 s18))))))))))) else (k113 v3 σ))
theorem ok_H_mean_L60 (a1 : Int) (a2 : Int) (k113 : Int → Sg → Rs) (hk113 : ∀ (y3 : Int) (σ : Sg), G l Kh Ph RX11 cX11_mean 6 3 7 113 [some (.inr (.inr 0)), none, some (.inl a2), some (.inr (.inl y3)), none, none] [] σ (k113 y3 σ)) : ∀ (n : Nat) (v3 v5 : Int) (σ : Sg), G l Kh Ph RX11 cX11_mean 6 3 7 60 [some (.inr (.inr 0)), some (.inl a1), some (.inl a2), some (.inr (.inl v3)), none, some (.inl v5)] [] σ (H_mean_L60 a1 a2 k113 n v3 v5 σ) := by
  intro n
  induction n with
  | zero => intros; exact G.none_
  | succ n ih =>
    intro v3 v5 σ
    rw [H_mean_L60]
    refine g_iload dX11_mean_60 rfl ?_
    refine g_iload_n dX11_mean_62 rfl rfl ?_
    refine g_icmpge (tgt := 113) dX11_mean_63 (by decide) ?_ ?_
    · refine g_aload_n dX11_mean_66 rfl rfl ?_
      refine g_getr' (q := 19) fl_RX11_47 kh_0 (by decide) rfl dX11_mean_67 ?_
      refine g_aload_n dX11_mean_70 rfl rfl ?_
      refine g_getr' (q := 8) fl_RX11_43 kh_0 (by decide) rfl dX11_mean_71 ?_
      refine g_callv2 (st := []) 4 mw_X4_copyFrom lk_RX11_184 rfl kh_19 (ok_Pr_copyFrom 19 8 kh_19 kh_8 σ) (Nat.le_of_ble_eq_true rfl) rfl rfl (Nat.le_of_ble_eq_true rfl) dX11_mean_74 ?_
      intro r13 s14
      refine g_aload_n dX11_mean_77 rfl rfl ?_
      refine g_getr' (q := 95) fl_RX11_71 kh_0 (by decide) rfl dX11_mean_78 ?_
      refine g_aload_n dX11_mean_81 rfl rfl ?_
      refine g_getr' (q := 19) fl_RX11_47 kh_0 (by decide) rfl dX11_mean_82 ?_
      refine g_aload_n dX11_mean_85 rfl rfl ?_
      refine g_getr' (q := 30) fl_RX11_53 kh_0 (by decide) rfl dX11_mean_86 ?_
      refine g_iload_n dX11_mean_89 rfl rfl ?_
      refine g_iload dX11_mean_90 rfl ?_
      refine g_iadd dX11_mean_92 ?_
      refine g_callv2 (st := []) 2 mw_X2_run lk_RX11_434 rfl kh_95 (ok_Li_run 19 30 (w32 (a1 + v5)) kh_19 kh_30 s14) (Nat.le_of_ble_eq_true rfl) rfl rfl (Nat.le_of_ble_eq_true rfl) dX11_mean_93 ?_
      intro r15 s16
      refine g_lload_n dX11_mean_96 rfl rfl ?_
      refine g_aload_n dX11_mean_97 rfl rfl ?_
      refine g_getr' (q := 19) fl_RX11_47 kh_0 (by decide) rfl dX11_mean_98 ?_
      refine g_callv0 (st := [.inr (.inl v3)]) 4 mw_X4_allHair lk_RX11_244 rfl kh_19 (ok_Pr_allHair 19 kh_19 s16) (Nat.le_of_ble_eq_true rfl) rfl rfl (Nat.le_of_ble_eq_true rfl) dX11_mean_101 ?_
      intro r17 s18
      refine g_i2l dX11_mean_104 ?_
      refine g_ladd dX11_mean_105 ?_
      refine n_lstore_n (fun x19 => [some (.inr (.inr 0)), some (.inl a1), some (.inl a2), some (.inr (.inl x19)), none, some (.inl v5)]) dX11_mean_106 rfl (Nat.le_of_ble_eq_true rfl) (fun _ => rfl) ?_
      intro x19
      refine n_iinc (fun x20 => [some (.inr (.inr 0)), some (.inl a1), some (.inl a2), some (.inr (.inl x19)), none, some (.inl x20)]) dX11_mean_107 rfl (Nat.le_of_ble_eq_true rfl) (fun _ => rfl) ?_
      intro x20
      refine g_goto (tgt := 60) dX11_mean_110 (by decide) ?_
      exact (ih x19 x20 s18)
    · exact (g_weak [true, false, true, true, false, false] (hk113 v3 σ))
def H_mean_J113 (a2 : Int) (v3 : Int) (σ : Sg) : Rs := (bd (H_tell v3 a2 σ) (fun r23 s24 => (bd (H_agree s24) (fun r25 s26 => (zb r25 (some (r25, s26)))))))
theorem ok_H_mean_J113 (a2 : Int) (v3 : Int) : ∀ (σ : Sg), G l Kh Ph RX11 cX11_mean 6 3 7 113 [some (.inr (.inr 0)), none, some (.inl a2), some (.inr (.inl v3)), none, none] [] σ (H_mean_J113 a2 v3  σ) := by
  intro σ
  unfold H_mean_J113
  refine g_aload_n dX11_mean_113 rfl rfl ?_
  refine g_lload_n dX11_mean_114 rfl rfl ?_
  refine g_iload_n dX11_mean_115 rfl rfl ?_
  refine g_i2l dX11_mean_116 ?_
  refine g_callv2 (st := []) 9 mw_X11_tell lk_RX11_422 rfl kh_0 (ok_H_tell v3 a2 σ) (Nat.le_of_ble_eq_true rfl) rfl rfl (Nat.le_of_ble_eq_true rfl) dX11_mean_117 ?_
  intro r23 s24
  refine g_aload_n dX11_mean_120 rfl rfl ?_
  refine g_callv3 (st := []) 9 mw_X11_agree lk_RX11_121 rfl kh_0 (ok_H_agree s24) (Nat.le_of_ble_eq_true rfl) rfl rfl (Nat.le_of_ble_eq_true rfl) dX11_mean_121 ?_
  intro r25 s26
  exact g_zret dX11_mean_124
def H_mean (a1 : Int) (a2 : Int) (σ : Sg) : Rs := (bd (H_within a1 0 9999 σ) (fun r1 s2 => (if r1 = 0 then (bd (H_refuse 5 s2) (fun r3 s4 => (zb r3 (some (r3, s4))))) else (bd (H_within a2 1 20 s2) (fun r5 s6 => (if r5 = 0 then (bd (H_refuse 5 s6) (fun r7 s8 => (zb r7 (some (r7, s8))))) else (if 9999 < (w32 ((w32 (a1 + a2)) - 1)) then (bd (H_refuse 5 s6) (fun r9 s10 => (zb r9 (some (r9, s10))))) else (if (s6 30 7) = 0 then (bd (H_refuse 8 s6) (fun r11 s12 => (zb r11 (some (r11, s12))))) else (H_mean_L60 a1 a2 (fun x21 s22 => (H_mean_J113 a2 x21 s22)) fu 0 0 s6)))))))))
theorem ok_H_mean (a1 : Int) (a2 : Int) (σ : Sg) : MC l Kh Ph yX11_mean cX11_mean 6 3 7 [.inr (.inr 0), .inl a1, .inl a2] σ (H_mean a1 a2 σ) := by
  refine mc_of (by decide) (Nat.le_of_ble_eq_true rfl) ?_
  change G l Kh Ph RX11 cX11_mean 6 3 7 0 [some (.inr (.inr 0)), some (.inl a1), some (.inl a2), none, none, none] [] σ (H_mean a1 a2 σ)
  unfold H_mean
  refine g_iload_n dX11_mean_0 rfl rfl ?_
  refine g_iconst dX11_mean_1 (by decide) ?_
  refine g_sipush dX11_mean_2 (by decide) ?_
  refine g_calls3 (st := []) mw_X11_within lk_RX11_135 (ok_H_within a1 0 9999 σ) (Nat.le_of_ble_eq_true rfl) rfl rfl (Nat.le_of_ble_eq_true rfl) dX11_mean_5 ?_
  intro r1 s2
  refine g_ifeq (tgt := 32) dX11_mean_8 (by decide) ?_ ?_
  · refine g_aload_n dX11_mean_32 rfl rfl ?_
    refine g_iconst dX11_mean_33 (by decide) ?_
    refine g_callv3 (st := []) 9 mw_X11_refuse lk_RX11_114 rfl kh_0 (ok_H_refuse 5 s2) (Nat.le_of_ble_eq_true rfl) rfl rfl (Nat.le_of_ble_eq_true rfl) dX11_mean_34 ?_
    intro r3 s4
    exact g_zret dX11_mean_37
  · refine g_iload_n dX11_mean_11 rfl rfl ?_
    refine g_iconst dX11_mean_12 (by decide) ?_
    refine g_bipush dX11_mean_13 (by decide) ?_
    refine g_calls3 (st := []) mw_X11_within lk_RX11_135 (ok_H_within a2 1 20 s2) (Nat.le_of_ble_eq_true rfl) rfl rfl (Nat.le_of_ble_eq_true rfl) dX11_mean_15 ?_
    intro r5 s6
    refine g_ifeq (tgt := 32) dX11_mean_18 (by decide) ?_ ?_
    · refine g_aload_n dX11_mean_32 rfl rfl ?_
      refine g_iconst dX11_mean_33 (by decide) ?_
      refine g_callv3 (st := []) 9 mw_X11_refuse lk_RX11_114 rfl kh_0 (ok_H_refuse 5 s6) (Nat.le_of_ble_eq_true rfl) rfl rfl (Nat.le_of_ble_eq_true rfl) dX11_mean_34 ?_
      intro r7 s8
      exact g_zret dX11_mean_37
    · refine g_iload_n dX11_mean_21 rfl rfl ?_
      refine g_iload_n dX11_mean_22 rfl rfl ?_
      refine g_iadd dX11_mean_23 ?_
      refine g_iconst dX11_mean_24 (by decide) ?_
      refine g_isub dX11_mean_25 ?_
      refine g_sipush dX11_mean_26 (by decide) ?_
      refine g_icmple (tgt := 38) dX11_mean_29 (by decide) ?_ ?_
      · refine g_aload_n dX11_mean_32 rfl rfl ?_
        refine g_iconst dX11_mean_33 (by decide) ?_
        refine g_callv3 (st := []) 9 mw_X11_refuse lk_RX11_114 rfl kh_0 (ok_H_refuse 5 s6) (Nat.le_of_ble_eq_true rfl) rfl rfl (Nat.le_of_ble_eq_true rfl) dX11_mean_34 ?_
        intro r9 s10
        exact g_zret dX11_mean_37
      · refine g_aload_n dX11_mean_38 rfl rfl ?_
        refine g_getr' (q := 30) fl_RX11_53 kh_0 (by decide) rfl dX11_mean_39 ?_
        refine g_getz fl_RX11_430 kh_30 (by decide) dX11_mean_42 ?_
        refine g_ifne (tgt := 55) dX11_mean_45 (by decide) ?_ ?_
        · refine g_aload_n dX11_mean_48 rfl rfl ?_
          refine g_bipush dX11_mean_49 (by decide) ?_
          refine g_callv3 (st := []) 9 mw_X11_refuse lk_RX11_114 rfl kh_0 (ok_H_refuse 8 s6) (Nat.le_of_ble_eq_true rfl) rfl rfl (Nat.le_of_ble_eq_true rfl) dX11_mean_51 ?_
          intro r11 s12
          exact g_zret dX11_mean_54
        · refine g_lconst (v := 0) dX11_mean_55 (by decide) ?_
          refine g_lstore_n (lv' := [some (.inr (.inr 0)), some (.inl a1), some (.inl a2), some (.inr (.inl 0)), none, none]) dX11_mean_56 rfl (Nat.le_of_ble_eq_true rfl) rfl ?_
          refine g_iconst dX11_mean_57 (by decide) ?_
          refine g_istore (lv' := [some (.inr (.inr 0)), some (.inl a1), some (.inl a2), some (.inr (.inl 0)), none, some (.inl 0)]) dX11_mean_58 (Nat.le_of_ble_eq_true rfl) rfl ?_
          refine (ok_H_mean_L60 a1 a2 _ ?_ fu 0 0 s6)
          · intro x21 s22
            refine (ok_H_mean_J113 a2 x21 s22)
theorem dX11_moveOf_0 : decode cX11_moveOf 0 = .ok (.aload_n 0, 1) := by decide +kernel
theorem dX11_moveOf_1 : decode cX11_moveOf 1 = .ok (.iload_n 1, 1) := by decide +kernel
theorem dX11_moveOf_2 : decode cX11_moveOf 2 = .ok (.iload_n 2, 1) := by decide +kernel
theorem dX11_moveOf_3 : decode cX11_moveOf 3 = .ok (.iload_n 3, 1) := by decide +kernel
theorem dX11_moveOf_4 : decode cX11_moveOf 4 = .ok (.iconst 1, 1) := by decide +kernel
theorem dX11_moveOf_5 : decode cX11_moveOf 5 = .ok (.invokevirtual 408, 3) := by decide +kernel
theorem dX11_moveOf_8 : decode cX11_moveOf 8 = .ok (.istore 4, 2) := by decide +kernel
theorem dX11_moveOf_10 : decode cX11_moveOf 10 = .ok (.iload 4, 2) := by decide +kernel
theorem dX11_moveOf_12 : decode cX11_moveOf 12 = .ok (.ifCond .eq 10, 3) := by decide +kernel
theorem dX11_moveOf_15 : decode cX11_moveOf 15 = .ok (.aload_n 0, 1) := by decide +kernel
theorem dX11_moveOf_16 : decode cX11_moveOf 16 = .ok (.iload 4, 2) := by decide +kernel
theorem dX11_moveOf_18 : decode cX11_moveOf 18 = .ok (.invokevirtual 147, 3) := by decide +kernel
theorem dX11_moveOf_21 : decode cX11_moveOf 21 = .ok (.ireturn, 1) := by decide +kernel
theorem dX11_moveOf_22 : decode cX11_moveOf 22 = .ok (.aload_n 0, 1) := by decide +kernel
theorem dX11_moveOf_23 : decode cX11_moveOf 23 = .ok (.getfield 103, 3) := by decide +kernel
theorem dX11_moveOf_26 : decode cX11_moveOf 26 = .ok (.aload_n 0, 1) := by decide +kernel
theorem dX11_moveOf_27 : decode cX11_moveOf 27 = .ok (.getfield 43, 3) := by decide +kernel
theorem dX11_moveOf_30 : decode cX11_moveOf 30 = .ok (.iload_n 1, 1) := by decide +kernel
theorem dX11_moveOf_31 : decode cX11_moveOf 31 = .ok (.iload_n 2, 1) := by decide +kernel
theorem dX11_moveOf_32 : decode cX11_moveOf 32 = .ok (.iload_n 3, 1) := by decide +kernel
theorem dX11_moveOf_33 : decode cX11_moveOf 33 = .ok (.invokevirtual 412, 3) := by decide +kernel
theorem dX11_moveOf_36 : decode cX11_moveOf 36 = .ok (.pop, 1) := by decide +kernel
theorem dX11_moveOf_37 : decode cX11_moveOf 37 = .ok (.aload_n 0, 1) := by decide +kernel
theorem dX11_moveOf_38 : decode cX11_moveOf 38 = .ok (.getfield 103, 3) := by decide +kernel
theorem dX11_moveOf_41 : decode cX11_moveOf 41 = .ok (.getfield 416, 3) := by decide +kernel
theorem dX11_moveOf_44 : decode cX11_moveOf 44 = .ok (.iconst (-1), 1) := by decide +kernel
theorem dX11_moveOf_45 : decode cX11_moveOf 45 = .ok (.if_icmp .ne 12, 3) := by decide +kernel
theorem dX11_moveOf_48 : decode cX11_moveOf 48 = .ok (.aload_n 0, 1) := by decide +kernel
theorem dX11_moveOf_49 : decode cX11_moveOf 49 = .ok (.bipush 8, 2) := by decide +kernel
theorem dX11_moveOf_51 : decode cX11_moveOf 51 = .ok (.invokevirtual 147, 3) := by decide +kernel
theorem dX11_moveOf_54 : decode cX11_moveOf 54 = .ok (.goto 14, 3) := by decide +kernel
theorem dX11_moveOf_57 : decode cX11_moveOf 57 = .ok (.aload_n 0, 1) := by decide +kernel
theorem dX11_moveOf_58 : decode cX11_moveOf 58 = .ok (.aload_n 0, 1) := by decide +kernel
theorem dX11_moveOf_59 : decode cX11_moveOf 59 = .ok (.getfield 103, 3) := by decide +kernel
theorem dX11_moveOf_62 : decode cX11_moveOf 62 = .ok (.getfield 416, 3) := by decide +kernel
theorem dX11_moveOf_65 : decode cX11_moveOf 65 = .ok (.invokevirtual 194, 3) := by decide +kernel
theorem dX11_moveOf_68 : decode cX11_moveOf 68 = .ok (.ireturn, 1) := by decide +kernel
theorem mw_X11_moveOf : MW yX11_moveOf cX11_moveOf 5 0 3 false := ⟨tm 1466 (by decide +kernel) rfl, tm 235 (by decide +kernel) rfl, by decide, by decide, (by rw [if_neg (by decide)]; exact ⟨tm 1464 (by decide +kernel) rfl, tm 1465 (by decide +kernel) rfl⟩)⟩
theorem fl_RX11_416 : FL RX11 416 0 4 := ⟨_, _, _, _, cw_0, by decide, Or.inl (by decide), Or.inr (by decide), Or.inr ⟨"HairProvince", tm 610 (by decide +kernel) rfl⟩⟩
def H_moveOf (a1 : Int) (a2 : Int) (a3 : Int) (σ : Sg) : Rs := (bd (H_gameStatus a1 a2 a3 1 σ) (fun r1 s2 => (if r1 = 0 then (bd (Du_play 8 a1 a2 a3 s2) (fun r3 s4 => (if (s4 108 4) = (-1) then (bd (H_fail 8 s4) (fun r5 s6 => (some (r5, s6)))) else (bd (H_give (s4 108 4) s4) (fun r7 s8 => (some (r7, s8))))))) else (bd (H_fail r1 s2) (fun r9 s10 => (some (r9, s10)))))))
theorem ok_H_moveOf (a1 : Int) (a2 : Int) (a3 : Int) (σ : Sg) : MC l Kh Ph yX11_moveOf cX11_moveOf 5 0 25 [.inr (.inr 0), .inl a1, .inl a2, .inl a3] σ (H_moveOf a1 a2 a3 σ) := by
  refine mc_of (by decide) (Nat.le_of_ble_eq_true rfl) ?_
  change G l Kh Ph RX11 cX11_moveOf 5 0 25 0 [some (.inr (.inr 0)), some (.inl a1), some (.inl a2), some (.inl a3), none] [] σ (H_moveOf a1 a2 a3 σ)
  unfold H_moveOf
  refine g_aload_n dX11_moveOf_0 rfl rfl ?_
  refine g_iload_n dX11_moveOf_1 rfl rfl ?_
  refine g_iload_n dX11_moveOf_2 rfl rfl ?_
  refine g_iload_n dX11_moveOf_3 rfl rfl ?_
  refine g_iconst dX11_moveOf_4 (by decide) ?_
  refine g_callv0 (st := []) 9 mw_X11_gameStatus lk_RX11_408 rfl kh_0 (ok_H_gameStatus a1 a2 a3 1 σ) (Nat.le_of_ble_eq_true rfl) rfl rfl (Nat.le_of_ble_eq_true rfl) dX11_moveOf_5 ?_
  intro r1 s2
  refine g_istore (lv' := [some (.inr (.inr 0)), some (.inl a1), some (.inl a2), some (.inl a3), some (.inl r1)]) dX11_moveOf_8 (Nat.le_of_ble_eq_true rfl) rfl ?_
  refine g_iload dX11_moveOf_10 rfl ?_
  refine g_ifeq (tgt := 22) dX11_moveOf_12 (by decide) ?_ ?_
  · refine g_aload_n dX11_moveOf_22 rfl rfl ?_
    refine g_getr' (q := 108) fl_RX11_103 kh_0 (by decide) rfl dX11_moveOf_23 ?_
    refine g_aload_n dX11_moveOf_26 rfl rfl ?_
    refine g_getr' (q := 8) fl_RX11_43 kh_0 (by decide) rfl dX11_moveOf_27 ?_
    refine g_iload_n dX11_moveOf_30 rfl rfl ?_
    refine g_iload_n dX11_moveOf_31 rfl rfl ?_
    refine g_iload_n dX11_moveOf_32 rfl rfl ?_
    refine g_callv0 (st := []) 0 mw_X0_play lk_RX11_412 rfl kh_108 (ok_Du_play 8 a1 a2 a3 kh_8 s2) (Nat.le_of_ble_eq_true rfl) rfl rfl (Nat.le_of_ble_eq_true rfl) dX11_moveOf_33 ?_
    intro r3 s4
    refine g_pop dX11_moveOf_36 rfl ?_
    refine g_aload_n dX11_moveOf_37 rfl rfl ?_
    refine g_getr' (q := 108) fl_RX11_103 kh_0 (by decide) rfl dX11_moveOf_38 ?_
    refine g_geti fl_RX11_416 kh_108 (by decide) dX11_moveOf_41 ?_
    refine g_iconst dX11_moveOf_44 (by decide) ?_
    refine g_icmpne (tgt := 57) dX11_moveOf_45 (by decide) ?_ ?_
    · refine g_aload_n dX11_moveOf_48 rfl rfl ?_
      refine g_bipush dX11_moveOf_49 (by decide) ?_
      refine g_callv0 (st := []) 9 mw_X11_fail lk_RX11_147 rfl kh_0 (ok_H_fail 8 s4) (Nat.le_of_ble_eq_true rfl) rfl rfl (Nat.le_of_ble_eq_true rfl) dX11_moveOf_51 ?_
      intro r5 s6
      refine g_goto (tgt := 68) dX11_moveOf_54 (by decide) ?_
      exact g_iret dX11_moveOf_68
    · refine g_aload_n dX11_moveOf_57 rfl rfl ?_
      refine g_aload_n dX11_moveOf_58 rfl rfl ?_
      refine g_getr' (q := 108) fl_RX11_103 kh_0 (by decide) rfl dX11_moveOf_59 ?_
      refine g_geti fl_RX11_416 kh_108 (by decide) dX11_moveOf_62 ?_
      refine g_callv0 (st := []) 9 mw_X11_give lk_RX11_194 rfl kh_0 (ok_H_give (s4 108 4) s4) (Nat.le_of_ble_eq_true rfl) rfl rfl (Nat.le_of_ble_eq_true rfl) dX11_moveOf_65 ?_
      intro r7 s8
      exact g_iret dX11_moveOf_68
  · refine g_aload_n dX11_moveOf_15 rfl rfl ?_
    refine g_iload dX11_moveOf_16 rfl ?_
    refine g_callv0 (st := []) 9 mw_X11_fail lk_RX11_147 rfl kh_0 (ok_H_fail r1 s2) (Nat.le_of_ble_eq_true rfl) rfl rfl (Nat.le_of_ble_eq_true rfl) dX11_moveOf_18 ?_
    intro r9 s10
    exact g_iret dX11_moveOf_21
theorem dX6_isSafe_0 : decode cX6_isSafe 0 = .ok (.iconst 0, 1) := by decide +kernel
theorem dX6_isSafe_1 : decode cX6_isSafe 1 = .ok (.istore_n 2, 1) := by decide +kernel
theorem dX6_isSafe_2 : decode cX6_isSafe 2 = .ok (.iconst 0, 1) := by decide +kernel
theorem dX6_isSafe_3 : decode cX6_isSafe 3 = .ok (.istore_n 3, 1) := by decide +kernel
theorem dX6_isSafe_4 : decode cX6_isSafe 4 = .ok (.iload_n 3, 1) := by decide +kernel
theorem dX6_isSafe_5 : decode cX6_isSafe 5 = .ok (.bipush 6, 2) := by decide +kernel
theorem dX6_isSafe_7 : decode cX6_isSafe 7 = .ok (.if_icmp .ge 31, 3) := by decide +kernel
theorem dX6_isSafe_10 : decode cX6_isSafe 10 = .ok (.iload_n 2, 1) := by decide +kernel
theorem dX6_isSafe_11 : decode cX6_isSafe 11 = .ok (.iload_n 1, 1) := by decide +kernel
theorem dX6_isSafe_12 : decode cX6_isSafe 12 = .ok (.iload_n 3, 1) := by decide +kernel
theorem dX6_isSafe_13 : decode cX6_isSafe 13 = .ok (.ishr, 1) := by decide +kernel
theorem dX6_isSafe_14 : decode cX6_isSafe 14 = .ok (.iconst 1, 1) := by decide +kernel
theorem dX6_isSafe_15 : decode cX6_isSafe 15 = .ok (.iand, 1) := by decide +kernel
theorem dX6_isSafe_16 : decode cX6_isSafe 16 = .ok (.iconst 1, 1) := by decide +kernel
theorem dX6_isSafe_17 : decode cX6_isSafe 17 = .ok (.if_icmp .ne 12, 3) := by decide +kernel
theorem dX6_isSafe_20 : decode cX6_isSafe 20 = .ok (.aload_n 0, 1) := by decide +kernel
theorem dX6_isSafe_21 : decode cX6_isSafe 21 = .ok (.getfield 15, 3) := by decide +kernel
theorem dX6_isSafe_24 : decode cX6_isSafe 24 = .ok (.iload_n 3, 1) := by decide +kernel
theorem dX6_isSafe_25 : decode cX6_isSafe 25 = .ok (.iaload, 1) := by decide +kernel
theorem dX6_isSafe_26 : decode cX6_isSafe 26 = .ok (.goto 4, 3) := by decide +kernel
theorem dX6_isSafe_29 : decode cX6_isSafe 29 = .ok (.iconst 0, 1) := by decide +kernel
theorem dX6_isSafe_30 : decode cX6_isSafe 30 = .ok (.ior, 1) := by decide +kernel
theorem dX6_isSafe_31 : decode cX6_isSafe 31 = .ok (.istore_n 2, 1) := by decide +kernel
theorem dX6_isSafe_32 : decode cX6_isSafe 32 = .ok (.iinc 3 1, 3) := by decide +kernel
theorem dX6_isSafe_35 : decode cX6_isSafe 35 = .ok (.goto (-31), 3) := by decide +kernel
theorem dX6_isSafe_38 : decode cX6_isSafe 38 = .ok (.iconst 0, 1) := by decide +kernel
theorem dX6_isSafe_39 : decode cX6_isSafe 39 = .ok (.istore_n 3, 1) := by decide +kernel
theorem dX6_isSafe_40 : decode cX6_isSafe 40 = .ok (.iload_n 3, 1) := by decide +kernel
theorem dX6_isSafe_41 : decode cX6_isSafe 41 = .ok (.bipush 8, 2) := by decide +kernel
theorem dX6_isSafe_43 : decode cX6_isSafe 43 = .ok (.if_icmp .ge 31, 3) := by decide +kernel
theorem dX6_isSafe_46 : decode cX6_isSafe 46 = .ok (.iload_n 2, 1) := by decide +kernel
theorem dX6_isSafe_47 : decode cX6_isSafe 47 = .ok (.iload_n 3, 1) := by decide +kernel
theorem dX6_isSafe_48 : decode cX6_isSafe 48 = .ok (.ishr, 1) := by decide +kernel
theorem dX6_isSafe_49 : decode cX6_isSafe 49 = .ok (.iconst 1, 1) := by decide +kernel
theorem dX6_isSafe_50 : decode cX6_isSafe 50 = .ok (.iand, 1) := by decide +kernel
theorem dX6_isSafe_51 : decode cX6_isSafe 51 = .ok (.iconst 1, 1) := by decide +kernel
theorem dX6_isSafe_52 : decode cX6_isSafe 52 = .ok (.if_icmp .ne 16, 3) := by decide +kernel
theorem dX6_isSafe_55 : decode cX6_isSafe 55 = .ok (.iload_n 2, 1) := by decide +kernel
theorem dX6_isSafe_56 : decode cX6_isSafe 56 = .ok (.aload_n 0, 1) := by decide +kernel
theorem dX6_isSafe_57 : decode cX6_isSafe 57 = .ok (.getfield 20, 3) := by decide +kernel
theorem dX6_isSafe_60 : decode cX6_isSafe 60 = .ok (.iload_n 3, 1) := by decide +kernel
theorem dX6_isSafe_61 : decode cX6_isSafe 61 = .ok (.iaload, 1) := by decide +kernel
theorem dX6_isSafe_62 : decode cX6_isSafe 62 = .ok (.iand, 1) := by decide +kernel
theorem dX6_isSafe_63 : decode cX6_isSafe 63 = .ok (.ifCond .eq 5, 3) := by decide +kernel
theorem dX6_isSafe_66 : decode cX6_isSafe 66 = .ok (.iconst 0, 1) := by decide +kernel
theorem dX6_isSafe_67 : decode cX6_isSafe 67 = .ok (.ireturn, 1) := by decide +kernel
theorem dX6_isSafe_68 : decode cX6_isSafe 68 = .ok (.iinc 3 1, 3) := by decide +kernel
theorem dX6_isSafe_71 : decode cX6_isSafe 71 = .ok (.goto (-31), 3) := by decide +kernel
theorem dX6_isSafe_74 : decode cX6_isSafe 74 = .ok (.iconst 1, 1) := by decide +kernel
theorem dX6_isSafe_75 : decode cX6_isSafe 75 = .ok (.ireturn, 1) := by decide +kernel
theorem mw_X6_isSafe : MW yX6_isSafe cX6_isSafe 4 3 2 true := ⟨tm 1357 (by decide +kernel) rfl, tm 246 (by decide +kernel) rfl, by decide, by decide, (by rw [if_pos rfl]; exact tm 1356 (by decide +kernel) rfl)⟩
theorem fl_RX6_15 : FL RX6 15 4 6 := ⟨_, _, _, _, cw_4, by decide, Or.inr (Or.inr (Or.inr (by decide))), Or.inl (by decide), Or.inr ⟨"HairProvince", tm 410 (by decide +kernel) rfl⟩⟩
theorem fl_RX6_20 : FL RX6 20 4 3 := ⟨_, _, _, _, cw_4, by decide, Or.inr (Or.inr (Or.inr (by decide))), Or.inl (by decide), Or.inr ⟨"HairProvince", tm 402 (by decide +kernel) rfl⟩⟩
def Ro_isSafe_L4 (pr0 : Nat) (a1 : Int) (k40 : Int → Int → Sg → Rs) : Nat → Int → Int → Sg → Rs
  | 0, _, _, _ => none
  | n + 1, v2, v3, σ => (if v3 < 6 then (if (an32 (sr32 a1 v3) 1) = 1 then (rd 6 v3 (σ (pr0 + 7) (Int.toNat v3)) (fun x1 => (nm (or32 v2 x1) (fun x2 => (nm (w32 (v3 + 1)) (fun x3 => (Ro_isSafe_L4 pr0 a1 k40 n x2 x3 σ))))))) else (nm (or32 v2 0) (fun x4 => (nm (w32 (v3 + 1)) (fun x5 => (Ro_isSafe_L4 pr0 a1 k40 n x4 x5 σ)))))) else (k40 v2 0 σ))
theorem ok_Ro_isSafe_L4 (pr0 : Nat) (a1 : Int) (hpr0 : Kh[pr0]? = some (.inl 4)) (k40 : Int → Int → Sg → Rs) (hk40 : ∀ (y2 y3 : Int) (σ : Sg), G l Kh Ph RX6 cX6_isSafe 4 3 1 40 [some (.inr (.inr pr0)), none, some (.inl y2), some (.inl y3)] [] σ (k40 y2 y3 σ)) : ∀ (n : Nat) (v2 v3 : Int) (σ : Sg), G l Kh Ph RX6 cX6_isSafe 4 3 1 4 [some (.inr (.inr pr0)), some (.inl a1), some (.inl v2), some (.inl v3)] [] σ (Ro_isSafe_L4 pr0 a1 k40 n v2 v3 σ) := by
  intro n
  induction n with
  | zero => intros; exact G.none_
  | succ n ih =>
    intro v2 v3 σ
    rw [Ro_isSafe_L4]
    refine g_iload_n dX6_isSafe_4 rfl rfl ?_
    refine g_bipush dX6_isSafe_5 (by decide) ?_
    refine g_icmpge (tgt := 38) dX6_isSafe_7 (by decide) ?_ ?_
    · refine g_iload_n dX6_isSafe_10 rfl rfl ?_
      refine g_iload_n dX6_isSafe_11 rfl rfl ?_
      refine g_iload_n dX6_isSafe_12 rfl rfl ?_
      refine g_ishr dX6_isSafe_13 ?_
      refine g_iconst dX6_isSafe_14 (by decide) ?_
      refine g_iand dX6_isSafe_15 ?_
      refine g_iconst dX6_isSafe_16 (by decide) ?_
      refine g_icmpne (tgt := 29) dX6_isSafe_17 (by decide) ?_ ?_
      · refine g_aload_n dX6_isSafe_20 rfl rfl ?_
        refine g_getr' (q := (pr0 + 7)) fl_RX6_15 hpr0 (by decide) (qp6 hpr0) dX6_isSafe_21 ?_
        refine g_iload_n dX6_isSafe_24 rfl rfl ?_
        refine g_iald (kp6 hpr0) dX6_isSafe_25 ?_
        intro x1
        refine g_goto (tgt := 30) dX6_isSafe_26 (by decide) ?_
        refine g_ior dX6_isSafe_30 ?_
        refine n_istore_n (fun x2 => [some (.inr (.inr pr0)), some (.inl a1), some (.inl x2), some (.inl v3)]) dX6_isSafe_31 rfl (Nat.le_of_ble_eq_true rfl) (fun _ => rfl) ?_
        intro x2
        refine n_iinc (fun x3 => [some (.inr (.inr pr0)), some (.inl a1), some (.inl x2), some (.inl x3)]) dX6_isSafe_32 rfl (Nat.le_of_ble_eq_true rfl) (fun _ => rfl) ?_
        intro x3
        refine g_goto (tgt := 4) dX6_isSafe_35 (by decide) ?_
        exact (ih x2 x3 σ)
      · refine g_iconst dX6_isSafe_29 (by decide) ?_
        refine g_ior dX6_isSafe_30 ?_
        refine n_istore_n (fun x4 => [some (.inr (.inr pr0)), some (.inl a1), some (.inl x4), some (.inl v3)]) dX6_isSafe_31 rfl (Nat.le_of_ble_eq_true rfl) (fun _ => rfl) ?_
        intro x4
        refine n_iinc (fun x5 => [some (.inr (.inr pr0)), some (.inl a1), some (.inl x4), some (.inl x5)]) dX6_isSafe_32 rfl (Nat.le_of_ble_eq_true rfl) (fun _ => rfl) ?_
        intro x5
        refine g_goto (tgt := 4) dX6_isSafe_35 (by decide) ?_
        exact (ih x4 x5 σ)
    · refine g_iconst dX6_isSafe_38 (by decide) ?_
      refine g_istore_n (lv' := [some (.inr (.inr pr0)), some (.inl a1), some (.inl v2), some (.inl 0)]) dX6_isSafe_39 rfl (Nat.le_of_ble_eq_true rfl) rfl ?_
      exact (g_weak [true, false, true, true] (hk40 v2 0 σ))
def Ro_isSafe_L40 (pr0 : Nat) (v2 : Int) : Nat → Int → Sg → Rs
  | 0, _, _ => none
  | n + 1, v3, σ => (if v3 < 8 then (if (an32 (sr32 v2 v3) 1) = 1 then (rd 8 v3 (σ (pr0 + 4) (Int.toNat v3)) (fun x9 => (if (an32 v2 x9) = 0 then (nm (w32 (v3 + 1)) (fun x10 => (Ro_isSafe_L40 pr0 v2 n x10 σ))) else (some (0, σ))))) else (nm (w32 (v3 + 1)) (fun x11 => (Ro_isSafe_L40 pr0 v2 n x11 σ)))) else (some (1, σ)))
theorem ok_Ro_isSafe_L40 (pr0 : Nat) (v2 : Int) (hpr0 : Kh[pr0]? = some (.inl 4)) : ∀ (n : Nat) (v3 : Int) (σ : Sg), G l Kh Ph RX6 cX6_isSafe 4 3 1 40 [some (.inr (.inr pr0)), none, some (.inl v2), some (.inl v3)] [] σ (Ro_isSafe_L40 pr0 v2 n v3 σ) := by
  intro n
  induction n with
  | zero => intros; exact G.none_
  | succ n ih =>
    intro v3 σ
    rw [Ro_isSafe_L40]
    refine g_iload_n dX6_isSafe_40 rfl rfl ?_
    refine g_bipush dX6_isSafe_41 (by decide) ?_
    refine g_icmpge (tgt := 74) dX6_isSafe_43 (by decide) ?_ ?_
    · refine g_iload_n dX6_isSafe_46 rfl rfl ?_
      refine g_iload_n dX6_isSafe_47 rfl rfl ?_
      refine g_ishr dX6_isSafe_48 ?_
      refine g_iconst dX6_isSafe_49 (by decide) ?_
      refine g_iand dX6_isSafe_50 ?_
      refine g_iconst dX6_isSafe_51 (by decide) ?_
      refine g_icmpne (tgt := 68) dX6_isSafe_52 (by decide) ?_ ?_
      · refine g_iload_n dX6_isSafe_55 rfl rfl ?_
        refine g_aload_n dX6_isSafe_56 rfl rfl ?_
        refine g_getr' (q := (pr0 + 4)) fl_RX6_20 hpr0 (by decide) (qp3 hpr0) dX6_isSafe_57 ?_
        refine g_iload_n dX6_isSafe_60 rfl rfl ?_
        refine g_iald (kp3 hpr0) dX6_isSafe_61 ?_
        intro x9
        refine g_iand dX6_isSafe_62 ?_
        refine g_ifeq (tgt := 68) dX6_isSafe_63 (by decide) ?_ ?_
        · refine n_iinc (fun x10 => [some (.inr (.inr pr0)), none, some (.inl v2), some (.inl x10)]) dX6_isSafe_68 rfl (Nat.le_of_ble_eq_true rfl) (fun _ => rfl) ?_
          intro x10
          refine g_goto (tgt := 40) dX6_isSafe_71 (by decide) ?_
          exact (ih x10 σ)
        · refine g_iconst dX6_isSafe_66 (by decide) ?_
          exact g_zret0 dX6_isSafe_67
      · refine n_iinc (fun x11 => [some (.inr (.inr pr0)), none, some (.inl v2), some (.inl x11)]) dX6_isSafe_68 rfl (Nat.le_of_ble_eq_true rfl) (fun _ => rfl) ?_
        intro x11
        refine g_goto (tgt := 40) dX6_isSafe_71 (by decide) ?_
        exact (ih x11 σ)
    · refine g_iconst dX6_isSafe_74 (by decide) ?_
      exact g_zret1 dX6_isSafe_75
def Ro_isSafe (pr0 : Nat) (a1 : Int) (σ : Sg) : Rs := (Ro_isSafe_L4 pr0 a1 (fun x6 x7 s8 => (Ro_isSafe_L40 pr0 x6 fu x7 s8)) fu 0 0 σ)
theorem ok_Ro_isSafe (pr0 : Nat) (a1 : Int) (hpr0 : Kh[pr0]? = some (.inl 4)) (σ : Sg) : MC l Kh Ph yX6_isSafe cX6_isSafe 4 3 1 [.inr (.inr pr0), .inl a1] σ (Ro_isSafe pr0 a1 σ) := by
  refine mc_of (by decide) (Nat.le_of_ble_eq_true rfl) ?_
  change G l Kh Ph RX6 cX6_isSafe 4 3 1 0 [some (.inr (.inr pr0)), some (.inl a1), none, none] [] σ (Ro_isSafe pr0 a1 σ)
  unfold Ro_isSafe
  refine g_iconst dX6_isSafe_0 (by decide) ?_
  refine g_istore_n (lv' := [some (.inr (.inr pr0)), some (.inl a1), some (.inl 0), none]) dX6_isSafe_1 rfl (Nat.le_of_ble_eq_true rfl) rfl ?_
  refine g_iconst dX6_isSafe_2 (by decide) ?_
  refine g_istore_n (lv' := [some (.inr (.inr pr0)), some (.inl a1), some (.inl 0), some (.inl 0)]) dX6_isSafe_3 rfl (Nat.le_of_ble_eq_true rfl) rfl ?_
  refine (ok_Ro_isSafe_L4 pr0 a1 hpr0 _ ?_ fu 0 0 σ)
  · intro x6 x7 s8
    refine (ok_Ro_isSafe_L40 pr0 x6 hpr0 fu x7 s8)
theorem dX6_greatestRound_0 : decode cX6_greatestRound 0 = .ok (.iconst 0, 1) := by decide +kernel
theorem dX6_greatestRound_1 : decode cX6_greatestRound 1 = .ok (.istore_n 2, 1) := by decide +kernel
theorem dX6_greatestRound_2 : decode cX6_greatestRound 2 = .ok (.iconst 1, 1) := by decide +kernel
theorem dX6_greatestRound_3 : decode cX6_greatestRound 3 = .ok (.istore_n 3, 1) := by decide +kernel
theorem dX6_greatestRound_4 : decode cX6_greatestRound 4 = .ok (.iload_n 3, 1) := by decide +kernel
theorem dX6_greatestRound_5 : decode cX6_greatestRound 5 = .ok (.bipush 64, 2) := by decide +kernel
theorem dX6_greatestRound_7 : decode cX6_greatestRound 7 = .ok (.if_icmp .ge 40, 3) := by decide +kernel
theorem dX6_greatestRound_10 : decode cX6_greatestRound 10 = .ok (.iload_n 3, 1) := by decide +kernel
theorem dX6_greatestRound_11 : decode cX6_greatestRound 11 = .ok (.iconst 1, 1) := by decide +kernel
theorem dX6_greatestRound_12 : decode cX6_greatestRound 12 = .ok (.aload_n 1, 1) := by decide +kernel
theorem dX6_greatestRound_13 : decode cX6_greatestRound 13 = .ok (.getfield 37, 3) := by decide +kernel
theorem dX6_greatestRound_16 : decode cX6_greatestRound 16 = .ok (.ishl, 1) := by decide +kernel
theorem dX6_greatestRound_17 : decode cX6_greatestRound 17 = .ok (.if_icmp .ge 30, 3) := by decide +kernel
theorem dX6_greatestRound_20 : decode cX6_greatestRound 20 = .ok (.iload_n 3, 1) := by decide +kernel
theorem dX6_greatestRound_21 : decode cX6_greatestRound 21 = .ok (.invokestatic 41, 3) := by decide +kernel
theorem dX6_greatestRound_24 : decode cX6_greatestRound 24 = .ok (.iload_n 2, 1) := by decide +kernel
theorem dX6_greatestRound_25 : decode cX6_greatestRound 25 = .ok (.invokestatic 41, 3) := by decide +kernel
theorem dX6_greatestRound_28 : decode cX6_greatestRound 28 = .ok (.if_icmp .le 13, 3) := by decide +kernel
theorem dX6_greatestRound_31 : decode cX6_greatestRound 31 = .ok (.aload_n 1, 1) := by decide +kernel
theorem dX6_greatestRound_32 : decode cX6_greatestRound 32 = .ok (.iload_n 3, 1) := by decide +kernel
theorem dX6_greatestRound_33 : decode cX6_greatestRound 33 = .ok (.invokestatic 23, 3) := by decide +kernel
theorem dX6_greatestRound_36 : decode cX6_greatestRound 36 = .ok (.ifCond .eq 5, 3) := by decide +kernel
theorem dX6_greatestRound_39 : decode cX6_greatestRound 39 = .ok (.iload_n 3, 1) := by decide +kernel
theorem dX6_greatestRound_40 : decode cX6_greatestRound 40 = .ok (.istore_n 2, 1) := by decide +kernel
theorem dX6_greatestRound_41 : decode cX6_greatestRound 41 = .ok (.iinc 3 1, 3) := by decide +kernel
theorem dX6_greatestRound_44 : decode cX6_greatestRound 44 = .ok (.goto (-40), 3) := by decide +kernel
theorem dX6_greatestRound_47 : decode cX6_greatestRound 47 = .ok (.iload_n 2, 1) := by decide +kernel
theorem dX6_greatestRound_48 : decode cX6_greatestRound 48 = .ok (.ireturn, 1) := by decide +kernel
theorem mw_X6_greatestRound : MW yX6_greatestRound cX6_greatestRound 4 0 1 false := ⟨tm 1370 (by decide +kernel) rfl, tm 246 (by decide +kernel) rfl, by decide, by decide, (by rw [if_neg (by decide)]; exact ⟨tm 1369 (by decide +kernel) rfl, tm 93 (by decide +kernel) rfl⟩)⟩
theorem lk_RX6_23 : LK RX6 23 yX6_isSafe := Or.inl (tm 1355 (by decide +kernel) rfl)
theorem lk_RX6_41 : LK RX6 41 yJ6_bitCount_0f7a4 := Or.inl (tm 1371 (by decide +kernel) rfl)
theorem fl_RX6_37 : FL RX6 37 4 11 := ⟨_, _, _, _, cw_4, by decide, Or.inl (by decide), Or.inr (by decide), Or.inr ⟨"HairProvince", tm 426 (by decide +kernel) rfl⟩⟩
def Ro_greatestRound_L4 (pr1 : Nat) : Nat → Int → Int → Sg → Rs
  | 0, _, _, _ => none
  | n + 1, v2, v3, σ => (if v3 < 64 then (if v3 < (sl32 1 (σ pr1 11)) then (bd (JI_bitCount v3 σ) (fun r1 s2 => (bd (JI_bitCount v2 s2) (fun r3 s4 => (if r3 < r1 then (bd (Ro_isSafe pr1 v3 s4) (fun r5 s6 => (if r5 = 0 then (nm (w32 (v3 + 1)) (fun x7 => (Ro_greatestRound_L4 pr1 n v2 x7 s6))) else (nm (w32 (v3 + 1)) (fun x8 => (Ro_greatestRound_L4 pr1 n v3 x8 s6)))))) else (nm (w32 (v3 + 1)) (fun x9 => (Ro_greatestRound_L4 pr1 n v2 x9 s4)))))))) else (some (v2, σ))) else (some (v2, σ)))
theorem ok_Ro_greatestRound_L4 (pr1 : Nat) (hpr1 : Kh[pr1]? = some (.inl 4)) : ∀ (n : Nat) (v2 v3 : Int) (σ : Sg), G l Kh Ph RX6 cX6_greatestRound 4 0 2 4 [none, some (.inr (.inr pr1)), some (.inl v2), some (.inl v3)] [] σ (Ro_greatestRound_L4 pr1 n v2 v3 σ) := by
  intro n
  induction n with
  | zero => intros; exact G.none_
  | succ n ih =>
    intro v2 v3 σ
    rw [Ro_greatestRound_L4]
    refine g_iload_n dX6_greatestRound_4 rfl rfl ?_
    refine g_bipush dX6_greatestRound_5 (by decide) ?_
    refine g_icmpge (tgt := 47) dX6_greatestRound_7 (by decide) ?_ ?_
    · refine g_iload_n dX6_greatestRound_10 rfl rfl ?_
      refine g_iconst dX6_greatestRound_11 (by decide) ?_
      refine g_aload_n dX6_greatestRound_12 rfl rfl ?_
      refine g_geti fl_RX6_37 hpr1 (by decide) dX6_greatestRound_13 ?_
      refine g_ishl dX6_greatestRound_16 ?_
      refine g_icmpge (tgt := 47) dX6_greatestRound_17 (by decide) ?_ ?_
      · refine g_iload_n dX6_greatestRound_20 rfl rfl ?_
        refine g_calls0 (st := []) mw_J6_bitCount_0f7a4 lk_RX6_41 (ok_JI_bitCount v3 σ) (Nat.le_of_ble_eq_true rfl) rfl rfl (Nat.le_of_ble_eq_true rfl) dX6_greatestRound_21 ?_
        intro r1 s2
        refine g_iload_n dX6_greatestRound_24 rfl rfl ?_
        refine g_calls0 (st := [.inl r1]) mw_J6_bitCount_0f7a4 lk_RX6_41 (ok_JI_bitCount v2 s2) (Nat.le_of_ble_eq_true rfl) rfl rfl (Nat.le_of_ble_eq_true rfl) dX6_greatestRound_25 ?_
        intro r3 s4
        refine g_icmple (tgt := 41) dX6_greatestRound_28 (by decide) ?_ ?_
        · refine g_aload_n dX6_greatestRound_31 rfl rfl ?_
          refine g_iload_n dX6_greatestRound_32 rfl rfl ?_
          refine g_calls3 (st := []) mw_X6_isSafe lk_RX6_23 (ok_Ro_isSafe pr1 v3 hpr1 s4) (Nat.le_of_ble_eq_true rfl) rfl rfl (Nat.le_of_ble_eq_true rfl) dX6_greatestRound_33 ?_
          intro r5 s6
          refine g_ifeq (tgt := 41) dX6_greatestRound_36 (by decide) ?_ ?_
          · refine n_iinc (fun x7 => [none, some (.inr (.inr pr1)), some (.inl v2), some (.inl x7)]) dX6_greatestRound_41 rfl (Nat.le_of_ble_eq_true rfl) (fun _ => rfl) ?_
            intro x7
            refine g_goto (tgt := 4) dX6_greatestRound_44 (by decide) ?_
            exact (ih v2 x7 s6)
          · refine g_iload_n dX6_greatestRound_39 rfl rfl ?_
            refine g_istore_n (lv' := [none, some (.inr (.inr pr1)), some (.inl v3), some (.inl v3)]) dX6_greatestRound_40 rfl (Nat.le_of_ble_eq_true rfl) rfl ?_
            refine n_iinc (fun x8 => [none, some (.inr (.inr pr1)), some (.inl v3), some (.inl x8)]) dX6_greatestRound_41 rfl (Nat.le_of_ble_eq_true rfl) (fun _ => rfl) ?_
            intro x8
            refine g_goto (tgt := 4) dX6_greatestRound_44 (by decide) ?_
            exact (ih v3 x8 s6)
        · refine n_iinc (fun x9 => [none, some (.inr (.inr pr1)), some (.inl v2), some (.inl x9)]) dX6_greatestRound_41 rfl (Nat.le_of_ble_eq_true rfl) (fun _ => rfl) ?_
          intro x9
          refine g_goto (tgt := 4) dX6_greatestRound_44 (by decide) ?_
          exact (ih v2 x9 s4)
      · refine g_iload_n dX6_greatestRound_47 rfl rfl ?_
        exact g_iret dX6_greatestRound_48
    · refine g_iload_n dX6_greatestRound_47 rfl rfl ?_
      exact g_iret dX6_greatestRound_48
def Ro_greatestRound (pr1 : Nat) (σ : Sg) : Rs := (Ro_greatestRound_L4 pr1 fu 0 1 σ)
theorem ok_Ro_greatestRound (pr1 : Nat) (hpr1 : Kh[pr1]? = some (.inl 4)) (σ : Sg) : MC l Kh Ph yX6_greatestRound cX6_greatestRound 4 0 2 [.inr (.inr 103), .inr (.inr pr1)] σ (Ro_greatestRound pr1 σ) := by
  refine mc_of (by decide) (Nat.le_of_ble_eq_true rfl) ?_
  change G l Kh Ph RX6 cX6_greatestRound 4 0 2 0 [some (.inr (.inr 103)), some (.inr (.inr pr1)), none, none] [] σ (Ro_greatestRound pr1 σ)
  unfold Ro_greatestRound
  refine g_iconst dX6_greatestRound_0 (by decide) ?_
  refine g_istore_n (lv' := [some (.inr (.inr 103)), some (.inr (.inr pr1)), some (.inl 0), none]) dX6_greatestRound_1 rfl (Nat.le_of_ble_eq_true rfl) rfl ?_
  refine g_iconst dX6_greatestRound_2 (by decide) ?_
  refine g_istore_n (lv' := [some (.inr (.inr 103)), some (.inr (.inr pr1)), some (.inl 0), some (.inl 1)]) dX6_greatestRound_3 rfl (Nat.le_of_ble_eq_true rfl) rfl ?_
  refine (g_weak [false, true, true, true] (ok_Ro_greatestRound_L4 pr1 hpr1 fu 0 1 σ))
theorem dX11_oneRound_0 : decode cX11_oneRound 0 = .ok (.aload_n 0, 1) := by decide +kernel
theorem dX11_oneRound_1 : decode cX11_oneRound 1 = .ok (.aload_n 0, 1) := by decide +kernel
theorem dX11_oneRound_2 : decode cX11_oneRound 2 = .ok (.getfield 89, 3) := by decide +kernel
theorem dX11_oneRound_5 : decode cX11_oneRound 5 = .ok (.aload_n 0, 1) := by decide +kernel
theorem dX11_oneRound_6 : decode cX11_oneRound 6 = .ok (.getfield 43, 3) := by decide +kernel
theorem dX11_oneRound_9 : decode cX11_oneRound 9 = .ok (.invokevirtual 389, 3) := by decide +kernel
theorem dX11_oneRound_12 : decode cX11_oneRound 12 = .ok (.invokevirtual 194, 3) := by decide +kernel
theorem dX11_oneRound_15 : decode cX11_oneRound 15 = .ok (.ireturn, 1) := by decide +kernel
theorem mw_X11_oneRound : MW yX11_oneRound cX11_oneRound 1 0 0 false := ⟨tm 1366 (by decide +kernel) rfl, tm 235 (by decide +kernel) rfl, by decide, by decide, (by rw [if_neg (by decide)]; exact ⟨tm 1364 (by decide +kernel) rfl, tm 1365 (by decide +kernel) rfl⟩)⟩
theorem lk_RX11_389 : LK RX11 389 yX6_greatestRound := Or.inr ⟨"HairProvince", tm 1367 (by decide +kernel) rfl⟩
theorem fl_RX11_89 : FL RX11 89 9 17 := ⟨_, _, _, _, cw_9, by decide, Or.inr (Or.inr (Or.inr (by decide))), Or.inl (by decide), Or.inl (tm 639 (by decide +kernel) rfl)⟩
def H_oneRound  (σ : Sg) : Rs := (bd (Ro_greatestRound 8 σ) (fun r1 s2 => (bd (H_give r1 s2) (fun r3 s4 => (some (r3, s4))))))
theorem ok_H_oneRound (σ : Sg) : MC l Kh Ph yX11_oneRound cX11_oneRound 1 0 3 [.inr (.inr 0)] σ (H_oneRound σ) := by
  refine mc_of (by decide) (Nat.le_of_ble_eq_true rfl) ?_
  change G l Kh Ph RX11 cX11_oneRound 1 0 3 0 [some (.inr (.inr 0))] [] σ (H_oneRound  σ)
  unfold H_oneRound
  refine g_aload_n dX11_oneRound_0 rfl rfl ?_
  refine g_aload_n dX11_oneRound_1 rfl rfl ?_
  refine g_getr' (q := 103) fl_RX11_89 kh_0 (by decide) rfl dX11_oneRound_2 ?_
  refine g_aload_n dX11_oneRound_5 rfl rfl ?_
  refine g_getr' (q := 8) fl_RX11_43 kh_0 (by decide) rfl dX11_oneRound_6 ?_
  refine g_callv0 (st := [.inr (.inr 0)]) 5 mw_X6_greatestRound lk_RX11_389 rfl kh_103 (ok_Ro_greatestRound 8 kh_8 σ) (Nat.le_of_ble_eq_true rfl) rfl rfl (Nat.le_of_ble_eq_true rfl) dX11_oneRound_9 ?_
  intro r1 s2
  refine g_callv0 (st := []) 9 mw_X11_give lk_RX11_194 rfl kh_0 (ok_H_give r1 s2) (Nat.le_of_ble_eq_true rfl) rfl rfl (Nat.le_of_ble_eq_true rfl) dX11_oneRound_12 ?_
  intro r3 s4
  exact g_iret dX11_oneRound_15
theorem dX11_out_0 : decode cX11_out 0 = .ok (.aload_n 0, 1) := by decide +kernel
theorem dX11_out_1 : decode cX11_out 1 = .ok (.getfield 43, 3) := by decide +kernel
theorem dX11_out_4 : decode cX11_out 4 = .ok (.iload_n 1, 1) := by decide +kernel
theorem dX11_out_5 : decode cX11_out 5 = .ok (.invokevirtual 248, 3) := by decide +kernel
theorem dX11_out_8 : decode cX11_out 8 = .ok (.ifCond .ne 9, 3) := by decide +kernel
theorem dX11_out_11 : decode cX11_out 11 = .ok (.aload_n 0, 1) := by decide +kernel
theorem dX11_out_12 : decode cX11_out 12 = .ok (.iconst 2, 1) := by decide +kernel
theorem dX11_out_13 : decode cX11_out 13 = .ok (.invokevirtual 147, 3) := by decide +kernel
theorem dX11_out_16 : decode cX11_out 16 = .ok (.ireturn, 1) := by decide +kernel
theorem dX11_out_17 : decode cX11_out 17 = .ok (.aload_n 0, 1) := by decide +kernel
theorem dX11_out_18 : decode cX11_out 18 = .ok (.getfield 43, 3) := by decide +kernel
theorem dX11_out_21 : decode cX11_out 21 = .ok (.iload_n 1, 1) := by decide +kernel
theorem dX11_out_22 : decode cX11_out 22 = .ok (.invokevirtual 257, 3) := by decide +kernel
theorem dX11_out_25 : decode cX11_out 25 = .ok (.istore_n 2, 1) := by decide +kernel
theorem dX11_out_26 : decode cX11_out 26 = .ok (.aload_n 0, 1) := by decide +kernel
theorem dX11_out_27 : decode cX11_out 27 = .ok (.getfield 47, 3) := by decide +kernel
theorem dX11_out_30 : decode cX11_out 30 = .ok (.aload_n 0, 1) := by decide +kernel
theorem dX11_out_31 : decode cX11_out 31 = .ok (.getfield 43, 3) := by decide +kernel
theorem dX11_out_34 : decode cX11_out 34 = .ok (.invokevirtual 184, 3) := by decide +kernel
theorem dX11_out_37 : decode cX11_out 37 = .ok (.iconst 1, 1) := by decide +kernel
theorem dX11_out_38 : decode cX11_out 38 = .ok (.istore_n 3, 1) := by decide +kernel
theorem dX11_out_39 : decode cX11_out 39 = .ok (.iload_n 3, 1) := by decide +kernel
theorem dX11_out_40 : decode cX11_out 40 = .ok (.sipush 200, 3) := by decide +kernel
theorem dX11_out_43 : decode cX11_out 43 = .ok (.if_icmp .gt 36, 3) := by decide +kernel
theorem dX11_out_46 : decode cX11_out 46 = .ok (.aload_n 0, 1) := by decide +kernel
theorem dX11_out_47 : decode cX11_out 47 = .ok (.getfield 47, 3) := by decide +kernel
theorem dX11_out_50 : decode cX11_out 50 = .ok (.iconst 1, 1) := by decide +kernel
theorem dX11_out_51 : decode cX11_out 51 = .ok (.invokevirtual 300, 3) := by decide +kernel
theorem dX11_out_54 : decode cX11_out 54 = .ok (.pop, 1) := by decide +kernel
theorem dX11_out_55 : decode cX11_out 55 = .ok (.aload_n 0, 1) := by decide +kernel
theorem dX11_out_56 : decode cX11_out 56 = .ok (.getfield 47, 3) := by decide +kernel
theorem dX11_out_59 : decode cX11_out 59 = .ok (.iload_n 1, 1) := by decide +kernel
theorem dX11_out_60 : decode cX11_out 60 = .ok (.invokevirtual 257, 3) := by decide +kernel
theorem dX11_out_63 : decode cX11_out 63 = .ok (.iload_n 2, 1) := by decide +kernel
theorem dX11_out_64 : decode cX11_out 64 = .ok (.if_icmp .eq 9, 3) := by decide +kernel
theorem dX11_out_67 : decode cX11_out 67 = .ok (.aload_n 0, 1) := by decide +kernel
theorem dX11_out_68 : decode cX11_out 68 = .ok (.iload_n 3, 1) := by decide +kernel
theorem dX11_out_69 : decode cX11_out 69 = .ok (.invokevirtual 194, 3) := by decide +kernel
theorem dX11_out_72 : decode cX11_out 72 = .ok (.ireturn, 1) := by decide +kernel
theorem dX11_out_73 : decode cX11_out 73 = .ok (.iinc 3 1, 3) := by decide +kernel
theorem dX11_out_76 : decode cX11_out 76 = .ok (.goto (-37), 3) := by decide +kernel
theorem dX11_out_79 : decode cX11_out 79 = .ok (.aload_n 0, 1) := by decide +kernel
theorem dX11_out_80 : decode cX11_out 80 = .ok (.bipush 8, 2) := by decide +kernel
theorem dX11_out_82 : decode cX11_out 82 = .ok (.invokevirtual 147, 3) := by decide +kernel
theorem dX11_out_85 : decode cX11_out 85 = .ok (.ireturn, 1) := by decide +kernel
theorem mw_X11_out : MW yX11_out cX11_out 4 0 1 false := ⟨tm 1244 (by decide +kernel) rfl, tm 235 (by decide +kernel) rfl, by decide, by decide, (by rw [if_neg (by decide)]; exact ⟨tm 1242 (by decide +kernel) rfl, tm 1243 (by decide +kernel) rfl⟩)⟩
def H_out_L39 (a1 : Int) (v2 : Int) : Nat → Int → Sg → Rs
  | 0, _, _ => none
  | n + 1, v3, σ => (if 200 < v3 then (bd (H_fail 8 σ) (fun r9 s10 => (some (r9, s10)))) else (bd (Pr_passDays 19 1 σ) (fun r11 s12 => (bd (Pr_knowersOf 19 a1 s12) (fun r13 s14 => (if r13 = v2 then (nm (w32 (v3 + 1)) (fun x15 => (H_out_L39 a1 v2 n x15 s14))) else (bd (H_give v3 s14) (fun r16 s17 => (some (r16, s17))))))))))
theorem ok_H_out_L39 (a1 : Int) (v2 : Int) : ∀ (n : Nat) (v3 : Int) (σ : Sg), G l Kh Ph RX11 cX11_out 4 0 5 39 [some (.inr (.inr 0)), some (.inl a1), some (.inl v2), some (.inl v3)] [] σ (H_out_L39 a1 v2 n v3 σ) := by
  intro n
  induction n with
  | zero => intros; exact G.none_
  | succ n ih =>
    intro v3 σ
    rw [H_out_L39]
    refine g_iload_n dX11_out_39 rfl rfl ?_
    refine g_sipush dX11_out_40 (by decide) ?_
    refine g_icmpgt (tgt := 79) dX11_out_43 (by decide) ?_ ?_
    · refine g_aload_n dX11_out_79 rfl rfl ?_
      refine g_bipush dX11_out_80 (by decide) ?_
      refine g_callv0 (st := []) 9 mw_X11_fail lk_RX11_147 rfl kh_0 (ok_H_fail 8 σ) (Nat.le_of_ble_eq_true rfl) rfl rfl (Nat.le_of_ble_eq_true rfl) dX11_out_82 ?_
      intro r9 s10
      exact g_iret dX11_out_85
    · refine g_aload_n dX11_out_46 rfl rfl ?_
      refine g_getr' (q := 19) fl_RX11_47 kh_0 (by decide) rfl dX11_out_47 ?_
      refine g_iconst dX11_out_50 (by decide) ?_
      refine g_callv0 (st := []) 4 mw_X4_passDays lk_RX11_300 rfl kh_19 (ok_Pr_passDays 19 1 kh_19 σ) (Nat.le_of_ble_eq_true rfl) rfl rfl (Nat.le_of_ble_eq_true rfl) dX11_out_51 ?_
      intro r11 s12
      refine g_pop dX11_out_54 rfl ?_
      refine g_aload_n dX11_out_55 rfl rfl ?_
      refine g_getr' (q := 19) fl_RX11_47 kh_0 (by decide) rfl dX11_out_56 ?_
      refine g_iload_n dX11_out_59 rfl rfl ?_
      refine g_callv0 (st := []) 4 mw_X4_knowersOf lk_RX11_257 rfl kh_19 (ok_Pr_knowersOf 19 a1 kh_19 s12) (Nat.le_of_ble_eq_true rfl) rfl rfl (Nat.le_of_ble_eq_true rfl) dX11_out_60 ?_
      intro r13 s14
      refine g_iload_n dX11_out_63 rfl rfl ?_
      refine g_icmpeq (tgt := 73) dX11_out_64 (by decide) ?_ ?_
      · refine n_iinc (fun x15 => [some (.inr (.inr 0)), some (.inl a1), some (.inl v2), some (.inl x15)]) dX11_out_73 rfl (Nat.le_of_ble_eq_true rfl) (fun _ => rfl) ?_
        intro x15
        refine g_goto (tgt := 39) dX11_out_76 (by decide) ?_
        exact (ih x15 s14)
      · refine g_aload_n dX11_out_67 rfl rfl ?_
        refine g_iload_n dX11_out_68 rfl rfl ?_
        refine g_callv0 (st := []) 9 mw_X11_give lk_RX11_194 rfl kh_0 (ok_H_give v3 s14) (Nat.le_of_ble_eq_true rfl) rfl rfl (Nat.le_of_ble_eq_true rfl) dX11_out_69 ?_
        intro r16 s17
        exact g_iret dX11_out_72
def H_out (a1 : Int) (σ : Sg) : Rs := (bd (Pr_isWord 8 a1 σ) (fun r1 s2 => (if r1 = 0 then (bd (H_fail 2 s2) (fun r3 s4 => (some (r3, s4)))) else (bd (Pr_knowersOf 8 a1 s2) (fun r5 s6 => (bd (Pr_copyFrom 19 8 s6) (fun r7 s8 => (H_out_L39 a1 r5 fu 1 s8))))))))
theorem ok_H_out (a1 : Int) (σ : Sg) : MC l Kh Ph yX11_out cX11_out 4 0 5 [.inr (.inr 0), .inl a1] σ (H_out a1 σ) := by
  refine mc_of (by decide) (Nat.le_of_ble_eq_true rfl) ?_
  change G l Kh Ph RX11 cX11_out 4 0 5 0 [some (.inr (.inr 0)), some (.inl a1), none, none] [] σ (H_out a1 σ)
  unfold H_out
  refine g_aload_n dX11_out_0 rfl rfl ?_
  refine g_getr' (q := 8) fl_RX11_43 kh_0 (by decide) rfl dX11_out_1 ?_
  refine g_iload_n dX11_out_4 rfl rfl ?_
  refine g_callv3 (st := []) 4 mw_X4_isWord lk_RX11_248 rfl kh_8 (ok_Pr_isWord 8 a1 kh_8 σ) (Nat.le_of_ble_eq_true rfl) rfl rfl (Nat.le_of_ble_eq_true rfl) dX11_out_5 ?_
  intro r1 s2
  refine g_ifne (tgt := 17) dX11_out_8 (by decide) ?_ ?_
  · refine g_aload_n dX11_out_11 rfl rfl ?_
    refine g_iconst dX11_out_12 (by decide) ?_
    refine g_callv0 (st := []) 9 mw_X11_fail lk_RX11_147 rfl kh_0 (ok_H_fail 2 s2) (Nat.le_of_ble_eq_true rfl) rfl rfl (Nat.le_of_ble_eq_true rfl) dX11_out_13 ?_
    intro r3 s4
    exact g_iret dX11_out_16
  · refine g_aload_n dX11_out_17 rfl rfl ?_
    refine g_getr' (q := 8) fl_RX11_43 kh_0 (by decide) rfl dX11_out_18 ?_
    refine g_iload_n dX11_out_21 rfl rfl ?_
    refine g_callv0 (st := []) 4 mw_X4_knowersOf lk_RX11_257 rfl kh_8 (ok_Pr_knowersOf 8 a1 kh_8 s2) (Nat.le_of_ble_eq_true rfl) rfl rfl (Nat.le_of_ble_eq_true rfl) dX11_out_22 ?_
    intro r5 s6
    refine g_istore_n (lv' := [some (.inr (.inr 0)), some (.inl a1), some (.inl r5), none]) dX11_out_25 rfl (Nat.le_of_ble_eq_true rfl) rfl ?_
    refine g_aload_n dX11_out_26 rfl rfl ?_
    refine g_getr' (q := 19) fl_RX11_47 kh_0 (by decide) rfl dX11_out_27 ?_
    refine g_aload_n dX11_out_30 rfl rfl ?_
    refine g_getr' (q := 8) fl_RX11_43 kh_0 (by decide) rfl dX11_out_31 ?_
    refine g_callv2 (st := []) 4 mw_X4_copyFrom lk_RX11_184 rfl kh_19 (ok_Pr_copyFrom 19 8 kh_19 kh_8 s6) (Nat.le_of_ble_eq_true rfl) rfl rfl (Nat.le_of_ble_eq_true rfl) dX11_out_34 ?_
    intro r7 s8
    refine g_iconst dX11_out_37 (by decide) ?_
    refine g_istore_n (lv' := [some (.inr (.inr 0)), some (.inl a1), some (.inl r5), some (.inl 1)]) dX11_out_38 rfl (Nat.le_of_ble_eq_true rfl) rfl ?_
    refine (ok_H_out_L39 a1 r5 fu 1 s8)
theorem dX11_person_0 : decode cX11_person 0 = .ok (.aload_n 0, 1) := by decide +kernel
theorem dX11_person_1 : decode cX11_person 1 = .ok (.getfield 43, 3) := by decide +kernel
theorem dX11_person_4 : decode cX11_person 4 = .ok (.iload_n 1, 1) := by decide +kernel
theorem dX11_person_5 : decode cX11_person 5 = .ok (.invokevirtual 266, 3) := by decide +kernel
theorem dX11_person_8 : decode cX11_person 8 = .ok (.ifCond .ne 9, 3) := by decide +kernel
theorem dX11_person_11 : decode cX11_person 11 = .ok (.aload_n 0, 1) := by decide +kernel
theorem dX11_person_12 : decode cX11_person 12 = .ok (.iconst 2, 1) := by decide +kernel
theorem dX11_person_13 : decode cX11_person 13 = .ok (.invokevirtual 147, 3) := by decide +kernel
theorem dX11_person_16 : decode cX11_person 16 = .ok (.ireturn, 1) := by decide +kernel
theorem dX11_person_17 : decode cX11_person 17 = .ok (.iload_n 2, 1) := by decide +kernel
theorem dX11_person_18 : decode cX11_person 18 = .ok (.tableswitch 110 0 4 #[34, 48, 69, 83, 97], 34) := by decide +kernel
theorem dX11_person_52 : decode cX11_person 52 = .ok (.aload_n 0, 1) := by decide +kernel
theorem dX11_person_53 : decode cX11_person 53 = .ok (.aload_n 0, 1) := by decide +kernel
theorem dX11_person_54 : decode cX11_person 54 = .ok (.getfield 43, 3) := by decide +kernel
theorem dX11_person_57 : decode cX11_person 57 = .ok (.getfield 269, 3) := by decide +kernel
theorem dX11_person_60 : decode cX11_person 60 = .ok (.iload_n 1, 1) := by decide +kernel
theorem dX11_person_61 : decode cX11_person 61 = .ok (.iaload, 1) := by decide +kernel
theorem dX11_person_62 : decode cX11_person 62 = .ok (.invokevirtual 194, 3) := by decide +kernel
theorem dX11_person_65 : decode cX11_person 65 = .ok (.ireturn, 1) := by decide +kernel
theorem dX11_person_66 : decode cX11_person 66 = .ok (.aload_n 0, 1) := by decide +kernel
theorem dX11_person_67 : decode cX11_person 67 = .ok (.aload_n 0, 1) := by decide +kernel
theorem dX11_person_68 : decode cX11_person 68 = .ok (.getfield 43, 3) := by decide +kernel
theorem dX11_person_71 : decode cX11_person 71 = .ok (.iload_n 1, 1) := by decide +kernel
theorem dX11_person_72 : decode cX11_person 72 = .ok (.invokevirtual 272, 3) := by decide +kernel
theorem dX11_person_75 : decode cX11_person 75 = .ok (.ifCond .eq 7, 3) := by decide +kernel
theorem dX11_person_78 : decode cX11_person 78 = .ok (.iconst 1, 1) := by decide +kernel
theorem dX11_person_79 : decode cX11_person 79 = .ok (.goto 4, 3) := by decide +kernel
theorem dX11_person_82 : decode cX11_person 82 = .ok (.iconst 0, 1) := by decide +kernel
theorem dX11_person_83 : decode cX11_person 83 = .ok (.invokevirtual 194, 3) := by decide +kernel
theorem dX11_person_86 : decode cX11_person 86 = .ok (.ireturn, 1) := by decide +kernel
theorem dX11_person_87 : decode cX11_person 87 = .ok (.aload_n 0, 1) := by decide +kernel
theorem dX11_person_88 : decode cX11_person 88 = .ok (.aload_n 0, 1) := by decide +kernel
theorem dX11_person_89 : decode cX11_person 89 = .ok (.getfield 43, 3) := by decide +kernel
theorem dX11_person_92 : decode cX11_person 92 = .ok (.getfield 275, 3) := by decide +kernel
theorem dX11_person_95 : decode cX11_person 95 = .ok (.iload_n 1, 1) := by decide +kernel
theorem dX11_person_96 : decode cX11_person 96 = .ok (.iaload, 1) := by decide +kernel
theorem dX11_person_97 : decode cX11_person 97 = .ok (.invokevirtual 194, 3) := by decide +kernel
theorem dX11_person_100 : decode cX11_person 100 = .ok (.ireturn, 1) := by decide +kernel
theorem dX11_person_101 : decode cX11_person 101 = .ok (.aload_n 0, 1) := by decide +kernel
theorem dX11_person_102 : decode cX11_person 102 = .ok (.aload_n 0, 1) := by decide +kernel
theorem dX11_person_103 : decode cX11_person 103 = .ok (.getfield 43, 3) := by decide +kernel
theorem dX11_person_106 : decode cX11_person 106 = .ok (.getfield 278, 3) := by decide +kernel
theorem dX11_person_109 : decode cX11_person 109 = .ok (.iload_n 1, 1) := by decide +kernel
theorem dX11_person_110 : decode cX11_person 110 = .ok (.iaload, 1) := by decide +kernel
theorem dX11_person_111 : decode cX11_person 111 = .ok (.invokevirtual 194, 3) := by decide +kernel
theorem dX11_person_114 : decode cX11_person 114 = .ok (.ireturn, 1) := by decide +kernel
theorem dX11_person_115 : decode cX11_person 115 = .ok (.aload_n 0, 1) := by decide +kernel
theorem dX11_person_116 : decode cX11_person 116 = .ok (.aload_n 0, 1) := by decide +kernel
theorem dX11_person_117 : decode cX11_person 117 = .ok (.getfield 43, 3) := by decide +kernel
theorem dX11_person_120 : decode cX11_person 120 = .ok (.iload_n 1, 1) := by decide +kernel
theorem dX11_person_121 : decode cX11_person 121 = .ok (.invokevirtual 281, 3) := by decide +kernel
theorem dX11_person_124 : decode cX11_person 124 = .ok (.invokevirtual 194, 3) := by decide +kernel
theorem dX11_person_127 : decode cX11_person 127 = .ok (.ireturn, 1) := by decide +kernel
theorem dX11_person_128 : decode cX11_person 128 = .ok (.aload_n 0, 1) := by decide +kernel
theorem dX11_person_129 : decode cX11_person 129 = .ok (.iconst 5, 1) := by decide +kernel
theorem dX11_person_130 : decode cX11_person 130 = .ok (.invokevirtual 147, 3) := by decide +kernel
theorem dX11_person_133 : decode cX11_person 133 = .ok (.ireturn, 1) := by decide +kernel
theorem mw_X11_person : MW yX11_person cX11_person 3 0 2 false := ⟨tm 1092 (by decide +kernel) rfl, tm 235 (by decide +kernel) rfl, by decide, by decide, (by rw [if_neg (by decide)]; exact ⟨tm 1090 (by decide +kernel) rfl, tm 1091 (by decide +kernel) rfl⟩)⟩
theorem lk_RX11_272 : LK RX11 272 yX4_isBarber := Or.inr ⟨"HairProvince", tm 1094 (by decide +kernel) rfl⟩
theorem fl_RX11_269 : FL RX11 269 4 4 := ⟨_, _, _, _, cw_4, by decide, Or.inr (Or.inr (Or.inr (by decide))), Or.inl (by decide), Or.inr ⟨"HairProvince", tm 405 (by decide +kernel) rfl⟩⟩
def H_person (a1 : Int) (a2 : Int) (σ : Sg) : Rs := (bd (Pr_isPerson 8 a1 σ) (fun r1 s2 => (if r1 = 0 then (bd (H_fail 2 s2) (fun r3 s4 => (some (r3, s4)))) else (sw a2 0 [(rd 6 a1 (s2 13 (Int.toNat a1)) (fun x5 => (bd (H_give x5 s2) (fun r6 s7 => (some (r6, s7)))))), (bd (Pr_isBarber 8 a1 s2) (fun r8 s9 => (if r8 = 0 then (bd (H_give 0 s9) (fun r10 s11 => (some (r10, s11)))) else (bd (H_give 1 s9) (fun r12 s13 => (some (r12, s13))))))), (rd 6 a1 (s2 14 (Int.toNat a1)) (fun x14 => (bd (H_give x14 s2) (fun r15 s16 => (some (r15, s16)))))), (rd 6 a1 (s2 15 (Int.toNat a1)) (fun x17 => (bd (H_give x17 s2) (fun r18 s19 => (some (r18, s19)))))), (bd (Pr_hairOf 8 a1 s2) (fun r20 s21 => (bd (H_give r20 s21) (fun r22 s23 => (some (r22, s23))))))] (bd (H_fail 5 s2) (fun r24 s25 => (some (r24, s25))))))))
theorem ok_H_person (a1 : Int) (a2 : Int) (σ : Sg) : MC l Kh Ph yX11_person cX11_person 3 0 4 [.inr (.inr 0), .inl a1, .inl a2] σ (H_person a1 a2 σ) := by
  refine mc_of (by decide) (Nat.le_of_ble_eq_true rfl) ?_
  change G l Kh Ph RX11 cX11_person 3 0 4 0 [some (.inr (.inr 0)), some (.inl a1), some (.inl a2)] [] σ (H_person a1 a2 σ)
  unfold H_person
  refine g_aload_n dX11_person_0 rfl rfl ?_
  refine g_getr' (q := 8) fl_RX11_43 kh_0 (by decide) rfl dX11_person_1 ?_
  refine g_iload_n dX11_person_4 rfl rfl ?_
  refine g_callv3 (st := []) 4 mw_X4_isPerson lk_RX11_266 rfl kh_8 (ok_Pr_isPerson 8 a1 kh_8 σ) (Nat.le_of_ble_eq_true rfl) rfl rfl (Nat.le_of_ble_eq_true rfl) dX11_person_5 ?_
  intro r1 s2
  refine g_ifne (tgt := 17) dX11_person_8 (by decide) ?_ ?_
  · refine g_aload_n dX11_person_11 rfl rfl ?_
    refine g_iconst dX11_person_12 (by decide) ?_
    refine g_callv0 (st := []) 9 mw_X11_fail lk_RX11_147 rfl kh_0 (ok_H_fail 2 s2) (Nat.le_of_ble_eq_true rfl) rfl rfl (Nat.le_of_ble_eq_true rfl) dX11_person_13 ?_
    intro r3 s4
    exact g_iret dX11_person_16
  · refine g_iload_n dX11_person_17 rfl rfl ?_
    refine g_tsw (td := 128) [52, 66, 87, 101, 115] dX11_person_18 (by decide) rfl (And.intro ?_ (And.intro ?_ (And.intro ?_ (And.intro ?_ (And.intro ?_ trivial))))) ?_
    · refine g_aload_n dX11_person_52 rfl rfl ?_
      refine g_aload_n dX11_person_53 rfl rfl ?_
      refine g_getr' (q := 8) fl_RX11_43 kh_0 (by decide) rfl dX11_person_54 ?_
      refine g_getr' (q := 13) fl_RX11_269 kh_8 (by decide) rfl dX11_person_57 ?_
      refine g_iload_n dX11_person_60 rfl rfl ?_
      refine g_iald kh_13 dX11_person_61 ?_
      intro x5
      refine g_callv0 (st := []) 9 mw_X11_give lk_RX11_194 rfl kh_0 (ok_H_give x5 s2) (Nat.le_of_ble_eq_true rfl) rfl rfl (Nat.le_of_ble_eq_true rfl) dX11_person_62 ?_
      intro r6 s7
      exact g_iret dX11_person_65
    · refine g_aload_n dX11_person_66 rfl rfl ?_
      refine g_aload_n dX11_person_67 rfl rfl ?_
      refine g_getr' (q := 8) fl_RX11_43 kh_0 (by decide) rfl dX11_person_68 ?_
      refine g_iload_n dX11_person_71 rfl rfl ?_
      refine g_callv3 (st := [.inr (.inr 0)]) 4 mw_X4_isBarber lk_RX11_272 rfl kh_8 (ok_Pr_isBarber 8 a1 kh_8 s2) (Nat.le_of_ble_eq_true rfl) rfl rfl (Nat.le_of_ble_eq_true rfl) dX11_person_72 ?_
      intro r8 s9
      refine g_ifeq (tgt := 82) dX11_person_75 (by decide) ?_ ?_
      · refine g_iconst dX11_person_82 (by decide) ?_
        refine g_callv0 (st := []) 9 mw_X11_give lk_RX11_194 rfl kh_0 (ok_H_give 0 s9) (Nat.le_of_ble_eq_true rfl) rfl rfl (Nat.le_of_ble_eq_true rfl) dX11_person_83 ?_
        intro r10 s11
        exact g_iret dX11_person_86
      · refine g_iconst dX11_person_78 (by decide) ?_
        refine g_goto (tgt := 83) dX11_person_79 (by decide) ?_
        refine g_callv0 (st := []) 9 mw_X11_give lk_RX11_194 rfl kh_0 (ok_H_give 1 s9) (Nat.le_of_ble_eq_true rfl) rfl rfl (Nat.le_of_ble_eq_true rfl) dX11_person_83 ?_
        intro r12 s13
        exact g_iret dX11_person_86
    · refine g_aload_n dX11_person_87 rfl rfl ?_
      refine g_aload_n dX11_person_88 rfl rfl ?_
      refine g_getr' (q := 8) fl_RX11_43 kh_0 (by decide) rfl dX11_person_89 ?_
      refine g_getr' (q := 14) fl_RX11_275 kh_8 (by decide) rfl dX11_person_92 ?_
      refine g_iload_n dX11_person_95 rfl rfl ?_
      refine g_iald kh_14 dX11_person_96 ?_
      intro x14
      refine g_callv0 (st := []) 9 mw_X11_give lk_RX11_194 rfl kh_0 (ok_H_give x14 s2) (Nat.le_of_ble_eq_true rfl) rfl rfl (Nat.le_of_ble_eq_true rfl) dX11_person_97 ?_
      intro r15 s16
      exact g_iret dX11_person_100
    · refine g_aload_n dX11_person_101 rfl rfl ?_
      refine g_aload_n dX11_person_102 rfl rfl ?_
      refine g_getr' (q := 8) fl_RX11_43 kh_0 (by decide) rfl dX11_person_103 ?_
      refine g_getr' (q := 15) fl_RX11_278 kh_8 (by decide) rfl dX11_person_106 ?_
      refine g_iload_n dX11_person_109 rfl rfl ?_
      refine g_iald kh_15 dX11_person_110 ?_
      intro x17
      refine g_callv0 (st := []) 9 mw_X11_give lk_RX11_194 rfl kh_0 (ok_H_give x17 s2) (Nat.le_of_ble_eq_true rfl) rfl rfl (Nat.le_of_ble_eq_true rfl) dX11_person_111 ?_
      intro r18 s19
      exact g_iret dX11_person_114
    · refine g_aload_n dX11_person_115 rfl rfl ?_
      refine g_aload_n dX11_person_116 rfl rfl ?_
      refine g_getr' (q := 8) fl_RX11_43 kh_0 (by decide) rfl dX11_person_117 ?_
      refine g_iload_n dX11_person_120 rfl rfl ?_
      refine g_callv0 (st := [.inr (.inr 0)]) 4 mw_X4_hairOf lk_RX11_281 rfl kh_8 (ok_Pr_hairOf 8 a1 kh_8 s2) (Nat.le_of_ble_eq_true rfl) rfl rfl (Nat.le_of_ble_eq_true rfl) dX11_person_121 ?_
      intro r20 s21
      refine g_callv0 (st := []) 9 mw_X11_give lk_RX11_194 rfl kh_0 (ok_H_give r20 s21) (Nat.le_of_ble_eq_true rfl) rfl rfl (Nat.le_of_ble_eq_true rfl) dX11_person_124 ?_
      intro r22 s23
      exact g_iret dX11_person_127
    · refine g_aload_n dX11_person_128 rfl rfl ?_
      refine g_iconst dX11_person_129 (by decide) ?_
      refine g_callv0 (st := []) 9 mw_X11_fail lk_RX11_147 rfl kh_0 (ok_H_fail 5 s2) (Nat.le_of_ble_eq_true rfl) rfl rfl (Nat.le_of_ble_eq_true rfl) dX11_person_130 ?_
      intro r24 s25
      exact g_iret dX11_person_133
theorem dX11_placeStatus_0 : decode cX11_placeStatus 0 = .ok (.aload_n 0, 1) := by decide +kernel
theorem dX11_placeStatus_1 : decode cX11_placeStatus 1 = .ok (.iload_n 1, 1) := by decide +kernel
theorem dX11_placeStatus_2 : decode cX11_placeStatus 2 = .ok (.invokevirtual 128, 3) := by decide +kernel
theorem dX11_placeStatus_5 : decode cX11_placeStatus 5 = .ok (.istore_n 3, 1) := by decide +kernel
theorem dX11_placeStatus_6 : decode cX11_placeStatus 6 = .ok (.iload_n 3, 1) := by decide +kernel
theorem dX11_placeStatus_7 : decode cX11_placeStatus 7 = .ok (.ifCond .eq 5, 3) := by decide +kernel
theorem dX11_placeStatus_10 : decode cX11_placeStatus 10 = .ok (.iload_n 3, 1) := by decide +kernel
theorem dX11_placeStatus_11 : decode cX11_placeStatus 11 = .ok (.ireturn, 1) := by decide +kernel
theorem dX11_placeStatus_12 : decode cX11_placeStatus 12 = .ok (.iload_n 2, 1) := by decide +kernel
theorem dX11_placeStatus_13 : decode cX11_placeStatus 13 = .ok (.iconst 0, 1) := by decide +kernel
theorem dX11_placeStatus_14 : decode cX11_placeStatus 14 = .ok (.aload_n 0, 1) := by decide +kernel
theorem dX11_placeStatus_15 : decode cX11_placeStatus 15 = .ok (.getfield 29, 3) := by decide +kernel
theorem dX11_placeStatus_18 : decode cX11_placeStatus 18 = .ok (.iload_n 1, 1) := by decide +kernel
theorem dX11_placeStatus_19 : decode cX11_placeStatus 19 = .ok (.invokevirtual 132, 3) := by decide +kernel
theorem dX11_placeStatus_22 : decode cX11_placeStatus 22 = .ok (.iconst 1, 1) := by decide +kernel
theorem dX11_placeStatus_23 : decode cX11_placeStatus 23 = .ok (.isub, 1) := by decide +kernel
theorem dX11_placeStatus_24 : decode cX11_placeStatus 24 = .ok (.invokestatic 135, 3) := by decide +kernel
theorem dX11_placeStatus_27 : decode cX11_placeStatus 27 = .ok (.ifCond .eq 7, 3) := by decide +kernel
theorem dX11_placeStatus_30 : decode cX11_placeStatus 30 = .ok (.iconst 0, 1) := by decide +kernel
theorem dX11_placeStatus_31 : decode cX11_placeStatus 31 = .ok (.goto 4, 3) := by decide +kernel
theorem dX11_placeStatus_34 : decode cX11_placeStatus 34 = .ok (.iconst 4, 1) := by decide +kernel
theorem dX11_placeStatus_35 : decode cX11_placeStatus 35 = .ok (.ireturn, 1) := by decide +kernel
theorem mw_X11_placeStatus : MW yX11_placeStatus cX11_placeStatus 4 0 2 false := ⟨tm 727 (by decide +kernel) rfl, tm 235 (by decide +kernel) rfl, by decide, by decide, (by rw [if_neg (by decide)]; exact ⟨tm 726 (by decide +kernel) rfl, tm 5 (by decide +kernel) rfl⟩)⟩
def H_placeStatus (a1 : Int) (a2 : Int) (σ : Sg) : Rs := (bd (H_trayStatus a1 σ) (fun r1 s2 => (if r1 = 0 then (bd (Tr_sizeOf a1 s2) (fun r3 s4 => (bd (H_within a2 0 (w32 (r3 - 1)) s4) (fun r5 s6 => (if r5 = 0 then (some (4, s6)) else (some (0, s6))))))) else (some (r1, s2)))))
theorem ok_H_placeStatus (a1 : Int) (a2 : Int) (σ : Sg) : MC l Kh Ph yX11_placeStatus cX11_placeStatus 4 0 4 [.inr (.inr 0), .inl a1, .inl a2] σ (H_placeStatus a1 a2 σ) := by
  refine mc_of (by decide) (Nat.le_of_ble_eq_true rfl) ?_
  change G l Kh Ph RX11 cX11_placeStatus 4 0 4 0 [some (.inr (.inr 0)), some (.inl a1), some (.inl a2), none] [] σ (H_placeStatus a1 a2 σ)
  unfold H_placeStatus
  refine g_aload_n dX11_placeStatus_0 rfl rfl ?_
  refine g_iload_n dX11_placeStatus_1 rfl rfl ?_
  refine g_callv0 (st := []) 9 mw_X11_trayStatus lk_RX11_128 rfl kh_0 (ok_H_trayStatus a1 σ) (Nat.le_of_ble_eq_true rfl) rfl rfl (Nat.le_of_ble_eq_true rfl) dX11_placeStatus_2 ?_
  intro r1 s2
  refine g_istore_n (lv' := [some (.inr (.inr 0)), some (.inl a1), some (.inl a2), some (.inl r1)]) dX11_placeStatus_5 rfl (Nat.le_of_ble_eq_true rfl) rfl ?_
  refine g_iload_n dX11_placeStatus_6 rfl rfl ?_
  refine g_ifeq (tgt := 12) dX11_placeStatus_7 (by decide) ?_ ?_
  · refine g_iload_n dX11_placeStatus_12 rfl rfl ?_
    refine g_iconst dX11_placeStatus_13 (by decide) ?_
    refine g_aload_n dX11_placeStatus_14 rfl rfl ?_
    refine g_getr' (q := 1) fl_RX11_29 kh_0 (by decide) rfl dX11_placeStatus_15 ?_
    refine g_iload_n dX11_placeStatus_18 rfl rfl ?_
    refine g_callv0 (st := [.inl 0, .inl a2]) 7 mw_X8_sizeOf lk_RX11_132 rfl kh_1 (ok_Tr_sizeOf a1 s2) (Nat.le_of_ble_eq_true rfl) rfl rfl (Nat.le_of_ble_eq_true rfl) dX11_placeStatus_19 ?_
    intro r3 s4
    refine g_iconst dX11_placeStatus_22 (by decide) ?_
    refine g_isub dX11_placeStatus_23 ?_
    refine g_calls3 (st := []) mw_X11_within lk_RX11_135 (ok_H_within a2 0 (w32 (r3 - 1)) s4) (Nat.le_of_ble_eq_true rfl) rfl rfl (Nat.le_of_ble_eq_true rfl) dX11_placeStatus_24 ?_
    intro r5 s6
    refine g_ifeq (tgt := 34) dX11_placeStatus_27 (by decide) ?_ ?_
    · refine g_iconst dX11_placeStatus_34 (by decide) ?_
      exact g_iret dX11_placeStatus_35
    · refine g_iconst dX11_placeStatus_30 (by decide) ?_
      refine g_goto (tgt := 35) dX11_placeStatus_31 (by decide) ?_
      exact g_iret dX11_placeStatus_35
  · refine g_iload_n dX11_placeStatus_10 rfl rfl ?_
    exact g_iret dX11_placeStatus_11
theorem dX3_clear_0 : decode cX3_clear 0 = .ok (.iconst 0, 1) := by decide +kernel
theorem dX3_clear_1 : decode cX3_clear 1 = .ok (.istore_n 1, 1) := by decide +kernel
theorem dX3_clear_2 : decode cX3_clear 2 = .ok (.iload_n 1, 1) := by decide +kernel
theorem dX3_clear_3 : decode cX3_clear 3 = .ok (.bipush 8, 2) := by decide +kernel
theorem dX3_clear_5 : decode cX3_clear 5 = .ok (.if_icmp .ge 16, 3) := by decide +kernel
theorem dX3_clear_8 : decode cX3_clear 8 = .ok (.aload_n 0, 1) := by decide +kernel
theorem dX3_clear_9 : decode cX3_clear 9 = .ok (.getfield 9, 3) := by decide +kernel
theorem dX3_clear_12 : decode cX3_clear 12 = .ok (.iload_n 1, 1) := by decide +kernel
theorem dX3_clear_13 : decode cX3_clear 13 = .ok (.iconst 0, 1) := by decide +kernel
theorem dX3_clear_14 : decode cX3_clear 14 = .ok (.iastore, 1) := by decide +kernel
theorem dX3_clear_15 : decode cX3_clear 15 = .ok (.iinc 1 1, 3) := by decide +kernel
theorem dX3_clear_18 : decode cX3_clear 18 = .ok (.goto (-16), 3) := by decide +kernel
theorem dX3_clear_21 : decode cX3_clear 21 = .ok (.return_, 1) := by decide +kernel
theorem mw_X3_clear : MW yX3_clear cX3_clear 2 2 0 false := ⟨tm 1383 (by decide +kernel) rfl, tm 247 (by decide +kernel) rfl, by decide, by decide, (by rw [if_neg (by decide)]; exact ⟨tm 1382 (by decide +kernel) rfl, tm 95 (by decide +kernel) rfl⟩)⟩
theorem fl_RX3_9 : FL RX3 9 3 0 := ⟨_, _, _, _, cw_3, by decide, Or.inr (Or.inr (Or.inr (by decide))), Or.inl (by decide), Or.inl (tm 592 (by decide +kernel) rfl)⟩
def Pl_clear_L2  : Nat → Int → Sg → Rs
  | 0, _, _ => none
  | n + 1, v1, σ => (if v1 < 8 then (wr 8 v1 (up_s σ 106 (Int.toNat v1) 0) (fun s1 => (nm (w32 (v1 + 1)) (fun x2 => (Pl_clear_L2 n x2 s1))))) else (some (0, σ)))
theorem ok_Pl_clear_L2 : ∀ (n : Nat) (v1 : Int) (σ : Sg), G l Kh Ph RX3 cX3_clear 2 2 1 2 [some (.inr (.inr 105)), some (.inl v1)] [] σ (Pl_clear_L2  n v1 σ) := by
  intro n
  induction n with
  | zero => intros; exact G.none_
  | succ n ih =>
    intro v1 σ
    rw [Pl_clear_L2]
    refine g_iload_n dX3_clear_2 rfl rfl ?_
    refine g_bipush dX3_clear_3 (by decide) ?_
    refine g_icmpge (tgt := 21) dX3_clear_5 (by decide) ?_ ?_
    · refine g_aload_n dX3_clear_8 rfl rfl ?_
      refine g_getr' (q := 106) fl_RX3_9 kh_105 (by decide) rfl dX3_clear_9 ?_
      refine g_iload_n dX3_clear_12 rfl rfl ?_
      refine g_iconst dX3_clear_13 (by decide) ?_
      refine g_iast kh_106 dX3_clear_14 ?_
      intro s1
      refine n_iinc (fun x2 => [some (.inr (.inr 105)), some (.inl x2)]) dX3_clear_15 rfl (Nat.le_of_ble_eq_true rfl) (fun _ => rfl) ?_
      intro x2
      refine g_goto (tgt := 2) dX3_clear_18 (by decide) ?_
      exact (ih x2 s1)
    · exact g_vret dX3_clear_21
def Pl_clear  (σ : Sg) : Rs := (Pl_clear_L2 fu 0 σ)
theorem ok_Pl_clear (σ : Sg) : MC l Kh Ph yX3_clear cX3_clear 2 2 1 [.inr (.inr 105)] σ (Pl_clear σ) := by
  refine mc_of (by decide) (Nat.le_of_ble_eq_true rfl) ?_
  change G l Kh Ph RX3 cX3_clear 2 2 1 0 [some (.inr (.inr 105)), none] [] σ (Pl_clear  σ)
  unfold Pl_clear
  refine g_iconst dX3_clear_0 (by decide) ?_
  refine g_istore_n (lv' := [some (.inr (.inr 105)), some (.inl 0)]) dX3_clear_1 rfl (Nat.le_of_ble_eq_true rfl) rfl ?_
  refine (ok_Pl_clear_L2 fu 0 σ)
theorem dX3_putAhead_0 : decode cX3_putAhead 0 = .ok (.iload_n 2, 1) := by decide +kernel
theorem dX3_putAhead_1 : decode cX3_putAhead 1 = .ok (.iconst 0, 1) := by decide +kernel
theorem dX3_putAhead_2 : decode cX3_putAhead 2 = .ok (.bipush 7, 2) := by decide +kernel
theorem dX3_putAhead_4 : decode cX3_putAhead 4 = .ok (.invokestatic 18, 3) := by decide +kernel
theorem dX3_putAhead_7 : decode cX3_putAhead 7 = .ok (.ifCond .eq 35, 3) := by decide +kernel
theorem dX3_putAhead_10 : decode cX3_putAhead 10 = .ok (.iload_n 3, 1) := by decide +kernel
theorem dX3_putAhead_11 : decode cX3_putAhead 11 = .ok (.iconst 0, 1) := by decide +kernel
theorem dX3_putAhead_12 : decode cX3_putAhead 12 = .ok (.bipush 7, 2) := by decide +kernel
theorem dX3_putAhead_14 : decode cX3_putAhead 14 = .ok (.invokestatic 18, 3) := by decide +kernel
theorem dX3_putAhead_17 : decode cX3_putAhead 17 = .ok (.ifCond .eq 25, 3) := by decide +kernel
theorem dX3_putAhead_20 : decode cX3_putAhead 20 = .ok (.iload_n 1, 1) := by decide +kernel
theorem dX3_putAhead_21 : decode cX3_putAhead 21 = .ok (.iload_n 2, 1) := by decide +kernel
theorem dX3_putAhead_22 : decode cX3_putAhead 22 = .ok (.ishr, 1) := by decide +kernel
theorem dX3_putAhead_23 : decode cX3_putAhead 23 = .ok (.iconst 1, 1) := by decide +kernel
theorem dX3_putAhead_24 : decode cX3_putAhead 24 = .ok (.iand, 1) := by decide +kernel
theorem dX3_putAhead_25 : decode cX3_putAhead 25 = .ok (.iconst 1, 1) := by decide +kernel
theorem dX3_putAhead_26 : decode cX3_putAhead 26 = .ok (.if_icmp .ne 16, 3) := by decide +kernel
theorem dX3_putAhead_29 : decode cX3_putAhead 29 = .ok (.iload_n 1, 1) := by decide +kernel
theorem dX3_putAhead_30 : decode cX3_putAhead 30 = .ok (.iload_n 3, 1) := by decide +kernel
theorem dX3_putAhead_31 : decode cX3_putAhead 31 = .ok (.ishr, 1) := by decide +kernel
theorem dX3_putAhead_32 : decode cX3_putAhead 32 = .ok (.iconst 1, 1) := by decide +kernel
theorem dX3_putAhead_33 : decode cX3_putAhead 33 = .ok (.iand, 1) := by decide +kernel
theorem dX3_putAhead_34 : decode cX3_putAhead 34 = .ok (.iconst 1, 1) := by decide +kernel
theorem dX3_putAhead_35 : decode cX3_putAhead 35 = .ok (.if_icmp .ne 7, 3) := by decide +kernel
theorem dX3_putAhead_38 : decode cX3_putAhead 38 = .ok (.iconst 1, 1) := by decide +kernel
theorem dX3_putAhead_39 : decode cX3_putAhead 39 = .ok (.goto 4, 3) := by decide +kernel
theorem dX3_putAhead_42 : decode cX3_putAhead 42 = .ok (.iconst 0, 1) := by decide +kernel
theorem dX3_putAhead_43 : decode cX3_putAhead 43 = .ok (.istore 4, 2) := by decide +kernel
theorem dX3_putAhead_45 : decode cX3_putAhead 45 = .ok (.iload 4, 2) := by decide +kernel
theorem dX3_putAhead_47 : decode cX3_putAhead 47 = .ok (.ifCond .eq 15, 3) := by decide +kernel
theorem dX3_putAhead_50 : decode cX3_putAhead 50 = .ok (.aload_n 0, 1) := by decide +kernel
theorem dX3_putAhead_51 : decode cX3_putAhead 51 = .ok (.getfield 9, 3) := by decide +kernel
theorem dX3_putAhead_54 : decode cX3_putAhead 54 = .ok (.iload_n 3, 1) := by decide +kernel
theorem dX3_putAhead_55 : decode cX3_putAhead 55 = .ok (.dup2, 1) := by decide +kernel
theorem dX3_putAhead_56 : decode cX3_putAhead 56 = .ok (.iaload, 1) := by decide +kernel
theorem dX3_putAhead_57 : decode cX3_putAhead 57 = .ok (.iconst 1, 1) := by decide +kernel
theorem dX3_putAhead_58 : decode cX3_putAhead 58 = .ok (.iload_n 2, 1) := by decide +kernel
theorem dX3_putAhead_59 : decode cX3_putAhead 59 = .ok (.ishl, 1) := by decide +kernel
theorem dX3_putAhead_60 : decode cX3_putAhead 60 = .ok (.ior, 1) := by decide +kernel
theorem dX3_putAhead_61 : decode cX3_putAhead 61 = .ok (.iastore, 1) := by decide +kernel
theorem dX3_putAhead_62 : decode cX3_putAhead 62 = .ok (.return_, 1) := by decide +kernel
theorem mw_X3_putAhead : MW yX3_putAhead cX3_putAhead 5 2 3 false := ⟨tm 1387 (by decide +kernel) rfl, tm 247 (by decide +kernel) rfl, by decide, by decide, (by rw [if_neg (by decide)]; exact ⟨tm 1386 (by decide +kernel) rfl, tm 96 (by decide +kernel) rfl⟩)⟩
theorem lk_RX3_18 : LK RX3 18 yX11_within := Or.inr ⟨"HairProvince", tm 1388 (by decide +kernel) rfl⟩
def Pl_putAhead_J43 (a2 : Int) (a3 : Int) (t0 : Int) (σ : Sg) : Rs := (if t0 = 0 then (some (0, σ)) else (rd 8 a3 (σ 106 (Int.toNat a3)) (fun x3 => (wr 8 a3 (up_s σ 106 (Int.toNat a3) (or32 x3 (sl32 1 a2))) (fun s4 => (some (0, s4)))))))
theorem ok_Pl_putAhead_J43 (a2 : Int) (a3 : Int) : ∀ (t0 : Int) (σ : Sg), G l Kh Ph RX3 cX3_putAhead 5 2 2 43 [some (.inr (.inr 105)), none, some (.inl a2), some (.inl a3), none] [.inl t0] σ (Pl_putAhead_J43 a2 a3 t0 σ) := by
  intro t0 σ
  unfold Pl_putAhead_J43
  refine g_istore (lv' := [some (.inr (.inr 105)), none, some (.inl a2), some (.inl a3), some (.inl t0)]) dX3_putAhead_43 (Nat.le_of_ble_eq_true rfl) rfl ?_
  refine g_iload dX3_putAhead_45 rfl ?_
  refine g_ifeq (tgt := 62) dX3_putAhead_47 (by decide) ?_ ?_
  · exact g_vret dX3_putAhead_62
  · refine g_aload_n dX3_putAhead_50 rfl rfl ?_
    refine g_getr' (q := 106) fl_RX3_9 kh_105 (by decide) rfl dX3_putAhead_51 ?_
    refine g_iload_n dX3_putAhead_54 rfl rfl ?_
    refine g_dup2 dX3_putAhead_55 rfl rfl ?_
    refine g_iald kh_106 dX3_putAhead_56 ?_
    intro x3
    refine g_iconst dX3_putAhead_57 (by decide) ?_
    refine g_iload_n dX3_putAhead_58 rfl rfl ?_
    refine g_ishl dX3_putAhead_59 ?_
    refine g_ior dX3_putAhead_60 ?_
    refine g_iast kh_106 dX3_putAhead_61 ?_
    intro s4
    exact g_vret dX3_putAhead_62
def Pl_putAhead_J42 (a2 : Int) (a3 : Int) (σ : Sg) : Rs := (Pl_putAhead_J43 a2 a3 0 σ)
theorem ok_Pl_putAhead_J42 (a2 : Int) (a3 : Int) : ∀ (σ : Sg), G l Kh Ph RX3 cX3_putAhead 5 2 2 42 [some (.inr (.inr 105)), none, some (.inl a2), some (.inl a3), none] [] σ (Pl_putAhead_J42 a2 a3  σ) := by
  intro σ
  unfold Pl_putAhead_J42
  refine g_iconst dX3_putAhead_42 (by decide) ?_
  refine (ok_Pl_putAhead_J43 a2 a3 0 σ)
def Pl_putAhead (a1 : Int) (a2 : Int) (a3 : Int) (σ : Sg) : Rs := (bd (H_within a2 0 7 σ) (fun r1 s2 => (if r1 = 0 then (Pl_putAhead_J42 a2 a3 s2) else (bd (H_within a3 0 7 s2) (fun r5 s6 => (if r5 = 0 then (Pl_putAhead_J42 a2 a3 s6) else (if (an32 (sr32 a1 a2) 1) = 1 then (if (an32 (sr32 a1 a3) 1) = 1 then (Pl_putAhead_J43 a2 a3 1 s6) else (Pl_putAhead_J42 a2 a3 s6)) else (Pl_putAhead_J42 a2 a3 s6))))))))
theorem ok_Pl_putAhead (a1 : Int) (a2 : Int) (a3 : Int) (σ : Sg) : MC l Kh Ph yX3_putAhead cX3_putAhead 5 2 2 [.inr (.inr 105), .inl a1, .inl a2, .inl a3] σ (Pl_putAhead a1 a2 a3 σ) := by
  refine mc_of (by decide) (Nat.le_of_ble_eq_true rfl) ?_
  change G l Kh Ph RX3 cX3_putAhead 5 2 2 0 [some (.inr (.inr 105)), some (.inl a1), some (.inl a2), some (.inl a3), none] [] σ (Pl_putAhead a1 a2 a3 σ)
  unfold Pl_putAhead
  refine g_iload_n dX3_putAhead_0 rfl rfl ?_
  refine g_iconst dX3_putAhead_1 (by decide) ?_
  refine g_bipush dX3_putAhead_2 (by decide) ?_
  refine g_calls3 (st := []) mw_X11_within lk_RX3_18 (ok_H_within a2 0 7 σ) (Nat.le_of_ble_eq_true rfl) rfl rfl (Nat.le_of_ble_eq_true rfl) dX3_putAhead_4 ?_
  intro r1 s2
  refine g_ifeq (tgt := 42) dX3_putAhead_7 (by decide) ?_ ?_
  · refine (g_weak [true, false, true, true, false] (ok_Pl_putAhead_J42 a2 a3 s2))
  · refine g_iload_n dX3_putAhead_10 rfl rfl ?_
    refine g_iconst dX3_putAhead_11 (by decide) ?_
    refine g_bipush dX3_putAhead_12 (by decide) ?_
    refine g_calls3 (st := []) mw_X11_within lk_RX3_18 (ok_H_within a3 0 7 s2) (Nat.le_of_ble_eq_true rfl) rfl rfl (Nat.le_of_ble_eq_true rfl) dX3_putAhead_14 ?_
    intro r5 s6
    refine g_ifeq (tgt := 42) dX3_putAhead_17 (by decide) ?_ ?_
    · refine (g_weak [true, false, true, true, false] (ok_Pl_putAhead_J42 a2 a3 s6))
    · refine g_iload_n dX3_putAhead_20 rfl rfl ?_
      refine g_iload_n dX3_putAhead_21 rfl rfl ?_
      refine g_ishr dX3_putAhead_22 ?_
      refine g_iconst dX3_putAhead_23 (by decide) ?_
      refine g_iand dX3_putAhead_24 ?_
      refine g_iconst dX3_putAhead_25 (by decide) ?_
      refine g_icmpne (tgt := 42) dX3_putAhead_26 (by decide) ?_ ?_
      · refine g_iload_n dX3_putAhead_29 rfl rfl ?_
        refine g_iload_n dX3_putAhead_30 rfl rfl ?_
        refine g_ishr dX3_putAhead_31 ?_
        refine g_iconst dX3_putAhead_32 (by decide) ?_
        refine g_iand dX3_putAhead_33 ?_
        refine g_iconst dX3_putAhead_34 (by decide) ?_
        refine g_icmpne (tgt := 42) dX3_putAhead_35 (by decide) ?_ ?_
        · refine g_iconst dX3_putAhead_38 (by decide) ?_
          refine g_goto (tgt := 43) dX3_putAhead_39 (by decide) ?_
          refine (g_weak [true, false, true, true, false] (ok_Pl_putAhead_J43 a2 a3 1 s6))
        · refine (g_weak [true, false, true, true, false] (ok_Pl_putAhead_J42 a2 a3 s6))
      · refine (g_weak [true, false, true, true, false] (ok_Pl_putAhead_J42 a2 a3 s6))
theorem dX11_plaitStatus_0 : decode cX11_plaitStatus 0 = .ok (.aload_n 0, 1) := by decide +kernel
theorem dX11_plaitStatus_1 : decode cX11_plaitStatus 1 = .ok (.iload_n 2, 1) := by decide +kernel
theorem dX11_plaitStatus_2 : decode cX11_plaitStatus 2 = .ok (.iload_n 3, 1) := by decide +kernel
theorem dX11_plaitStatus_3 : decode cX11_plaitStatus 3 = .ok (.invokevirtual 351, 3) := by decide +kernel
theorem dX11_plaitStatus_6 : decode cX11_plaitStatus 6 = .ok (.istore 4, 2) := by decide +kernel
theorem dX11_plaitStatus_8 : decode cX11_plaitStatus 8 = .ok (.iload 4, 2) := by decide +kernel
theorem dX11_plaitStatus_10 : decode cX11_plaitStatus 10 = .ok (.ifCond .eq 6, 3) := by decide +kernel
theorem dX11_plaitStatus_13 : decode cX11_plaitStatus 13 = .ok (.iload 4, 2) := by decide +kernel
theorem dX11_plaitStatus_15 : decode cX11_plaitStatus 15 = .ok (.ireturn, 1) := by decide +kernel
theorem dX11_plaitStatus_16 : decode cX11_plaitStatus 16 = .ok (.aload_n 0, 1) := by decide +kernel
theorem dX11_plaitStatus_17 : decode cX11_plaitStatus 17 = .ok (.getfield 43, 3) := by decide +kernel
theorem dX11_plaitStatus_20 : decode cX11_plaitStatus 20 = .ok (.iload_n 1, 1) := by decide +kernel
theorem dX11_plaitStatus_21 : decode cX11_plaitStatus 21 = .ok (.invokevirtual 376, 3) := by decide +kernel
theorem dX11_plaitStatus_24 : decode cX11_plaitStatus 24 = .ok (.ifCond .ne 5, 3) := by decide +kernel
theorem dX11_plaitStatus_27 : decode cX11_plaitStatus 27 = .ok (.iconst 5, 1) := by decide +kernel
theorem dX11_plaitStatus_28 : decode cX11_plaitStatus 28 = .ok (.ireturn, 1) := by decide +kernel
theorem dX11_plaitStatus_29 : decode cX11_plaitStatus 29 = .ok (.aload_n 0, 1) := by decide +kernel
theorem dX11_plaitStatus_30 : decode cX11_plaitStatus 30 = .ok (.getfield 96, 3) := by decide +kernel
theorem dX11_plaitStatus_33 : decode cX11_plaitStatus 33 = .ok (.invokevirtual 392, 3) := by decide +kernel
theorem dX11_plaitStatus_36 : decode cX11_plaitStatus 36 = .ok (.iconst 0, 1) := by decide +kernel
theorem dX11_plaitStatus_37 : decode cX11_plaitStatus 37 = .ok (.istore 5, 2) := by decide +kernel
theorem dX11_plaitStatus_39 : decode cX11_plaitStatus 39 = .ok (.iload 5, 2) := by decide +kernel
theorem dX11_plaitStatus_41 : decode cX11_plaitStatus 41 = .ok (.iload_n 3, 1) := by decide +kernel
theorem dX11_plaitStatus_42 : decode cX11_plaitStatus 42 = .ok (.if_icmp .ge 97, 3) := by decide +kernel
theorem dX11_plaitStatus_45 : decode cX11_plaitStatus 45 = .ok (.aload_n 0, 1) := by decide +kernel
theorem dX11_plaitStatus_46 : decode cX11_plaitStatus 46 = .ok (.getfield 29, 3) := by decide +kernel
theorem dX11_plaitStatus_49 : decode cX11_plaitStatus 49 = .ok (.iload_n 2, 1) := by decide +kernel
theorem dX11_plaitStatus_50 : decode cX11_plaitStatus 50 = .ok (.iconst 2, 1) := by decide +kernel
theorem dX11_plaitStatus_51 : decode cX11_plaitStatus 51 = .ok (.iload 5, 2) := by decide +kernel
theorem dX11_plaitStatus_53 : decode cX11_plaitStatus 53 = .ok (.imul, 1) := by decide +kernel
theorem dX11_plaitStatus_54 : decode cX11_plaitStatus 54 = .ok (.invokevirtual 150, 3) := by decide +kernel
theorem dX11_plaitStatus_57 : decode cX11_plaitStatus 57 = .ok (.lstore 6, 2) := by decide +kernel
theorem dX11_plaitStatus_59 : decode cX11_plaitStatus 59 = .ok (.aload_n 0, 1) := by decide +kernel
theorem dX11_plaitStatus_60 : decode cX11_plaitStatus 60 = .ok (.getfield 29, 3) := by decide +kernel
theorem dX11_plaitStatus_63 : decode cX11_plaitStatus 63 = .ok (.iload_n 2, 1) := by decide +kernel
theorem dX11_plaitStatus_64 : decode cX11_plaitStatus 64 = .ok (.iconst 2, 1) := by decide +kernel
theorem dX11_plaitStatus_65 : decode cX11_plaitStatus 65 = .ok (.iload 5, 2) := by decide +kernel
theorem dX11_plaitStatus_67 : decode cX11_plaitStatus 67 = .ok (.imul, 1) := by decide +kernel
theorem dX11_plaitStatus_68 : decode cX11_plaitStatus 68 = .ok (.iconst 1, 1) := by decide +kernel
theorem dX11_plaitStatus_69 : decode cX11_plaitStatus 69 = .ok (.iadd, 1) := by decide +kernel
theorem dX11_plaitStatus_70 : decode cX11_plaitStatus 70 = .ok (.invokevirtual 150, 3) := by decide +kernel
theorem dX11_plaitStatus_73 : decode cX11_plaitStatus 73 = .ok (.lstore 8, 2) := by decide +kernel
theorem dX11_plaitStatus_75 : decode cX11_plaitStatus 75 = .ok (.lload 6, 2) := by decide +kernel
theorem dX11_plaitStatus_77 : decode cX11_plaitStatus 77 = .ok (.lconst 0, 1) := by decide +kernel
theorem dX11_plaitStatus_78 : decode cX11_plaitStatus 78 = .ok (.lcmp, 1) := by decide +kernel
theorem dX11_plaitStatus_79 : decode cX11_plaitStatus 79 = .ok (.ifCond .lt 38, 3) := by decide +kernel
theorem dX11_plaitStatus_82 : decode cX11_plaitStatus 82 = .ok (.lload 6, 2) := by decide +kernel
theorem dX11_plaitStatus_84 : decode cX11_plaitStatus 84 = .ok (.aload_n 0, 1) := by decide +kernel
theorem dX11_plaitStatus_85 : decode cX11_plaitStatus 85 = .ok (.getfield 43, 3) := by decide +kernel
theorem dX11_plaitStatus_88 : decode cX11_plaitStatus 88 = .ok (.getfield 217, 3) := by decide +kernel
theorem dX11_plaitStatus_91 : decode cX11_plaitStatus 91 = .ok (.i2l, 1) := by decide +kernel
theorem dX11_plaitStatus_92 : decode cX11_plaitStatus 92 = .ok (.lcmp, 1) := by decide +kernel
theorem dX11_plaitStatus_93 : decode cX11_plaitStatus 93 = .ok (.ifCond .ge 24, 3) := by decide +kernel
theorem dX11_plaitStatus_96 : decode cX11_plaitStatus 96 = .ok (.lload 8, 2) := by decide +kernel
theorem dX11_plaitStatus_98 : decode cX11_plaitStatus 98 = .ok (.lconst 0, 1) := by decide +kernel
theorem dX11_plaitStatus_99 : decode cX11_plaitStatus 99 = .ok (.lcmp, 1) := by decide +kernel
theorem dX11_plaitStatus_100 : decode cX11_plaitStatus 100 = .ok (.ifCond .lt 17, 3) := by decide +kernel
theorem dX11_plaitStatus_103 : decode cX11_plaitStatus 103 = .ok (.lload 8, 2) := by decide +kernel
theorem dX11_plaitStatus_105 : decode cX11_plaitStatus 105 = .ok (.aload_n 0, 1) := by decide +kernel
theorem dX11_plaitStatus_106 : decode cX11_plaitStatus 106 = .ok (.getfield 43, 3) := by decide +kernel
theorem dX11_plaitStatus_109 : decode cX11_plaitStatus 109 = .ok (.getfield 217, 3) := by decide +kernel
theorem dX11_plaitStatus_112 : decode cX11_plaitStatus 112 = .ok (.i2l, 1) := by decide +kernel
theorem dX11_plaitStatus_113 : decode cX11_plaitStatus 113 = .ok (.lcmp, 1) := by decide +kernel
theorem dX11_plaitStatus_114 : decode cX11_plaitStatus 114 = .ok (.ifCond .lt 5, 3) := by decide +kernel
theorem dX11_plaitStatus_117 : decode cX11_plaitStatus 117 = .ok (.iconst 5, 1) := by decide +kernel
theorem dX11_plaitStatus_118 : decode cX11_plaitStatus 118 = .ok (.ireturn, 1) := by decide +kernel
theorem dX11_plaitStatus_119 : decode cX11_plaitStatus 119 = .ok (.aload_n 0, 1) := by decide +kernel
theorem dX11_plaitStatus_120 : decode cX11_plaitStatus 120 = .ok (.getfield 96, 3) := by decide +kernel
theorem dX11_plaitStatus_123 : decode cX11_plaitStatus 123 = .ok (.iload_n 1, 1) := by decide +kernel
theorem dX11_plaitStatus_124 : decode cX11_plaitStatus 124 = .ok (.lload 6, 2) := by decide +kernel
theorem dX11_plaitStatus_126 : decode cX11_plaitStatus 126 = .ok (.l2i, 1) := by decide +kernel
theorem dX11_plaitStatus_127 : decode cX11_plaitStatus 127 = .ok (.lload 8, 2) := by decide +kernel
theorem dX11_plaitStatus_129 : decode cX11_plaitStatus 129 = .ok (.l2i, 1) := by decide +kernel
theorem dX11_plaitStatus_130 : decode cX11_plaitStatus 130 = .ok (.invokevirtual 393, 3) := by decide +kernel
theorem dX11_plaitStatus_133 : decode cX11_plaitStatus 133 = .ok (.iinc 5 1, 3) := by decide +kernel
theorem dX11_plaitStatus_136 : decode cX11_plaitStatus 136 = .ok (.goto (-97), 3) := by decide +kernel
theorem dX11_plaitStatus_139 : decode cX11_plaitStatus 139 = .ok (.iconst 0, 1) := by decide +kernel
theorem dX11_plaitStatus_140 : decode cX11_plaitStatus 140 = .ok (.ireturn, 1) := by decide +kernel
theorem mw_X11_plaitStatus : MW yX11_plaitStatus cX11_plaitStatus 10 0 3 false := ⟨tm 1379 (by decide +kernel) rfl, tm 235 (by decide +kernel) rfl, by decide, by decide, (by rw [if_neg (by decide)]; exact ⟨tm 1378 (by decide +kernel) rfl, tm 94 (by decide +kernel) rfl⟩)⟩
theorem lk_RX11_392 : LK RX11 392 yX3_clear := Or.inr ⟨"HairProvince", tm 1380 (by decide +kernel) rfl⟩
theorem lk_RX11_393 : LK RX11 393 yX3_putAhead := Or.inr ⟨"HairProvince", tm 1384 (by decide +kernel) rfl⟩
theorem fl_RX11_96 : FL RX11 96 9 18 := ⟨_, _, _, _, cw_9, by decide, Or.inr (Or.inr (Or.inr (by decide))), Or.inl (by decide), Or.inl (tm 640 (by decide +kernel) rfl)⟩
def H_plaitStatus_L39 (a1 : Int) (a2 : Int) (a3 : Int) : Nat → Int → Sg → Rs
  | 0, _, _ => none
  | n + 1, v5, σ => (if v5 < a3 then (bd (Tr_at a2 (w32 (2 * v5)) σ) (fun r7 s8 => (bd (Tr_at a2 (w32 ((w32 (2 * v5)) + 1)) s8) (fun r9 s10 => (if r7 < 0 then (some (5, s10)) else (if r7 < (s10 8 10) then (if r9 < 0 then (some (5, s10)) else (if r9 < (s10 8 10) then (bd (Pl_putAhead a1 (w32 r7) (w32 r9) s10) (fun r11 s12 => (nm (w32 (v5 + 1)) (fun x13 => (H_plaitStatus_L39 a1 a2 a3 n x13 s12))))) else (some (5, s10)))) else (some (5, s10)))))))) else (some (0, σ)))
theorem ok_H_plaitStatus_L39 (a1 : Int) (a2 : Int) (a3 : Int) : ∀ (n : Nat) (v5 : Int) (σ : Sg), G l Kh Ph RX11 cX11_plaitStatus 10 0 5 39 [some (.inr (.inr 0)), some (.inl a1), some (.inl a2), some (.inl a3), none, some (.inl v5), none, none, none, none] [] σ (H_plaitStatus_L39 a1 a2 a3 n v5 σ) := by
  intro n
  induction n with
  | zero => intros; exact G.none_
  | succ n ih =>
    intro v5 σ
    rw [H_plaitStatus_L39]
    refine g_iload dX11_plaitStatus_39 rfl ?_
    refine g_iload_n dX11_plaitStatus_41 rfl rfl ?_
    refine g_icmpge (tgt := 139) dX11_plaitStatus_42 (by decide) ?_ ?_
    · refine g_aload_n dX11_plaitStatus_45 rfl rfl ?_
      refine g_getr' (q := 1) fl_RX11_29 kh_0 (by decide) rfl dX11_plaitStatus_46 ?_
      refine g_iload_n dX11_plaitStatus_49 rfl rfl ?_
      refine g_iconst dX11_plaitStatus_50 (by decide) ?_
      refine g_iload dX11_plaitStatus_51 rfl ?_
      refine g_imul dX11_plaitStatus_53 ?_
      refine g_callv1 (st := []) 7 mw_X8_at lk_RX11_150 rfl kh_1 (ok_Tr_at a2 (w32 (2 * v5)) σ) (Nat.le_of_ble_eq_true rfl) rfl rfl (Nat.le_of_ble_eq_true rfl) dX11_plaitStatus_54 ?_
      intro r7 s8
      refine g_lstore (lv' := [some (.inr (.inr 0)), some (.inl a1), some (.inl a2), some (.inl a3), none, some (.inl v5), some (.inr (.inl r7)), none, none, none]) dX11_plaitStatus_57 (Nat.le_of_ble_eq_true rfl) rfl ?_
      refine g_aload_n dX11_plaitStatus_59 rfl rfl ?_
      refine g_getr' (q := 1) fl_RX11_29 kh_0 (by decide) rfl dX11_plaitStatus_60 ?_
      refine g_iload_n dX11_plaitStatus_63 rfl rfl ?_
      refine g_iconst dX11_plaitStatus_64 (by decide) ?_
      refine g_iload dX11_plaitStatus_65 rfl ?_
      refine g_imul dX11_plaitStatus_67 ?_
      refine g_iconst dX11_plaitStatus_68 (by decide) ?_
      refine g_iadd dX11_plaitStatus_69 ?_
      refine g_callv1 (st := []) 7 mw_X8_at lk_RX11_150 rfl kh_1 (ok_Tr_at a2 (w32 ((w32 (2 * v5)) + 1)) s8) (Nat.le_of_ble_eq_true rfl) rfl rfl (Nat.le_of_ble_eq_true rfl) dX11_plaitStatus_70 ?_
      intro r9 s10
      refine g_lstore (lv' := [some (.inr (.inr 0)), some (.inl a1), some (.inl a2), some (.inl a3), none, some (.inl v5), some (.inr (.inl r7)), none, some (.inr (.inl r9)), none]) dX11_plaitStatus_73 (Nat.le_of_ble_eq_true rfl) rfl ?_
      refine g_lload dX11_plaitStatus_75 rfl ?_
      refine g_lconst (v := 0) dX11_plaitStatus_77 (by decide) ?_
      refine g_lcmplt (tgt := 117) dX11_plaitStatus_78 dX11_plaitStatus_79 (by decide) ?_ ?_
      · refine g_iconst dX11_plaitStatus_117 (by decide) ?_
        exact g_iret dX11_plaitStatus_118
      · refine g_lload dX11_plaitStatus_82 rfl ?_
        refine g_aload_n dX11_plaitStatus_84 rfl rfl ?_
        refine g_getr' (q := 8) fl_RX11_43 kh_0 (by decide) rfl dX11_plaitStatus_85 ?_
        refine g_geti fl_RX11_217 kh_8 (by decide) dX11_plaitStatus_88 ?_
        refine g_i2l dX11_plaitStatus_91 ?_
        refine g_lcmpge (tgt := 117) dX11_plaitStatus_92 dX11_plaitStatus_93 (by decide) ?_ ?_
        · refine g_lload dX11_plaitStatus_96 rfl ?_
          refine g_lconst (v := 0) dX11_plaitStatus_98 (by decide) ?_
          refine g_lcmplt (tgt := 117) dX11_plaitStatus_99 dX11_plaitStatus_100 (by decide) ?_ ?_
          · refine g_iconst dX11_plaitStatus_117 (by decide) ?_
            exact g_iret dX11_plaitStatus_118
          · refine g_lload dX11_plaitStatus_103 rfl ?_
            refine g_aload_n dX11_plaitStatus_105 rfl rfl ?_
            refine g_getr' (q := 8) fl_RX11_43 kh_0 (by decide) rfl dX11_plaitStatus_106 ?_
            refine g_geti fl_RX11_217 kh_8 (by decide) dX11_plaitStatus_109 ?_
            refine g_i2l dX11_plaitStatus_112 ?_
            refine g_lcmplt (tgt := 119) dX11_plaitStatus_113 dX11_plaitStatus_114 (by decide) ?_ ?_
            · refine g_aload_n dX11_plaitStatus_119 rfl rfl ?_
              refine g_getr' (q := 105) fl_RX11_96 kh_0 (by decide) rfl dX11_plaitStatus_120 ?_
              refine g_iload_n dX11_plaitStatus_123 rfl rfl ?_
              refine g_lload dX11_plaitStatus_124 rfl ?_
              refine g_l2i dX11_plaitStatus_126 ?_
              refine g_lload dX11_plaitStatus_127 rfl ?_
              refine g_l2i dX11_plaitStatus_129 ?_
              refine g_callv2 (st := []) 3 mw_X3_putAhead lk_RX11_393 rfl kh_105 (ok_Pl_putAhead a1 (w32 r7) (w32 r9) s10) (Nat.le_of_ble_eq_true rfl) rfl rfl (Nat.le_of_ble_eq_true rfl) dX11_plaitStatus_130 ?_
              intro r11 s12
              refine n_iinc (fun x13 => [some (.inr (.inr 0)), some (.inl a1), some (.inl a2), some (.inl a3), none, some (.inl x13), some (.inr (.inl r7)), none, some (.inr (.inl r9)), none]) dX11_plaitStatus_133 rfl (Nat.le_of_ble_eq_true rfl) (fun _ => rfl) ?_
              intro x13
              refine g_goto (tgt := 39) dX11_plaitStatus_136 (by decide) ?_
              exact (g_weak [true, true, true, true, false, true, false, false, false, false] (ih x13 s12))
            · refine g_iconst dX11_plaitStatus_117 (by decide) ?_
              exact g_iret dX11_plaitStatus_118
        · refine g_iconst dX11_plaitStatus_117 (by decide) ?_
          exact g_iret dX11_plaitStatus_118
    · refine g_iconst dX11_plaitStatus_139 (by decide) ?_
      exact g_iret dX11_plaitStatus_140
def H_plaitStatus (a1 : Int) (a2 : Int) (a3 : Int) (σ : Sg) : Rs := (bd (H_twosStatus a2 a3 σ) (fun r1 s2 => (if r1 = 0 then (bd (Pr_isWordSet 8 a1 s2) (fun r3 s4 => (if r3 = 0 then (some (5, s4)) else (bd (Pl_clear s4) (fun r5 s6 => (H_plaitStatus_L39 a1 a2 a3 fu 0 s6)))))) else (some (r1, s2)))))
theorem ok_H_plaitStatus (a1 : Int) (a2 : Int) (a3 : Int) (σ : Sg) : MC l Kh Ph yX11_plaitStatus cX11_plaitStatus 10 0 5 [.inr (.inr 0), .inl a1, .inl a2, .inl a3] σ (H_plaitStatus a1 a2 a3 σ) := by
  refine mc_of (by decide) (Nat.le_of_ble_eq_true rfl) ?_
  change G l Kh Ph RX11 cX11_plaitStatus 10 0 5 0 [some (.inr (.inr 0)), some (.inl a1), some (.inl a2), some (.inl a3), none, none, none, none, none, none] [] σ (H_plaitStatus a1 a2 a3 σ)
  unfold H_plaitStatus
  refine g_aload_n dX11_plaitStatus_0 rfl rfl ?_
  refine g_iload_n dX11_plaitStatus_1 rfl rfl ?_
  refine g_iload_n dX11_plaitStatus_2 rfl rfl ?_
  refine g_callv0 (st := []) 9 mw_X11_twosStatus lk_RX11_351 rfl kh_0 (ok_H_twosStatus a2 a3 σ) (Nat.le_of_ble_eq_true rfl) rfl rfl (Nat.le_of_ble_eq_true rfl) dX11_plaitStatus_3 ?_
  intro r1 s2
  refine g_istore (lv' := [some (.inr (.inr 0)), some (.inl a1), some (.inl a2), some (.inl a3), some (.inl r1), none, none, none, none, none]) dX11_plaitStatus_6 (Nat.le_of_ble_eq_true rfl) rfl ?_
  refine g_iload dX11_plaitStatus_8 rfl ?_
  refine g_ifeq (tgt := 16) dX11_plaitStatus_10 (by decide) ?_ ?_
  · refine g_aload_n dX11_plaitStatus_16 rfl rfl ?_
    refine g_getr' (q := 8) fl_RX11_43 kh_0 (by decide) rfl dX11_plaitStatus_17 ?_
    refine g_iload_n dX11_plaitStatus_20 rfl rfl ?_
    refine g_callv3 (st := []) 4 mw_X4_isWordSet lk_RX11_376 rfl kh_8 (ok_Pr_isWordSet 8 a1 kh_8 s2) (Nat.le_of_ble_eq_true rfl) rfl rfl (Nat.le_of_ble_eq_true rfl) dX11_plaitStatus_21 ?_
    intro r3 s4
    refine g_ifne (tgt := 29) dX11_plaitStatus_24 (by decide) ?_ ?_
    · refine g_iconst dX11_plaitStatus_27 (by decide) ?_
      exact g_iret dX11_plaitStatus_28
    · refine g_aload_n dX11_plaitStatus_29 rfl rfl ?_
      refine g_getr' (q := 105) fl_RX11_96 kh_0 (by decide) rfl dX11_plaitStatus_30 ?_
      refine g_callv2 (st := []) 3 mw_X3_clear lk_RX11_392 rfl kh_105 (ok_Pl_clear s4) (Nat.le_of_ble_eq_true rfl) rfl rfl (Nat.le_of_ble_eq_true rfl) dX11_plaitStatus_33 ?_
      intro r5 s6
      refine g_iconst dX11_plaitStatus_36 (by decide) ?_
      refine g_istore (lv' := [some (.inr (.inr 0)), some (.inl a1), some (.inl a2), some (.inl a3), some (.inl r1), some (.inl 0), none, none, none, none]) dX11_plaitStatus_37 (Nat.le_of_ble_eq_true rfl) rfl ?_
      refine (g_weak [true, true, true, true, false, true, false, false, false, false] (ok_H_plaitStatus_L39 a1 a2 a3 fu 0 s6))
  · refine g_iload dX11_plaitStatus_13 rfl ?_
    exact g_iret dX11_plaitStatus_15
theorem dX3_canFollow_0 : decode cX3_canFollow 0 = .ok (.iload_n 1, 1) := by decide +kernel
theorem dX3_canFollow_1 : decode cX3_canFollow 1 = .ok (.iload_n 2, 1) := by decide +kernel
theorem dX3_canFollow_2 : decode cX3_canFollow 2 = .ok (.iconst (-1), 1) := by decide +kernel
theorem dX3_canFollow_3 : decode cX3_canFollow 3 = .ok (.ixor, 1) := by decide +kernel
theorem dX3_canFollow_4 : decode cX3_canFollow 4 = .ok (.iand, 1) := by decide +kernel
theorem dX3_canFollow_5 : decode cX3_canFollow 5 = .ok (.iconst 1, 1) := by decide +kernel
theorem dX3_canFollow_6 : decode cX3_canFollow 6 = .ok (.iload_n 3, 1) := by decide +kernel
theorem dX3_canFollow_7 : decode cX3_canFollow 7 = .ok (.ishl, 1) := by decide +kernel
theorem dX3_canFollow_8 : decode cX3_canFollow 8 = .ok (.iand, 1) := by decide +kernel
theorem dX3_canFollow_9 : decode cX3_canFollow 9 = .ok (.ifCond .eq 20, 3) := by decide +kernel
theorem dX3_canFollow_12 : decode cX3_canFollow 12 = .ok (.aload_n 0, 1) := by decide +kernel
theorem dX3_canFollow_13 : decode cX3_canFollow 13 = .ok (.getfield 9, 3) := by decide +kernel
theorem dX3_canFollow_16 : decode cX3_canFollow 16 = .ok (.iload_n 3, 1) := by decide +kernel
theorem dX3_canFollow_17 : decode cX3_canFollow 17 = .ok (.iaload, 1) := by decide +kernel
theorem dX3_canFollow_18 : decode cX3_canFollow 18 = .ok (.iload_n 2, 1) := by decide +kernel
theorem dX3_canFollow_19 : decode cX3_canFollow 19 = .ok (.iconst (-1), 1) := by decide +kernel
theorem dX3_canFollow_20 : decode cX3_canFollow 20 = .ok (.ixor, 1) := by decide +kernel
theorem dX3_canFollow_21 : decode cX3_canFollow 21 = .ok (.iand, 1) := by decide +kernel
theorem dX3_canFollow_22 : decode cX3_canFollow 22 = .ok (.ifCond .ne 7, 3) := by decide +kernel
theorem dX3_canFollow_25 : decode cX3_canFollow 25 = .ok (.iconst 1, 1) := by decide +kernel
theorem dX3_canFollow_26 : decode cX3_canFollow 26 = .ok (.goto 4, 3) := by decide +kernel
theorem dX3_canFollow_29 : decode cX3_canFollow 29 = .ok (.iconst 0, 1) := by decide +kernel
theorem dX3_canFollow_30 : decode cX3_canFollow 30 = .ok (.ireturn, 1) := by decide +kernel
theorem mw_X3_canFollow : MW yX3_canFollow cX3_canFollow 4 3 3 false := ⟨tm 1396 (by decide +kernel) rfl, tm 247 (by decide +kernel) rfl, by decide, by decide, (by rw [if_neg (by decide)]; exact ⟨tm 1395 (by decide +kernel) rfl, tm 98 (by decide +kernel) rfl⟩)⟩
def Pl_canFollow (a1 : Int) (a2 : Int) (a3 : Int) (σ : Sg) : Rs := (if (an32 (an32 a1 (xo32 a2 (-1))) (sl32 1 a3)) = 0 then (some (0, σ)) else (rd 8 a3 (σ 106 (Int.toNat a3)) (fun x1 => (if (an32 x1 (xo32 a2 (-1))) = 0 then (some (1, σ)) else (some (0, σ))))))
theorem ok_Pl_canFollow (a1 : Int) (a2 : Int) (a3 : Int) (σ : Sg) : MC l Kh Ph yX3_canFollow cX3_canFollow 4 3 1 [.inr (.inr 105), .inl a1, .inl a2, .inl a3] σ (Pl_canFollow a1 a2 a3 σ) := by
  refine mc_of (by decide) (Nat.le_of_ble_eq_true rfl) ?_
  change G l Kh Ph RX3 cX3_canFollow 4 3 1 0 [some (.inr (.inr 105)), some (.inl a1), some (.inl a2), some (.inl a3)] [] σ (Pl_canFollow a1 a2 a3 σ)
  unfold Pl_canFollow
  refine g_iload_n dX3_canFollow_0 rfl rfl ?_
  refine g_iload_n dX3_canFollow_1 rfl rfl ?_
  refine g_iconst dX3_canFollow_2 (by decide) ?_
  refine g_ixor dX3_canFollow_3 ?_
  refine g_iand dX3_canFollow_4 ?_
  refine g_iconst dX3_canFollow_5 (by decide) ?_
  refine g_iload_n dX3_canFollow_6 rfl rfl ?_
  refine g_ishl dX3_canFollow_7 ?_
  refine g_iand dX3_canFollow_8 ?_
  refine g_ifeq (tgt := 29) dX3_canFollow_9 (by decide) ?_ ?_
  · refine g_iconst dX3_canFollow_29 (by decide) ?_
    exact g_zret0 dX3_canFollow_30
  · refine g_aload_n dX3_canFollow_12 rfl rfl ?_
    refine g_getr' (q := 106) fl_RX3_9 kh_105 (by decide) rfl dX3_canFollow_13 ?_
    refine g_iload_n dX3_canFollow_16 rfl rfl ?_
    refine g_iald kh_106 dX3_canFollow_17 ?_
    intro x1
    refine g_iload_n dX3_canFollow_18 rfl rfl ?_
    refine g_iconst dX3_canFollow_19 (by decide) ?_
    refine g_ixor dX3_canFollow_20 ?_
    refine g_iand dX3_canFollow_21 ?_
    refine g_ifne (tgt := 29) dX3_canFollow_22 (by decide) ?_ ?_
    · refine g_iconst dX3_canFollow_25 (by decide) ?_
      refine g_goto (tgt := 30) dX3_canFollow_26 (by decide) ?_
      exact g_zret1 dX3_canFollow_30
    · refine g_iconst dX3_canFollow_29 (by decide) ?_
      exact g_zret0 dX3_canFollow_30
theorem dX3_firstFollowing_0 : decode cX3_firstFollowing 0 = .ok (.iconst 0, 1) := by decide +kernel
theorem dX3_firstFollowing_1 : decode cX3_firstFollowing 1 = .ok (.istore_n 3, 1) := by decide +kernel
theorem dX3_firstFollowing_2 : decode cX3_firstFollowing 2 = .ok (.iload_n 3, 1) := by decide +kernel
theorem dX3_firstFollowing_3 : decode cX3_firstFollowing 3 = .ok (.bipush 8, 2) := by decide +kernel
theorem dX3_firstFollowing_5 : decode cX3_firstFollowing 5 = .ok (.if_icmp .ge 21, 3) := by decide +kernel
theorem dX3_firstFollowing_8 : decode cX3_firstFollowing 8 = .ok (.aload_n 0, 1) := by decide +kernel
theorem dX3_firstFollowing_9 : decode cX3_firstFollowing 9 = .ok (.iload_n 1, 1) := by decide +kernel
theorem dX3_firstFollowing_10 : decode cX3_firstFollowing 10 = .ok (.iload_n 2, 1) := by decide +kernel
theorem dX3_firstFollowing_11 : decode cX3_firstFollowing 11 = .ok (.iload_n 3, 1) := by decide +kernel
theorem dX3_firstFollowing_12 : decode cX3_firstFollowing 12 = .ok (.invokevirtual 22, 3) := by decide +kernel
theorem dX3_firstFollowing_15 : decode cX3_firstFollowing 15 = .ok (.ifCond .eq 5, 3) := by decide +kernel
theorem dX3_firstFollowing_18 : decode cX3_firstFollowing 18 = .ok (.iload_n 3, 1) := by decide +kernel
theorem dX3_firstFollowing_19 : decode cX3_firstFollowing 19 = .ok (.ireturn, 1) := by decide +kernel
theorem dX3_firstFollowing_20 : decode cX3_firstFollowing 20 = .ok (.iinc 3 1, 3) := by decide +kernel
theorem dX3_firstFollowing_23 : decode cX3_firstFollowing 23 = .ok (.goto (-21), 3) := by decide +kernel
theorem dX3_firstFollowing_26 : decode cX3_firstFollowing 26 = .ok (.iconst (-1), 1) := by decide +kernel
theorem dX3_firstFollowing_27 : decode cX3_firstFollowing 27 = .ok (.ireturn, 1) := by decide +kernel
theorem mw_X3_firstFollowing : MW yX3_firstFollowing cX3_firstFollowing 4 0 2 false := ⟨tm 1408 (by decide +kernel) rfl, tm 247 (by decide +kernel) rfl, by decide, by decide, (by rw [if_neg (by decide)]; exact ⟨tm 1407 (by decide +kernel) rfl, tm 100 (by decide +kernel) rfl⟩)⟩
theorem lk_RX3_22 : LK RX3 22 yX3_canFollow := Or.inl (tm 1393 (by decide +kernel) rfl)
def Pl_firstFollowing_L2 (a1 : Int) (a2 : Int) : Nat → Int → Sg → Rs
  | 0, _, _ => none
  | n + 1, v3, σ => (if v3 < 8 then (bd (Pl_canFollow a1 a2 v3 σ) (fun r1 s2 => (if r1 = 0 then (nm (w32 (v3 + 1)) (fun x3 => (Pl_firstFollowing_L2 a1 a2 n x3 s2))) else (some (v3, s2))))) else (some ((-1), σ)))
theorem ok_Pl_firstFollowing_L2 (a1 : Int) (a2 : Int) : ∀ (n : Nat) (v3 : Int) (σ : Sg), G l Kh Ph RX3 cX3_firstFollowing 4 0 2 2 [some (.inr (.inr 105)), some (.inl a1), some (.inl a2), some (.inl v3)] [] σ (Pl_firstFollowing_L2 a1 a2 n v3 σ) := by
  intro n
  induction n with
  | zero => intros; exact G.none_
  | succ n ih =>
    intro v3 σ
    rw [Pl_firstFollowing_L2]
    refine g_iload_n dX3_firstFollowing_2 rfl rfl ?_
    refine g_bipush dX3_firstFollowing_3 (by decide) ?_
    refine g_icmpge (tgt := 26) dX3_firstFollowing_5 (by decide) ?_ ?_
    · refine g_aload_n dX3_firstFollowing_8 rfl rfl ?_
      refine g_iload_n dX3_firstFollowing_9 rfl rfl ?_
      refine g_iload_n dX3_firstFollowing_10 rfl rfl ?_
      refine g_iload_n dX3_firstFollowing_11 rfl rfl ?_
      refine g_callv3 (st := []) 3 mw_X3_canFollow lk_RX3_22 rfl kh_105 (ok_Pl_canFollow a1 a2 v3 σ) (Nat.le_of_ble_eq_true rfl) rfl rfl (Nat.le_of_ble_eq_true rfl) dX3_firstFollowing_12 ?_
      intro r1 s2
      refine g_ifeq (tgt := 20) dX3_firstFollowing_15 (by decide) ?_ ?_
      · refine n_iinc (fun x3 => [some (.inr (.inr 105)), some (.inl a1), some (.inl a2), some (.inl x3)]) dX3_firstFollowing_20 rfl (Nat.le_of_ble_eq_true rfl) (fun _ => rfl) ?_
        intro x3
        refine g_goto (tgt := 2) dX3_firstFollowing_23 (by decide) ?_
        exact (ih x3 s2)
      · refine g_iload_n dX3_firstFollowing_18 rfl rfl ?_
        exact g_iret dX3_firstFollowing_19
    · refine g_iconst dX3_firstFollowing_26 (by decide) ?_
      exact g_iret dX3_firstFollowing_27
def Pl_firstFollowing (a1 : Int) (a2 : Int) (σ : Sg) : Rs := (Pl_firstFollowing_L2 a1 a2 fu 0 σ)
theorem ok_Pl_firstFollowing (a1 : Int) (a2 : Int) (σ : Sg) : MC l Kh Ph yX3_firstFollowing cX3_firstFollowing 4 0 2 [.inr (.inr 105), .inl a1, .inl a2] σ (Pl_firstFollowing a1 a2 σ) := by
  refine mc_of (by decide) (Nat.le_of_ble_eq_true rfl) ?_
  change G l Kh Ph RX3 cX3_firstFollowing 4 0 2 0 [some (.inr (.inr 105)), some (.inl a1), some (.inl a2), none] [] σ (Pl_firstFollowing a1 a2 σ)
  unfold Pl_firstFollowing
  refine g_iconst dX3_firstFollowing_0 (by decide) ?_
  refine g_istore_n (lv' := [some (.inr (.inr 105)), some (.inl a1), some (.inl a2), some (.inl 0)]) dX3_firstFollowing_1 rfl (Nat.le_of_ble_eq_true rfl) rfl ?_
  refine (ok_Pl_firstFollowing_L2 a1 a2 fu 0 σ)
theorem dX3_firstOrderAt_0 : decode cX3_firstOrderAt 0 = .ok (.iconst 0, 1) := by decide +kernel
theorem dX3_firstOrderAt_1 : decode cX3_firstOrderAt 1 = .ok (.istore_n 3, 1) := by decide +kernel
theorem dX3_firstOrderAt_2 : decode cX3_firstOrderAt 2 = .ok (.iconst (-1), 1) := by decide +kernel
theorem dX3_firstOrderAt_3 : decode cX3_firstOrderAt 3 = .ok (.istore 4, 2) := by decide +kernel
theorem dX3_firstOrderAt_5 : decode cX3_firstOrderAt 5 = .ok (.iconst 0, 1) := by decide +kernel
theorem dX3_firstOrderAt_6 : decode cX3_firstOrderAt 6 = .ok (.istore 5, 2) := by decide +kernel
theorem dX3_firstOrderAt_8 : decode cX3_firstOrderAt 8 = .ok (.iload 5, 2) := by decide +kernel
theorem dX3_firstOrderAt_10 : decode cX3_firstOrderAt 10 = .ok (.bipush 8, 2) := by decide +kernel
theorem dX3_firstOrderAt_12 : decode cX3_firstOrderAt 12 = .ok (.if_icmp .ge 52, 3) := by decide +kernel
theorem dX3_firstOrderAt_15 : decode cX3_firstOrderAt 15 = .ok (.iload_n 3, 1) := by decide +kernel
theorem dX3_firstOrderAt_16 : decode cX3_firstOrderAt 16 = .ok (.iload_n 1, 1) := by decide +kernel
theorem dX3_firstOrderAt_17 : decode cX3_firstOrderAt 17 = .ok (.if_icmp .eq 47, 3) := by decide +kernel
theorem dX3_firstOrderAt_20 : decode cX3_firstOrderAt 20 = .ok (.aload_n 0, 1) := by decide +kernel
theorem dX3_firstOrderAt_21 : decode cX3_firstOrderAt 21 = .ok (.iload_n 1, 1) := by decide +kernel
theorem dX3_firstOrderAt_22 : decode cX3_firstOrderAt 22 = .ok (.iload_n 3, 1) := by decide +kernel
theorem dX3_firstOrderAt_23 : decode cX3_firstOrderAt 23 = .ok (.invokevirtual 25, 3) := by decide +kernel
theorem dX3_firstOrderAt_26 : decode cX3_firstOrderAt 26 = .ok (.istore 6, 2) := by decide +kernel
theorem dX3_firstOrderAt_28 : decode cX3_firstOrderAt 28 = .ok (.iload 6, 2) := by decide +kernel
theorem dX3_firstOrderAt_30 : decode cX3_firstOrderAt 30 = .ok (.iconst (-1), 1) := by decide +kernel
theorem dX3_firstOrderAt_31 : decode cX3_firstOrderAt 31 = .ok (.if_icmp .ne 5, 3) := by decide +kernel
theorem dX3_firstOrderAt_34 : decode cX3_firstOrderAt 34 = .ok (.iconst (-1), 1) := by decide +kernel
theorem dX3_firstOrderAt_35 : decode cX3_firstOrderAt 35 = .ok (.ireturn, 1) := by decide +kernel
theorem dX3_firstOrderAt_36 : decode cX3_firstOrderAt 36 = .ok (.iload 5, 2) := by decide +kernel
theorem dX3_firstOrderAt_38 : decode cX3_firstOrderAt 38 = .ok (.iload_n 2, 1) := by decide +kernel
theorem dX3_firstOrderAt_39 : decode cX3_firstOrderAt 39 = .ok (.if_icmp .ne 8, 3) := by decide +kernel
theorem dX3_firstOrderAt_42 : decode cX3_firstOrderAt 42 = .ok (.iload 6, 2) := by decide +kernel
theorem dX3_firstOrderAt_44 : decode cX3_firstOrderAt 44 = .ok (.goto 5, 3) := by decide +kernel
theorem dX3_firstOrderAt_47 : decode cX3_firstOrderAt 47 = .ok (.iload 4, 2) := by decide +kernel
theorem dX3_firstOrderAt_49 : decode cX3_firstOrderAt 49 = .ok (.istore 4, 2) := by decide +kernel
theorem dX3_firstOrderAt_51 : decode cX3_firstOrderAt 51 = .ok (.iload_n 3, 1) := by decide +kernel
theorem dX3_firstOrderAt_52 : decode cX3_firstOrderAt 52 = .ok (.iconst 1, 1) := by decide +kernel
theorem dX3_firstOrderAt_53 : decode cX3_firstOrderAt 53 = .ok (.iload 6, 2) := by decide +kernel
theorem dX3_firstOrderAt_55 : decode cX3_firstOrderAt 55 = .ok (.ishl, 1) := by decide +kernel
theorem dX3_firstOrderAt_56 : decode cX3_firstOrderAt 56 = .ok (.ior, 1) := by decide +kernel
theorem dX3_firstOrderAt_57 : decode cX3_firstOrderAt 57 = .ok (.istore_n 3, 1) := by decide +kernel
theorem dX3_firstOrderAt_58 : decode cX3_firstOrderAt 58 = .ok (.iinc 5 1, 3) := by decide +kernel
theorem dX3_firstOrderAt_61 : decode cX3_firstOrderAt 61 = .ok (.goto (-53), 3) := by decide +kernel
theorem dX3_firstOrderAt_64 : decode cX3_firstOrderAt 64 = .ok (.iload 4, 2) := by decide +kernel
theorem dX3_firstOrderAt_66 : decode cX3_firstOrderAt 66 = .ok (.ireturn, 1) := by decide +kernel
theorem mw_X3_firstOrderAt : MW yX3_firstOrderAt cX3_firstOrderAt 7 0 2 false := ⟨tm 1404 (by decide +kernel) rfl, tm 247 (by decide +kernel) rfl, by decide, by decide, (by rw [if_neg (by decide)]; exact ⟨tm 1403 (by decide +kernel) rfl, tm 99 (by decide +kernel) rfl⟩)⟩
theorem lk_RX3_25 : LK RX3 25 yX3_firstFollowing := Or.inl (tm 1405 (by decide +kernel) rfl)
def Pl_firstOrderAt_L8 (a1 : Int) (a2 : Int) : Nat → Int → Int → Int → Sg → Rs
  | 0, _, _, _, _ => none
  | n + 1, v3, v4, v5, σ => (if v5 < 8 then (if v3 = a1 then (some (v4, σ)) else (bd (Pl_firstFollowing a1 v3 σ) (fun r1 s2 => (if r1 = (-1) then (some ((-1), s2)) else (if v5 = a2 then (nm (or32 v3 (sl32 1 r1)) (fun x3 => (nm (w32 (v5 + 1)) (fun x4 => (Pl_firstOrderAt_L8 a1 a2 n x3 r1 x4 s2))))) else (nm (or32 v3 (sl32 1 r1)) (fun x5 => (nm (w32 (v5 + 1)) (fun x6 => (Pl_firstOrderAt_L8 a1 a2 n x5 v4 x6 s2)))))))))) else (some (v4, σ)))
theorem ok_Pl_firstOrderAt_L8 (a1 : Int) (a2 : Int) : ∀ (n : Nat) (v3 v4 v5 : Int) (σ : Sg), G l Kh Ph RX3 cX3_firstOrderAt 7 0 3 8 [some (.inr (.inr 105)), some (.inl a1), some (.inl a2), some (.inl v3), some (.inl v4), some (.inl v5), none] [] σ (Pl_firstOrderAt_L8 a1 a2 n v3 v4 v5 σ) := by
  intro n
  induction n with
  | zero => intros; exact G.none_
  | succ n ih =>
    intro v3 v4 v5 σ
    rw [Pl_firstOrderAt_L8]
    refine g_iload dX3_firstOrderAt_8 rfl ?_
    refine g_bipush dX3_firstOrderAt_10 (by decide) ?_
    refine g_icmpge (tgt := 64) dX3_firstOrderAt_12 (by decide) ?_ ?_
    · refine g_iload_n dX3_firstOrderAt_15 rfl rfl ?_
      refine g_iload_n dX3_firstOrderAt_16 rfl rfl ?_
      refine g_icmpeq (tgt := 64) dX3_firstOrderAt_17 (by decide) ?_ ?_
      · refine g_iload dX3_firstOrderAt_64 rfl ?_
        exact g_iret dX3_firstOrderAt_66
      · refine g_aload_n dX3_firstOrderAt_20 rfl rfl ?_
        refine g_iload_n dX3_firstOrderAt_21 rfl rfl ?_
        refine g_iload_n dX3_firstOrderAt_22 rfl rfl ?_
        refine g_callv0 (st := []) 3 mw_X3_firstFollowing lk_RX3_25 rfl kh_105 (ok_Pl_firstFollowing a1 v3 σ) (Nat.le_of_ble_eq_true rfl) rfl rfl (Nat.le_of_ble_eq_true rfl) dX3_firstOrderAt_23 ?_
        intro r1 s2
        refine g_istore (lv' := [some (.inr (.inr 105)), some (.inl a1), some (.inl a2), some (.inl v3), some (.inl v4), some (.inl v5), some (.inl r1)]) dX3_firstOrderAt_26 (Nat.le_of_ble_eq_true rfl) rfl ?_
        refine g_iload dX3_firstOrderAt_28 rfl ?_
        refine g_iconst dX3_firstOrderAt_30 (by decide) ?_
        refine g_icmpne (tgt := 36) dX3_firstOrderAt_31 (by decide) ?_ ?_
        · refine g_iconst dX3_firstOrderAt_34 (by decide) ?_
          exact g_iret dX3_firstOrderAt_35
        · refine g_iload dX3_firstOrderAt_36 rfl ?_
          refine g_iload_n dX3_firstOrderAt_38 rfl rfl ?_
          refine g_icmpne (tgt := 47) dX3_firstOrderAt_39 (by decide) ?_ ?_
          · refine g_iload dX3_firstOrderAt_42 rfl ?_
            refine g_goto (tgt := 49) dX3_firstOrderAt_44 (by decide) ?_
            refine g_istore (lv' := [some (.inr (.inr 105)), some (.inl a1), some (.inl a2), some (.inl v3), some (.inl r1), some (.inl v5), some (.inl r1)]) dX3_firstOrderAt_49 (Nat.le_of_ble_eq_true rfl) rfl ?_
            refine g_iload_n dX3_firstOrderAt_51 rfl rfl ?_
            refine g_iconst dX3_firstOrderAt_52 (by decide) ?_
            refine g_iload dX3_firstOrderAt_53 rfl ?_
            refine g_ishl dX3_firstOrderAt_55 ?_
            refine g_ior dX3_firstOrderAt_56 ?_
            refine n_istore_n (fun x3 => [some (.inr (.inr 105)), some (.inl a1), some (.inl a2), some (.inl x3), some (.inl r1), some (.inl v5), some (.inl r1)]) dX3_firstOrderAt_57 rfl (Nat.le_of_ble_eq_true rfl) (fun _ => rfl) ?_
            intro x3
            refine n_iinc (fun x4 => [some (.inr (.inr 105)), some (.inl a1), some (.inl a2), some (.inl x3), some (.inl r1), some (.inl x4), some (.inl r1)]) dX3_firstOrderAt_58 rfl (Nat.le_of_ble_eq_true rfl) (fun _ => rfl) ?_
            intro x4
            refine g_goto (tgt := 8) dX3_firstOrderAt_61 (by decide) ?_
            exact (g_weak [true, true, true, true, true, true, false] (ih x3 r1 x4 s2))
          · refine g_iload dX3_firstOrderAt_47 rfl ?_
            refine g_istore (lv' := [some (.inr (.inr 105)), some (.inl a1), some (.inl a2), some (.inl v3), some (.inl v4), some (.inl v5), some (.inl r1)]) dX3_firstOrderAt_49 (Nat.le_of_ble_eq_true rfl) rfl ?_
            refine g_iload_n dX3_firstOrderAt_51 rfl rfl ?_
            refine g_iconst dX3_firstOrderAt_52 (by decide) ?_
            refine g_iload dX3_firstOrderAt_53 rfl ?_
            refine g_ishl dX3_firstOrderAt_55 ?_
            refine g_ior dX3_firstOrderAt_56 ?_
            refine n_istore_n (fun x5 => [some (.inr (.inr 105)), some (.inl a1), some (.inl a2), some (.inl x5), some (.inl v4), some (.inl v5), some (.inl r1)]) dX3_firstOrderAt_57 rfl (Nat.le_of_ble_eq_true rfl) (fun _ => rfl) ?_
            intro x5
            refine n_iinc (fun x6 => [some (.inr (.inr 105)), some (.inl a1), some (.inl a2), some (.inl x5), some (.inl v4), some (.inl x6), some (.inl r1)]) dX3_firstOrderAt_58 rfl (Nat.le_of_ble_eq_true rfl) (fun _ => rfl) ?_
            intro x6
            refine g_goto (tgt := 8) dX3_firstOrderAt_61 (by decide) ?_
            exact (g_weak [true, true, true, true, true, true, false] (ih x5 v4 x6 s2))
    · refine g_iload dX3_firstOrderAt_64 rfl ?_
      exact g_iret dX3_firstOrderAt_66
def Pl_firstOrderAt (a1 : Int) (a2 : Int) (σ : Sg) : Rs := (Pl_firstOrderAt_L8 a1 a2 fu 0 (-1) 0 σ)
theorem ok_Pl_firstOrderAt (a1 : Int) (a2 : Int) (σ : Sg) : MC l Kh Ph yX3_firstOrderAt cX3_firstOrderAt 7 0 3 [.inr (.inr 105), .inl a1, .inl a2] σ (Pl_firstOrderAt a1 a2 σ) := by
  refine mc_of (by decide) (Nat.le_of_ble_eq_true rfl) ?_
  change G l Kh Ph RX3 cX3_firstOrderAt 7 0 3 0 [some (.inr (.inr 105)), some (.inl a1), some (.inl a2), none, none, none, none] [] σ (Pl_firstOrderAt a1 a2 σ)
  unfold Pl_firstOrderAt
  refine g_iconst dX3_firstOrderAt_0 (by decide) ?_
  refine g_istore_n (lv' := [some (.inr (.inr 105)), some (.inl a1), some (.inl a2), some (.inl 0), none, none, none]) dX3_firstOrderAt_1 rfl (Nat.le_of_ble_eq_true rfl) rfl ?_
  refine g_iconst dX3_firstOrderAt_2 (by decide) ?_
  refine g_istore (lv' := [some (.inr (.inr 105)), some (.inl a1), some (.inl a2), some (.inl 0), some (.inl (-1)), none, none]) dX3_firstOrderAt_3 (Nat.le_of_ble_eq_true rfl) rfl ?_
  refine g_iconst dX3_firstOrderAt_5 (by decide) ?_
  refine g_istore (lv' := [some (.inr (.inr 105)), some (.inl a1), some (.inl a2), some (.inl 0), some (.inl (-1)), some (.inl 0), none]) dX3_firstOrderAt_6 (Nat.le_of_ble_eq_true rfl) rfl ?_
  refine (ok_Pl_firstOrderAt_L8 a1 a2 fu 0 (-1) 0 σ)
theorem dX11_plaitAt_0 : decode cX11_plaitAt 0 = .ok (.aload_n 0, 1) := by decide +kernel
theorem dX11_plaitAt_1 : decode cX11_plaitAt 1 = .ok (.iload_n 1, 1) := by decide +kernel
theorem dX11_plaitAt_2 : decode cX11_plaitAt 2 = .ok (.iload_n 2, 1) := by decide +kernel
theorem dX11_plaitAt_3 : decode cX11_plaitAt 3 = .ok (.iload_n 3, 1) := by decide +kernel
theorem dX11_plaitAt_4 : decode cX11_plaitAt 4 = .ok (.invokevirtual 396, 3) := by decide +kernel
theorem dX11_plaitAt_7 : decode cX11_plaitAt 7 = .ok (.istore 5, 2) := by decide +kernel
theorem dX11_plaitAt_9 : decode cX11_plaitAt 9 = .ok (.iload 5, 2) := by decide +kernel
theorem dX11_plaitAt_11 : decode cX11_plaitAt 11 = .ok (.ifCond .eq 10, 3) := by decide +kernel
theorem dX11_plaitAt_14 : decode cX11_plaitAt 14 = .ok (.aload_n 0, 1) := by decide +kernel
theorem dX11_plaitAt_15 : decode cX11_plaitAt 15 = .ok (.iload 5, 2) := by decide +kernel
theorem dX11_plaitAt_17 : decode cX11_plaitAt 17 = .ok (.invokevirtual 147, 3) := by decide +kernel
theorem dX11_plaitAt_20 : decode cX11_plaitAt 20 = .ok (.ireturn, 1) := by decide +kernel
theorem dX11_plaitAt_21 : decode cX11_plaitAt 21 = .ok (.aload_n 0, 1) := by decide +kernel
theorem dX11_plaitAt_22 : decode cX11_plaitAt 22 = .ok (.getfield 96, 3) := by decide +kernel
theorem dX11_plaitAt_25 : decode cX11_plaitAt 25 = .ok (.iload_n 1, 1) := by decide +kernel
theorem dX11_plaitAt_26 : decode cX11_plaitAt 26 = .ok (.iload 4, 2) := by decide +kernel
theorem dX11_plaitAt_28 : decode cX11_plaitAt 28 = .ok (.invokevirtual 402, 3) := by decide +kernel
theorem dX11_plaitAt_31 : decode cX11_plaitAt 31 = .ok (.istore 6, 2) := by decide +kernel
theorem dX11_plaitAt_33 : decode cX11_plaitAt 33 = .ok (.iload 6, 2) := by decide +kernel
theorem dX11_plaitAt_35 : decode cX11_plaitAt 35 = .ok (.iconst (-1), 1) := by decide +kernel
theorem dX11_plaitAt_36 : decode cX11_plaitAt 36 = .ok (.if_icmp .ne 12, 3) := by decide +kernel
theorem dX11_plaitAt_39 : decode cX11_plaitAt 39 = .ok (.aload_n 0, 1) := by decide +kernel
theorem dX11_plaitAt_40 : decode cX11_plaitAt 40 = .ok (.bipush 8, 2) := by decide +kernel
theorem dX11_plaitAt_42 : decode cX11_plaitAt 42 = .ok (.invokevirtual 147, 3) := by decide +kernel
theorem dX11_plaitAt_45 : decode cX11_plaitAt 45 = .ok (.goto 9, 3) := by decide +kernel
theorem dX11_plaitAt_48 : decode cX11_plaitAt 48 = .ok (.aload_n 0, 1) := by decide +kernel
theorem dX11_plaitAt_49 : decode cX11_plaitAt 49 = .ok (.iload 6, 2) := by decide +kernel
theorem dX11_plaitAt_51 : decode cX11_plaitAt 51 = .ok (.invokevirtual 194, 3) := by decide +kernel
theorem dX11_plaitAt_54 : decode cX11_plaitAt 54 = .ok (.ireturn, 1) := by decide +kernel
theorem mw_X11_plaitAt : MW yX11_plaitAt cX11_plaitAt 7 0 4 false := ⟨tm 1400 (by decide +kernel) rfl, tm 235 (by decide +kernel) rfl, by decide, by decide, (by rw [if_neg (by decide)]; exact ⟨tm 1398 (by decide +kernel) rfl, tm 1399 (by decide +kernel) rfl⟩)⟩
theorem lk_RX11_396 : LK RX11 396 yX11_plaitStatus := Or.inl (tm 1376 (by decide +kernel) rfl)
theorem lk_RX11_402 : LK RX11 402 yX3_firstOrderAt := Or.inr ⟨"HairProvince", tm 1401 (by decide +kernel) rfl⟩
def H_plaitAt (a1 : Int) (a2 : Int) (a3 : Int) (a4 : Int) (σ : Sg) : Rs := (bd (H_plaitStatus a1 a2 a3 σ) (fun r1 s2 => (if r1 = 0 then (bd (Pl_firstOrderAt a1 a4 s2) (fun r3 s4 => (if r3 = (-1) then (bd (H_fail 8 s4) (fun r5 s6 => (some (r5, s6)))) else (bd (H_give r3 s4) (fun r7 s8 => (some (r7, s8))))))) else (bd (H_fail r1 s2) (fun r9 s10 => (some (r9, s10)))))))
theorem ok_H_plaitAt (a1 : Int) (a2 : Int) (a3 : Int) (a4 : Int) (σ : Sg) : MC l Kh Ph yX11_plaitAt cX11_plaitAt 7 0 6 [.inr (.inr 0), .inl a1, .inl a2, .inl a3, .inl a4] σ (H_plaitAt a1 a2 a3 a4 σ) := by
  refine mc_of (by decide) (Nat.le_of_ble_eq_true rfl) ?_
  change G l Kh Ph RX11 cX11_plaitAt 7 0 6 0 [some (.inr (.inr 0)), some (.inl a1), some (.inl a2), some (.inl a3), some (.inl a4), none, none] [] σ (H_plaitAt a1 a2 a3 a4 σ)
  unfold H_plaitAt
  refine g_aload_n dX11_plaitAt_0 rfl rfl ?_
  refine g_iload_n dX11_plaitAt_1 rfl rfl ?_
  refine g_iload_n dX11_plaitAt_2 rfl rfl ?_
  refine g_iload_n dX11_plaitAt_3 rfl rfl ?_
  refine g_callv0 (st := []) 9 mw_X11_plaitStatus lk_RX11_396 rfl kh_0 (ok_H_plaitStatus a1 a2 a3 σ) (Nat.le_of_ble_eq_true rfl) rfl rfl (Nat.le_of_ble_eq_true rfl) dX11_plaitAt_4 ?_
  intro r1 s2
  refine g_istore (lv' := [some (.inr (.inr 0)), some (.inl a1), some (.inl a2), some (.inl a3), some (.inl a4), some (.inl r1), none]) dX11_plaitAt_7 (Nat.le_of_ble_eq_true rfl) rfl ?_
  refine g_iload dX11_plaitAt_9 rfl ?_
  refine g_ifeq (tgt := 21) dX11_plaitAt_11 (by decide) ?_ ?_
  · refine g_aload_n dX11_plaitAt_21 rfl rfl ?_
    refine g_getr' (q := 105) fl_RX11_96 kh_0 (by decide) rfl dX11_plaitAt_22 ?_
    refine g_iload_n dX11_plaitAt_25 rfl rfl ?_
    refine g_iload dX11_plaitAt_26 rfl ?_
    refine g_callv0 (st := []) 3 mw_X3_firstOrderAt lk_RX11_402 rfl kh_105 (ok_Pl_firstOrderAt a1 a4 s2) (Nat.le_of_ble_eq_true rfl) rfl rfl (Nat.le_of_ble_eq_true rfl) dX11_plaitAt_28 ?_
    intro r3 s4
    refine g_istore (lv' := [some (.inr (.inr 0)), some (.inl a1), some (.inl a2), some (.inl a3), some (.inl a4), some (.inl r1), some (.inl r3)]) dX11_plaitAt_31 (Nat.le_of_ble_eq_true rfl) rfl ?_
    refine g_iload dX11_plaitAt_33 rfl ?_
    refine g_iconst dX11_plaitAt_35 (by decide) ?_
    refine g_icmpne (tgt := 48) dX11_plaitAt_36 (by decide) ?_ ?_
    · refine g_aload_n dX11_plaitAt_39 rfl rfl ?_
      refine g_bipush dX11_plaitAt_40 (by decide) ?_
      refine g_callv0 (st := []) 9 mw_X11_fail lk_RX11_147 rfl kh_0 (ok_H_fail 8 s4) (Nat.le_of_ble_eq_true rfl) rfl rfl (Nat.le_of_ble_eq_true rfl) dX11_plaitAt_42 ?_
      intro r5 s6
      refine g_goto (tgt := 54) dX11_plaitAt_45 (by decide) ?_
      exact g_iret dX11_plaitAt_54
    · refine g_aload_n dX11_plaitAt_48 rfl rfl ?_
      refine g_iload dX11_plaitAt_49 rfl ?_
      refine g_callv0 (st := []) 9 mw_X11_give lk_RX11_194 rfl kh_0 (ok_H_give r3 s4) (Nat.le_of_ble_eq_true rfl) rfl rfl (Nat.le_of_ble_eq_true rfl) dX11_plaitAt_51 ?_
      intro r7 s8
      exact g_iret dX11_plaitAt_54
  · refine g_aload_n dX11_plaitAt_14 rfl rfl ?_
    refine g_iload dX11_plaitAt_15 rfl ?_
    refine g_callv0 (st := []) 9 mw_X11_fail lk_RX11_147 rfl kh_0 (ok_H_fail r1 s2) (Nat.le_of_ble_eq_true rfl) rfl rfl (Nat.le_of_ble_eq_true rfl) dX11_plaitAt_17 ?_
    intro r9 s10
    exact g_iret dX11_plaitAt_20
end WK
