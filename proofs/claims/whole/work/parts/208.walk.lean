section WK
variable {l : Launch}
theorem dX7_split_0 : decode cX7_split 0 = .ok (.aload_n 0, 1) := by decide +kernel
theorem dX7_split_1 : decode cX7_split 1 = .ok (.iload_n 1, 1) := by decide +kernel
theorem dX7_split_2 : decode cX7_split 2 = .ok (.aload_n 0, 1) := by decide +kernel
theorem dX7_split_3 : decode cX7_split 3 = .ok (.getfield 46, 3) := by decide +kernel
theorem dX7_split_6 : decode cX7_split 6 = .ok (.invokestatic 49, 3) := by decide +kernel
theorem dX7_split_9 : decode cX7_split 9 = .ok (.putfield 55, 3) := by decide +kernel
theorem dX7_split_12 : decode cX7_split 12 = .ok (.aload_n 0, 1) := by decide +kernel
theorem dX7_split_13 : decode cX7_split 13 = .ok (.iconst 0, 1) := by decide +kernel
theorem dX7_split_14 : decode cX7_split 14 = .ok (.putfield 57, 3) := by decide +kernel
theorem dX7_split_17 : decode cX7_split 17 = .ok (.aload_n 0, 1) := by decide +kernel
theorem dX7_split_18 : decode cX7_split 18 = .ok (.iconst (-1), 1) := by decide +kernel
theorem dX7_split_19 : decode cX7_split 19 = .ok (.putfield 60, 3) := by decide +kernel
theorem dX7_split_22 : decode cX7_split 22 = .ok (.aload_n 0, 1) := by decide +kernel
theorem dX7_split_23 : decode cX7_split 23 = .ok (.iconst 0, 1) := by decide +kernel
theorem dX7_split_24 : decode cX7_split 24 = .ok (.putfield 63, 3) := by decide +kernel
theorem dX7_split_27 : decode cX7_split 27 = .ok (.aload_n 0, 1) := by decide +kernel
theorem dX7_split_28 : decode cX7_split 28 = .ok (.iconst (-1), 1) := by decide +kernel
theorem dX7_split_29 : decode cX7_split 29 = .ok (.putfield 22, 3) := by decide +kernel
theorem dX7_split_32 : decode cX7_split 32 = .ok (.iconst 0, 1) := by decide +kernel
theorem dX7_split_33 : decode cX7_split 33 = .ok (.istore_n 2, 1) := by decide +kernel
theorem dX7_split_34 : decode cX7_split 34 = .ok (.iconst 0, 1) := by decide +kernel
theorem dX7_split_35 : decode cX7_split 35 = .ok (.istore_n 3, 1) := by decide +kernel
theorem dX7_split_36 : decode cX7_split 36 = .ok (.iload_n 3, 1) := by decide +kernel
theorem dX7_split_37 : decode cX7_split 37 = .ok (.sipush 900, 3) := by decide +kernel
theorem dX7_split_40 : decode cX7_split 40 = .ok (.if_icmp .ge 68, 3) := by decide +kernel
theorem dX7_split_43 : decode cX7_split 43 = .ok (.iload_n 2, 1) := by decide +kernel
theorem dX7_split_44 : decode cX7_split 44 = .ok (.aload_n 0, 1) := by decide +kernel
theorem dX7_split_45 : decode cX7_split 45 = .ok (.getfield 55, 3) := by decide +kernel
theorem dX7_split_48 : decode cX7_split 48 = .ok (.if_icmp .ge 60, 3) := by decide +kernel
theorem dX7_split_51 : decode cX7_split 51 = .ok (.aload_n 0, 1) := by decide +kernel
theorem dX7_split_52 : decode cX7_split 52 = .ok (.iload_n 2, 1) := by decide +kernel
theorem dX7_split_53 : decode cX7_split 53 = .ok (.invokevirtual 66, 3) := by decide +kernel
theorem dX7_split_56 : decode cX7_split 56 = .ok (.istore 4, 2) := by decide +kernel
theorem dX7_split_58 : decode cX7_split 58 = .ok (.iload 4, 2) := by decide +kernel
theorem dX7_split_60 : decode cX7_split 60 = .ok (.invokestatic 70, 3) := by decide +kernel
theorem dX7_split_63 : decode cX7_split 63 = .ok (.ifCond .eq 12, 3) := by decide +kernel
theorem dX7_split_66 : decode cX7_split 66 = .ok (.aload_n 0, 1) := by decide +kernel
theorem dX7_split_67 : decode cX7_split 67 = .ok (.iload_n 2, 1) := by decide +kernel
theorem dX7_split_68 : decode cX7_split 68 = .ok (.invokevirtual 74, 3) := by decide +kernel
theorem dX7_split_71 : decode cX7_split 71 = .ok (.istore_n 2, 1) := by decide +kernel
theorem dX7_split_72 : decode cX7_split 72 = .ok (.goto 30, 3) := by decide +kernel
theorem dX7_split_75 : decode cX7_split 75 = .ok (.iload 4, 2) := by decide +kernel
theorem dX7_split_77 : decode cX7_split 77 = .ok (.invokestatic 77, 3) := by decide +kernel
theorem dX7_split_80 : decode cX7_split 80 = .ok (.ifCond .eq 12, 3) := by decide +kernel
theorem dX7_split_83 : decode cX7_split 83 = .ok (.aload_n 0, 1) := by decide +kernel
theorem dX7_split_84 : decode cX7_split 84 = .ok (.iload_n 2, 1) := by decide +kernel
theorem dX7_split_85 : decode cX7_split 85 = .ok (.invokevirtual 80, 3) := by decide +kernel
theorem dX7_split_88 : decode cX7_split 88 = .ok (.istore_n 2, 1) := by decide +kernel
theorem dX7_split_89 : decode cX7_split 89 = .ok (.goto 13, 3) := by decide +kernel
theorem dX7_split_92 : decode cX7_split 92 = .ok (.aload_n 0, 1) := by decide +kernel
theorem dX7_split_93 : decode cX7_split 93 = .ok (.iload_n 2, 1) := by decide +kernel
theorem dX7_split_94 : decode cX7_split 94 = .ok (.iload 4, 2) := by decide +kernel
theorem dX7_split_96 : decode cX7_split 96 = .ok (.invokevirtual 83, 3) := by decide +kernel
theorem dX7_split_99 : decode cX7_split 99 = .ok (.iinc 2 1, 3) := by decide +kernel
theorem dX7_split_102 : decode cX7_split 102 = .ok (.iinc 3 1, 3) := by decide +kernel
theorem dX7_split_105 : decode cX7_split 105 = .ok (.goto (-69), 3) := by decide +kernel
theorem dX7_split_108 : decode cX7_split 108 = .ok (.aload_n 0, 1) := by decide +kernel
theorem dX7_split_109 : decode cX7_split 109 = .ok (.iconst 0, 1) := by decide +kernel
theorem dX7_split_110 : decode cX7_split 110 = .ok (.aload_n 0, 1) := by decide +kernel
theorem dX7_split_111 : decode cX7_split 111 = .ok (.getfield 55, 3) := by decide +kernel
theorem dX7_split_114 : decode cX7_split 114 = .ok (.lconst 0, 1) := by decide +kernel
theorem dX7_split_115 : decode cX7_split 115 = .ok (.invokevirtual 87, 3) := by decide +kernel
theorem dX7_split_118 : decode cX7_split 118 = .ok (.aload_n 0, 1) := by decide +kernel
theorem dX7_split_119 : decode cX7_split 119 = .ok (.invokevirtual 91, 3) := by decide +kernel
theorem dX7_split_122 : decode cX7_split 122 = .ok (.return_, 1) := by decide +kernel
theorem mw_X7_split : MW yX7_split cX7_split 5 2 1 false := ⟨tm 798 (by decide +kernel) rfl, tm 237 (by decide +kernel) rfl, by decide, by decide, (by rw [if_neg (by decide)]; exact ⟨tm 797 (by decide +kernel) rfl, tm 16 (by decide +kernel) rfl⟩)⟩
theorem lk_RX7_74 : LK RX7 74 yX7_splitLetters := Or.inl (tm 809 (by decide +kernel) rfl)
theorem lk_RX7_80 : LK RX7 80 yX7_splitNumber := Or.inl (tm 824 (by decide +kernel) rfl)
theorem lk_RX7_83 : LK RX7 83 yX7_splitSign := Or.inl (tm 830 (by decide +kernel) rfl)
theorem mx_RX7_49 : MX RX7 49 Lib.Math.min.name Lib.Math.min.code 2 (some .int) := ⟨tm 799 (by decide +kernel) rfl, tm 800 (by decide +kernel) rfl, tm 251 (by decide +kernel) rfl, tm 801 (by decide +kernel) rfl⟩
def To_split_L36 (k108 : Sg → Rs) : Nat → Int → Int → Sg → Rs
  | 0, _, _, _ => none
  | n + 1, v2, v3, σ => (if v3 < 900 then (if v2 < (σ 5 2) then (bd (To_byteAt v2 σ) (fun r6 s7 => (bd (To_isLetter r6 s7) (fun r8 s9 => (if r8 = 0 then (bd (To_isDigit r6 s9) (fun r10 s11 => (if r10 = 0 then (bd (To_splitSign v2 r6 s11) (fun r12 s13 => (nm (w32 (v2 + 1)) (fun x14 => (nm (w32 (v3 + 1)) (fun x15 => (To_split_L36 k108 n x14 x15 s13))))))) else (bd (To_splitNumber v2 s11) (fun r16 s17 => (nm (w32 (v3 + 1)) (fun x18 => (To_split_L36 k108 n r16 x18 s17)))))))) else (bd (To_splitLetters v2 s9) (fun r19 s20 => (nm (w32 (v3 + 1)) (fun x21 => (To_split_L36 k108 n r19 x21 s20)))))))))) else (k108 σ)) else (k108 σ))
theorem ok_To_split_L36 (k108 : Sg → Rs) (hk108 : ∀ (σ : Sg), G l Kh Ph RX7 cX7_split 5 2 3 108 [some (.inr (.inr 5)), none, none, none, none] [] σ (k108 σ)) : ∀ (n : Nat) (v2 v3 : Int) (σ : Sg), G l Kh Ph RX7 cX7_split 5 2 3 36 [some (.inr (.inr 5)), none, some (.inl v2), some (.inl v3), none] [] σ (To_split_L36 k108 n v2 v3 σ) := by
  intro n
  induction n with
  | zero => intros; exact G.none_
  | succ n ih =>
    intro v2 v3 σ
    rw [To_split_L36]
    refine g_iload_n dX7_split_36 rfl rfl ?_
    refine g_sipush dX7_split_37 (by decide) ?_
    refine g_icmpge (tgt := 108) dX7_split_40 (by decide) ?_ ?_
    · refine g_iload_n dX7_split_43 rfl rfl ?_
      refine g_aload_n dX7_split_44 rfl rfl ?_
      refine g_geti fl_RX7_55 kh_5 (by decide) dX7_split_45 ?_
      refine g_icmpge (tgt := 108) dX7_split_48 (by decide) ?_ ?_
      · refine g_aload_n dX7_split_51 rfl rfl ?_
        refine g_iload_n dX7_split_52 rfl rfl ?_
        refine g_callv0 (st := []) 6 mw_X7_byteAt lk_RX7_66 rfl kh_5 (ok_To_byteAt v2 σ) (Nat.le_of_ble_eq_true rfl) rfl rfl (Nat.le_of_ble_eq_true rfl) dX7_split_53 ?_
        intro r6 s7
        refine g_istore (lv' := [some (.inr (.inr 5)), none, some (.inl v2), some (.inl v3), some (.inl r6)]) dX7_split_56 (Nat.le_of_ble_eq_true rfl) rfl ?_
        refine g_iload dX7_split_58 rfl ?_
        refine g_calls3 (st := []) mw_X7_isLetter lk_RX7_70 (ok_To_isLetter r6 s7) (Nat.le_of_ble_eq_true rfl) rfl rfl (Nat.le_of_ble_eq_true rfl) dX7_split_60 ?_
        intro r8 s9
        refine g_ifeq (tgt := 75) dX7_split_63 (by decide) ?_ ?_
        · refine g_iload dX7_split_75 rfl ?_
          refine g_calls3 (st := []) mw_X7_isDigit lk_RX7_77 (ok_To_isDigit r6 s9) (Nat.le_of_ble_eq_true rfl) rfl rfl (Nat.le_of_ble_eq_true rfl) dX7_split_77 ?_
          intro r10 s11
          refine g_ifeq (tgt := 92) dX7_split_80 (by decide) ?_ ?_
          · refine g_aload_n dX7_split_92 rfl rfl ?_
            refine g_iload_n dX7_split_93 rfl rfl ?_
            refine g_iload dX7_split_94 rfl ?_
            refine g_callv2 (st := []) 6 mw_X7_splitSign lk_RX7_83 rfl kh_5 (ok_To_splitSign v2 r6 s11) (Nat.le_of_ble_eq_true rfl) rfl rfl (Nat.le_of_ble_eq_true rfl) dX7_split_96 ?_
            intro r12 s13
            refine n_iinc (fun x14 => [some (.inr (.inr 5)), none, some (.inl x14), some (.inl v3), some (.inl r6)]) dX7_split_99 rfl (Nat.le_of_ble_eq_true rfl) (fun _ => rfl) ?_
            intro x14
            refine n_iinc (fun x15 => [some (.inr (.inr 5)), none, some (.inl x14), some (.inl x15), some (.inl r6)]) dX7_split_102 rfl (Nat.le_of_ble_eq_true rfl) (fun _ => rfl) ?_
            intro x15
            refine g_goto (tgt := 36) dX7_split_105 (by decide) ?_
            exact (g_weak [true, false, true, true, false] (ih x14 x15 s13))
          · refine g_aload_n dX7_split_83 rfl rfl ?_
            refine g_iload_n dX7_split_84 rfl rfl ?_
            refine g_callv0 (st := []) 6 mw_X7_splitNumber lk_RX7_80 rfl kh_5 (ok_To_splitNumber v2 s11) (Nat.le_of_ble_eq_true rfl) rfl rfl (Nat.le_of_ble_eq_true rfl) dX7_split_85 ?_
            intro r16 s17
            refine g_istore_n (lv' := [some (.inr (.inr 5)), none, some (.inl r16), some (.inl v3), some (.inl r6)]) dX7_split_88 rfl (Nat.le_of_ble_eq_true rfl) rfl ?_
            refine g_goto (tgt := 102) dX7_split_89 (by decide) ?_
            refine n_iinc (fun x18 => [some (.inr (.inr 5)), none, some (.inl r16), some (.inl x18), some (.inl r6)]) dX7_split_102 rfl (Nat.le_of_ble_eq_true rfl) (fun _ => rfl) ?_
            intro x18
            refine g_goto (tgt := 36) dX7_split_105 (by decide) ?_
            exact (g_weak [true, false, true, true, false] (ih r16 x18 s17))
        · refine g_aload_n dX7_split_66 rfl rfl ?_
          refine g_iload_n dX7_split_67 rfl rfl ?_
          refine g_callv0 (st := []) 6 mw_X7_splitLetters lk_RX7_74 rfl kh_5 (ok_To_splitLetters v2 s9) (Nat.le_of_ble_eq_true rfl) rfl rfl (Nat.le_of_ble_eq_true rfl) dX7_split_68 ?_
          intro r19 s20
          refine g_istore_n (lv' := [some (.inr (.inr 5)), none, some (.inl r19), some (.inl v3), some (.inl r6)]) dX7_split_71 rfl (Nat.le_of_ble_eq_true rfl) rfl ?_
          refine g_goto (tgt := 102) dX7_split_72 (by decide) ?_
          refine n_iinc (fun x21 => [some (.inr (.inr 5)), none, some (.inl r19), some (.inl x21), some (.inl r6)]) dX7_split_102 rfl (Nat.le_of_ble_eq_true rfl) (fun _ => rfl) ?_
          intro x21
          refine g_goto (tgt := 36) dX7_split_105 (by decide) ?_
          exact (g_weak [true, false, true, true, false] (ih r19 x21 s20))
      · exact (g_weak [true, false, false, false, false] (hk108 σ))
    · exact (g_weak [true, false, false, false, false] (hk108 σ))
def To_split_J108  (σ : Sg) : Rs := (bd (To_add 0 (σ 5 2) 0 σ) (fun r23 s24 => (bd (To_take s24) (fun r25 s26 => (some (0, s26))))))
theorem ok_To_split_J108 : ∀ (σ : Sg), G l Kh Ph RX7 cX7_split 5 2 3 108 [some (.inr (.inr 5)), none, none, none, none] [] σ (To_split_J108   σ) := by
  intro σ
  unfold To_split_J108
  refine g_aload_n dX7_split_108 rfl rfl ?_
  refine g_iconst dX7_split_109 (by decide) ?_
  refine g_aload_n dX7_split_110 rfl rfl ?_
  refine g_geti fl_RX7_55 kh_5 (by decide) dX7_split_111 ?_
  refine g_lconst (v := 0) dX7_split_114 (by decide) ?_
  refine g_callv2 (st := []) 6 mw_X7_add lk_RX7_87 rfl kh_5 (ok_To_add 0 (σ 5 2) 0 σ) (Nat.le_of_ble_eq_true rfl) rfl rfl (Nat.le_of_ble_eq_true rfl) dX7_split_115 ?_
  intro r23 s24
  refine g_aload_n dX7_split_118 rfl rfl ?_
  refine g_callv2 (st := []) 6 mw_X7_take lk_RX7_91 rfl kh_5 (ok_To_take s24) (Nat.le_of_ble_eq_true rfl) rfl rfl (Nat.le_of_ble_eq_true rfl) dX7_split_119 ?_
  intro r25 s26
  exact g_vret dX7_split_122
def To_split (a1 : Int) (σ : Sg) : Rs := (nm (up_s σ 5 2 (min a1 (σ 5 1))) (fun s1 => (nm (up_s s1 5 4 0) (fun s2 => (nm (up_s s2 5 5 (-1)) (fun s3 => (nm (up_s s3 5 11 0) (fun s4 => (nm (up_s s4 5 12 (-1)) (fun s5 => (To_split_L36 (fun s22 => (To_split_J108 s22)) fu 0 0 s5)))))))))))
theorem ok_To_split (a1 : Int) (σ : Sg) : MC l Kh Ph yX7_split cX7_split 5 2 3 [.inr (.inr 5), .inl a1] σ (To_split a1 σ) := by
  refine mc_of (by decide) (Nat.le_of_ble_eq_true rfl) ?_
  change G l Kh Ph RX7 cX7_split 5 2 3 0 [some (.inr (.inr 5)), some (.inl a1), none, none, none] [] σ (To_split a1 σ)
  unfold To_split
  refine g_aload_n dX7_split_0 rfl rfl ?_
  refine g_iload_n dX7_split_1 rfl rfl ?_
  refine g_aload_n dX7_split_2 rfl rfl ?_
  refine g_geti fl_RX7_46 kh_5 (by decide) dX7_split_3 ?_
  refine g_mmin mx_RX7_49 (Nat.le_of_ble_eq_true rfl) (Nat.le_of_ble_eq_true rfl) dX7_split_6 ?_
  refine g_puti fl_RX7_55 kh_5 (by decide) dX7_split_9 ?_
  intro s1
  refine g_aload_n dX7_split_12 rfl rfl ?_
  refine g_iconst dX7_split_13 (by decide) ?_
  refine g_puti fl_RX7_57 kh_5 (by decide) dX7_split_14 ?_
  intro s2
  refine g_aload_n dX7_split_17 rfl rfl ?_
  refine g_iconst dX7_split_18 (by decide) ?_
  refine g_puti fl_RX7_60 kh_5 (by decide) dX7_split_19 ?_
  intro s3
  refine g_aload_n dX7_split_22 rfl rfl ?_
  refine g_iconst dX7_split_23 (by decide) ?_
  refine g_puti fl_RX7_63 kh_5 (by decide) dX7_split_24 ?_
  intro s4
  refine g_aload_n dX7_split_27 rfl rfl ?_
  refine g_iconst dX7_split_28 (by decide) ?_
  refine g_puti fl_RX7_22 kh_5 (by decide) dX7_split_29 ?_
  intro s5
  refine g_iconst dX7_split_32 (by decide) ?_
  refine g_istore_n (lv' := [some (.inr (.inr 5)), some (.inl a1), some (.inl 0), none, none]) dX7_split_33 rfl (Nat.le_of_ble_eq_true rfl) rfl ?_
  refine g_iconst dX7_split_34 (by decide) ?_
  refine g_istore_n (lv' := [some (.inr (.inr 5)), some (.inl a1), some (.inl 0), some (.inl 0), none]) dX7_split_35 rfl (Nat.le_of_ble_eq_true rfl) rfl ?_
  refine (g_weak [true, false, true, true, false] (ok_To_split_L36 _ ?_ fu 0 0 s5))
  · intro s22
    refine (ok_To_split_J108 s22)
theorem dX9_clear_0 : decode cX9_clear 0 = .ok (.aload_n 0, 1) := by decide +kernel
theorem dX9_clear_1 : decode cX9_clear 1 = .ok (.iconst 0, 1) := by decide +kernel
theorem dX9_clear_2 : decode cX9_clear 2 = .ok (.putfield 27, 3) := by decide +kernel
theorem dX9_clear_5 : decode cX9_clear 5 = .ok (.aload_n 0, 1) := by decide +kernel
theorem dX9_clear_6 : decode cX9_clear 6 = .ok (.iconst 0, 1) := by decide +kernel
theorem dX9_clear_7 : decode cX9_clear 7 = .ok (.putfield 31, 3) := by decide +kernel
theorem dX9_clear_10 : decode cX9_clear 10 = .ok (.aload_n 0, 1) := by decide +kernel
theorem dX9_clear_11 : decode cX9_clear 11 = .ok (.iconst 0, 1) := by decide +kernel
theorem dX9_clear_12 : decode cX9_clear 12 = .ok (.putfield 34, 3) := by decide +kernel
theorem dX9_clear_15 : decode cX9_clear 15 = .ok (.return_, 1) := by decide +kernel
theorem mw_X9_clear : MW yX9_clear cX9_clear 1 2 0 false := ⟨tm 963 (by decide +kernel) rfl, tm 243 (by decide +kernel) rfl, by decide, by decide, (by rw [if_neg (by decide)]; exact ⟨tm 962 (by decide +kernel) rfl, tm 45 (by decide +kernel) rfl⟩)⟩
def Ye_clear (ye0 : Nat) (σ : Sg) : Rs := (nm (up_s σ ye0 5 0) (fun s1 => (nm (up_s s1 ye0 6 0) (fun s2 => (zb 0 (nm (up_s s2 ye0 7 0) (fun s3 => (some (0, s3)))))))))
theorem ok_Ye_clear (ye0 : Nat) (hye0 : Kh[ye0]? = some (.inl 8)) (σ : Sg) : MC l Kh Ph yX9_clear cX9_clear 1 2 1 [.inr (.inr ye0)] σ (Ye_clear ye0 σ) := by
  refine mc_of (by decide) (Nat.le_of_ble_eq_true rfl) ?_
  change G l Kh Ph RX9 cX9_clear 1 2 1 0 [some (.inr (.inr ye0))] [] σ (Ye_clear ye0 σ)
  unfold Ye_clear
  refine g_aload_n dX9_clear_0 rfl rfl ?_
  refine g_iconst dX9_clear_1 (by decide) ?_
  refine g_puti fl_RX9_27 hye0 (by decide) dX9_clear_2 ?_
  intro s1
  refine g_aload_n dX9_clear_5 rfl rfl ?_
  refine g_iconst dX9_clear_6 (by decide) ?_
  refine g_puti fl_RX9_31 hye0 (by decide) dX9_clear_7 ?_
  intro s2
  refine g_aload_n dX9_clear_10 rfl rfl ?_
  refine g_iconst dX9_clear_11 (by decide) ?_
  refine g_putz fl_RX9_34 hye0 (by decide) dX9_clear_12 ?_
  intro s3
  exact g_vret dX9_clear_15
theorem dX11_province_0 : decode cX11_province 0 = .ok (.iload_n 1, 1) := by decide +kernel
theorem dX11_province_1 : decode cX11_province 1 = .ok (.iconst 0, 1) := by decide +kernel
theorem dX11_province_2 : decode cX11_province 2 = .ok (.aload_n 0, 1) := by decide +kernel
theorem dX11_province_3 : decode cX11_province 3 = .ok (.getfield 36, 3) := by decide +kernel
theorem dX11_province_6 : decode cX11_province 6 = .ok (.getfield 164, 3) := by decide +kernel
theorem dX11_province_9 : decode cX11_province 9 = .ok (.invokestatic 135, 3) := by decide +kernel
theorem dX11_province_12 : decode cX11_province 12 = .ok (.ifCond .ne 9, 3) := by decide +kernel
theorem dX11_province_15 : decode cX11_province 15 = .ok (.aload_n 0, 1) := by decide +kernel
theorem dX11_province_16 : decode cX11_province 16 = .ok (.iconst 5, 1) := by decide +kernel
theorem dX11_province_17 : decode cX11_province 17 = .ok (.invokevirtual 147, 3) := by decide +kernel
theorem dX11_province_20 : decode cX11_province 20 = .ok (.ireturn, 1) := by decide +kernel
theorem dX11_province_21 : decode cX11_province 21 = .ok (.aload_n 0, 1) := by decide +kernel
theorem dX11_province_22 : decode cX11_province 22 = .ok (.getfield 36, 3) := by decide +kernel
theorem dX11_province_25 : decode cX11_province 25 = .ok (.iload_n 1, 1) := by decide +kernel
theorem dX11_province_26 : decode cX11_province 26 = .ok (.invokevirtual 171, 3) := by decide +kernel
theorem dX11_province_29 : decode cX11_province 29 = .ok (.aload_n 0, 1) := by decide +kernel
theorem dX11_province_30 : decode cX11_province 30 = .ok (.getfield 36, 3) := by decide +kernel
theorem dX11_province_33 : decode cX11_province 33 = .ok (.aload_n 0, 1) := by decide +kernel
theorem dX11_province_34 : decode cX11_province 34 = .ok (.getfield 47, 3) := by decide +kernel
theorem dX11_province_37 : decode cX11_province 37 = .ok (.invokestatic 174, 3) := by decide +kernel
theorem dX11_province_40 : decode cX11_province 40 = .ok (.istore_n 2, 1) := by decide +kernel
theorem dX11_province_41 : decode cX11_province 41 = .ok (.aload_n 0, 1) := by decide +kernel
theorem dX11_province_42 : decode cX11_province 42 = .ok (.iload_n 2, 1) := by decide +kernel
theorem dX11_province_43 : decode cX11_province 43 = .ok (.invokevirtual 180, 3) := by decide +kernel
theorem dX11_province_46 : decode cX11_province 46 = .ok (.iload_n 2, 1) := by decide +kernel
theorem dX11_province_47 : decode cX11_province 47 = .ok (.ifCond .ne 10, 3) := by decide +kernel
theorem dX11_province_50 : decode cX11_province 50 = .ok (.aload_n 0, 1) := by decide +kernel
theorem dX11_province_51 : decode cX11_province 51 = .ok (.bipush 10, 2) := by decide +kernel
theorem dX11_province_53 : decode cX11_province 53 = .ok (.invokevirtual 147, 3) := by decide +kernel
theorem dX11_province_56 : decode cX11_province 56 = .ok (.ireturn, 1) := by decide +kernel
theorem dX11_province_57 : decode cX11_province 57 = .ok (.aload_n 0, 1) := by decide +kernel
theorem dX11_province_58 : decode cX11_province 58 = .ok (.getfield 43, 3) := by decide +kernel
theorem dX11_province_61 : decode cX11_province 61 = .ok (.aload_n 0, 1) := by decide +kernel
theorem dX11_province_62 : decode cX11_province 62 = .ok (.getfield 47, 3) := by decide +kernel
theorem dX11_province_65 : decode cX11_province 65 = .ok (.invokevirtual 184, 3) := by decide +kernel
theorem dX11_province_68 : decode cX11_province 68 = .ok (.aload_n 0, 1) := by decide +kernel
theorem dX11_province_69 : decode cX11_province 69 = .ok (.getfield 53, 3) := by decide +kernel
theorem dX11_province_72 : decode cX11_province 72 = .ok (.invokevirtual 188, 3) := by decide +kernel
theorem dX11_province_75 : decode cX11_province 75 = .ok (.aload_n 0, 1) := by decide +kernel
theorem dX11_province_76 : decode cX11_province 76 = .ok (.aload_n 0, 1) := by decide +kernel
theorem dX11_province_77 : decode cX11_province 77 = .ok (.getfield 43, 3) := by decide +kernel
theorem dX11_province_80 : decode cX11_province 80 = .ok (.getfield 191, 3) := by decide +kernel
theorem dX11_province_83 : decode cX11_province 83 = .ok (.invokevirtual 194, 3) := by decide +kernel
theorem dX11_province_86 : decode cX11_province 86 = .ok (.ireturn, 1) := by decide +kernel
theorem mw_X11_province : MW yX11_province cX11_province 3 0 1 false := ⟨tm 794 (by decide +kernel) rfl, tm 235 (by decide +kernel) rfl, by decide, by decide, (by rw [if_neg (by decide)]; exact ⟨tm 792 (by decide +kernel) rfl, tm 793 (by decide +kernel) rfl⟩)⟩
theorem lk_RX11_171 : LK RX11 171 yX7_split := Or.inr ⟨"HairProvince", tm 795 (by decide +kernel) rfl⟩
theorem lk_RX11_174 : LK RX11 174 yX5_readAll := Or.inr ⟨"HairProvince", tm 838 (by decide +kernel) rfl⟩
theorem lk_RX11_180 : LK RX11 180 yX11_closeText := Or.inl (tm 951 (by decide +kernel) rfl)
theorem lk_RX11_188 : LK RX11 188 yX9_clear := Or.inr ⟨"HairProvince", tm 960 (by decide +kernel) rfl⟩
def H_province (a1 : Int) (σ : Sg) : Rs := (bd (H_within a1 0 (σ 5 1) σ) (fun r1 s2 => (if r1 = 0 then (bd (H_fail 5 s2) (fun r3 s4 => (some (r3, s4)))) else (bd (To_split a1 s2) (fun r5 s6 => (bd (PR_readAll 19 s6) (fun r7 s8 => (bd (H_closeText r7 s8) (fun r9 s10 => (if r7 = 0 then (bd (H_fail 10 s10) (fun r11 s12 => (some (r11, s12)))) else (bd (Pr_copyFrom 8 19 s10) (fun r13 s14 => (bd (Ye_clear 30 s14) (fun r15 s16 => (bd (H_give (s16 8 11) s16) (fun r17 s18 => (some (r17, s18))))))))))))))))))
theorem ok_H_province (a1 : Int) (σ : Sg) : MC l Kh Ph yX11_province cX11_province 3 0 7 [.inr (.inr 0), .inl a1] σ (H_province a1 σ) := by
  refine mc_of (by decide) (Nat.le_of_ble_eq_true rfl) ?_
  change G l Kh Ph RX11 cX11_province 3 0 7 0 [some (.inr (.inr 0)), some (.inl a1), none] [] σ (H_province a1 σ)
  unfold H_province
  refine g_iload_n dX11_province_0 rfl rfl ?_
  refine g_iconst dX11_province_1 (by decide) ?_
  refine g_aload_n dX11_province_2 rfl rfl ?_
  refine g_getr' (q := 5) fl_RX11_36 kh_0 (by decide) rfl dX11_province_3 ?_
  refine g_geti fl_RX11_164 kh_5 (by decide) dX11_province_6 ?_
  refine g_calls3 (st := []) mw_X11_within lk_RX11_135 (ok_H_within a1 0 (σ 5 1) σ) (Nat.le_of_ble_eq_true rfl) rfl rfl (Nat.le_of_ble_eq_true rfl) dX11_province_9 ?_
  intro r1 s2
  refine g_ifne (tgt := 21) dX11_province_12 (by decide) ?_ ?_
  · refine g_aload_n dX11_province_15 rfl rfl ?_
    refine g_iconst dX11_province_16 (by decide) ?_
    refine g_callv0 (st := []) 9 mw_X11_fail lk_RX11_147 rfl kh_0 (ok_H_fail 5 s2) (Nat.le_of_ble_eq_true rfl) rfl rfl (Nat.le_of_ble_eq_true rfl) dX11_province_17 ?_
    intro r3 s4
    exact g_iret dX11_province_20
  · refine g_aload_n dX11_province_21 rfl rfl ?_
    refine g_getr' (q := 5) fl_RX11_36 kh_0 (by decide) rfl dX11_province_22 ?_
    refine g_iload_n dX11_province_25 rfl rfl ?_
    refine g_callv2 (st := []) 6 mw_X7_split lk_RX11_171 rfl kh_5 (ok_To_split a1 s2) (Nat.le_of_ble_eq_true rfl) rfl rfl (Nat.le_of_ble_eq_true rfl) dX11_province_26 ?_
    intro r5 s6
    refine g_aload_n dX11_province_29 rfl rfl ?_
    refine g_getr' (q := 5) fl_RX11_36 kh_0 (by decide) rfl dX11_province_30 ?_
    refine g_aload_n dX11_province_33 rfl rfl ?_
    refine g_getr' (q := 19) fl_RX11_47 kh_0 (by decide) rfl dX11_province_34 ?_
    refine g_calls3 (st := []) mw_X5_readAll lk_RX11_174 (ok_PR_readAll 19 kh_19 s6) (Nat.le_of_ble_eq_true rfl) rfl rfl (Nat.le_of_ble_eq_true rfl) dX11_province_37 ?_
    intro r7 s8
    refine g_istore_n (lv' := [some (.inr (.inr 0)), some (.inl a1), some (.inl r7)]) dX11_province_40 rfl (Nat.le_of_ble_eq_true rfl) rfl ?_
    refine g_aload_n dX11_province_41 rfl rfl ?_
    refine g_iload_n dX11_province_42 rfl rfl ?_
    refine g_callv2 (st := []) 9 mw_X11_closeText lk_RX11_180 rfl kh_0 (ok_H_closeText r7 s8) (Nat.le_of_ble_eq_true rfl) rfl rfl (Nat.le_of_ble_eq_true rfl) dX11_province_43 ?_
    intro r9 s10
    refine g_iload_n dX11_province_46 rfl rfl ?_
    refine g_ifne (tgt := 57) dX11_province_47 (by decide) ?_ ?_
    · refine g_aload_n dX11_province_50 rfl rfl ?_
      refine g_bipush dX11_province_51 (by decide) ?_
      refine g_callv0 (st := []) 9 mw_X11_fail lk_RX11_147 rfl kh_0 (ok_H_fail 10 s10) (Nat.le_of_ble_eq_true rfl) rfl rfl (Nat.le_of_ble_eq_true rfl) dX11_province_53 ?_
      intro r11 s12
      exact g_iret dX11_province_56
    · refine g_aload_n dX11_province_57 rfl rfl ?_
      refine g_getr' (q := 8) fl_RX11_43 kh_0 (by decide) rfl dX11_province_58 ?_
      refine g_aload_n dX11_province_61 rfl rfl ?_
      refine g_getr' (q := 19) fl_RX11_47 kh_0 (by decide) rfl dX11_province_62 ?_
      refine g_callv2 (st := []) 4 mw_X4_copyFrom lk_RX11_184 rfl kh_8 (ok_Pr_copyFrom 8 19 kh_8 kh_19 s10) (Nat.le_of_ble_eq_true rfl) rfl rfl (Nat.le_of_ble_eq_true rfl) dX11_province_65 ?_
      intro r13 s14
      refine g_aload_n dX11_province_68 rfl rfl ?_
      refine g_getr' (q := 30) fl_RX11_53 kh_0 (by decide) rfl dX11_province_69 ?_
      refine g_callv2 (st := []) 8 mw_X9_clear lk_RX11_188 rfl kh_30 (ok_Ye_clear 30 kh_30 s14) (Nat.le_of_ble_eq_true rfl) rfl rfl (Nat.le_of_ble_eq_true rfl) dX11_province_72 ?_
      intro r15 s16
      refine g_aload_n dX11_province_75 rfl rfl ?_
      refine g_aload_n dX11_province_76 rfl rfl ?_
      refine g_getr' (q := 8) fl_RX11_43 kh_0 (by decide) rfl dX11_province_77 ?_
      refine g_geti fl_RX11_191 kh_8 (by decide) dX11_province_80 ?_
      refine g_callv0 (st := []) 9 mw_X11_give lk_RX11_194 rfl kh_0 (ok_H_give (s16 8 11) s16) (Nat.le_of_ble_eq_true rfl) rfl rfl (Nat.le_of_ble_eq_true rfl) dX11_province_83 ?_
      intro r17 s18
      exact g_iret dX11_province_86
theorem dX4_quietest_0 : decode cX4_quietest 0 = .ok (.aload_n 0, 1) := by decide +kernel
theorem dX4_quietest_1 : decode cX4_quietest 1 = .ok (.iload_n 1, 1) := by decide +kernel
theorem dX4_quietest_2 : decode cX4_quietest 2 = .ok (.invokevirtual 87, 3) := by decide +kernel
theorem dX4_quietest_5 : decode cX4_quietest 5 = .ok (.ifCond .ne 5, 3) := by decide +kernel
theorem dX4_quietest_8 : decode cX4_quietest 8 = .ok (.iconst 0, 1) := by decide +kernel
theorem dX4_quietest_9 : decode cX4_quietest 9 = .ok (.ireturn, 1) := by decide +kernel
theorem dX4_quietest_10 : decode cX4_quietest 10 = .ok (.iconst 0, 1) := by decide +kernel
theorem dX4_quietest_11 : decode cX4_quietest 11 = .ok (.istore_n 3, 1) := by decide +kernel
theorem dX4_quietest_12 : decode cX4_quietest 12 = .ok (.iconst 0, 1) := by decide +kernel
theorem dX4_quietest_13 : decode cX4_quietest 13 = .ok (.istore 4, 2) := by decide +kernel
theorem dX4_quietest_15 : decode cX4_quietest 15 = .ok (.iconst 1, 1) := by decide +kernel
theorem dX4_quietest_16 : decode cX4_quietest 16 = .ok (.istore 5, 2) := by decide +kernel
theorem dX4_quietest_18 : decode cX4_quietest 18 = .ok (.iload 5, 2) := by decide +kernel
theorem dX4_quietest_20 : decode cX4_quietest 20 = .ok (.aload_n 0, 1) := by decide +kernel
theorem dX4_quietest_21 : decode cX4_quietest 21 = .ok (.getfield 31, 3) := by decide +kernel
theorem dX4_quietest_24 : decode cX4_quietest 24 = .ok (.iload_n 1, 1) := by decide +kernel
theorem dX4_quietest_25 : decode cX4_quietest 25 = .ok (.iaload, 1) := by decide +kernel
theorem dX4_quietest_26 : decode cX4_quietest 26 = .ok (.if_icmp .gt 80, 3) := by decide +kernel
theorem dX4_quietest_29 : decode cX4_quietest 29 = .ok (.iload 5, 2) := by decide +kernel
theorem dX4_quietest_31 : decode cX4_quietest 31 = .ok (.aload_n 0, 1) := by decide +kernel
theorem dX4_quietest_32 : decode cX4_quietest 32 = .ok (.getfield 31, 3) := by decide +kernel
theorem dX4_quietest_35 : decode cX4_quietest 35 = .ok (.iload_n 1, 1) := by decide +kernel
theorem dX4_quietest_36 : decode cX4_quietest 36 = .ok (.iaload, 1) := by decide +kernel
theorem dX4_quietest_37 : decode cX4_quietest 37 = .ok (.iand, 1) := by decide +kernel
theorem dX4_quietest_38 : decode cX4_quietest 38 = .ok (.iload 5, 2) := by decide +kernel
theorem dX4_quietest_40 : decode cX4_quietest 40 = .ok (.if_icmp .ne 60, 3) := by decide +kernel
theorem dX4_quietest_43 : decode cX4_quietest 43 = .ok (.aload_n 0, 1) := by decide +kernel
theorem dX4_quietest_44 : decode cX4_quietest 44 = .ok (.iload_n 1, 1) := by decide +kernel
theorem dX4_quietest_45 : decode cX4_quietest 45 = .ok (.iload 5, 2) := by decide +kernel
theorem dX4_quietest_47 : decode cX4_quietest 47 = .ok (.iload_n 2, 1) := by decide +kernel
theorem dX4_quietest_48 : decode cX4_quietest 48 = .ok (.invokevirtual 104, 3) := by decide +kernel
theorem dX4_quietest_51 : decode cX4_quietest 51 = .ok (.istore 6, 2) := by decide +kernel
theorem dX4_quietest_53 : decode cX4_quietest 53 = .ok (.iload 5, 2) := by decide +kernel
theorem dX4_quietest_55 : decode cX4_quietest 55 = .ok (.invokestatic 141, 3) := by decide +kernel
theorem dX4_quietest_58 : decode cX4_quietest 58 = .ok (.iload_n 3, 1) := by decide +kernel
theorem dX4_quietest_59 : decode cX4_quietest 59 = .ok (.invokestatic 141, 3) := by decide +kernel
theorem dX4_quietest_62 : decode cX4_quietest 62 = .ok (.isub, 1) := by decide +kernel
theorem dX4_quietest_63 : decode cX4_quietest 63 = .ok (.istore 7, 2) := by decide +kernel
theorem dX4_quietest_65 : decode cX4_quietest 65 = .ok (.iload 6, 2) := by decide +kernel
theorem dX4_quietest_67 : decode cX4_quietest 67 = .ok (.aload_n 0, 1) := by decide +kernel
theorem dX4_quietest_68 : decode cX4_quietest 68 = .ok (.getfield 25, 3) := by decide +kernel
theorem dX4_quietest_71 : decode cX4_quietest 71 = .ok (.iload_n 1, 1) := by decide +kernel
theorem dX4_quietest_72 : decode cX4_quietest 72 = .ok (.iaload, 1) := by decide +kernel
theorem dX4_quietest_73 : decode cX4_quietest 73 = .ok (.if_icmp .gt 27, 3) := by decide +kernel
theorem dX4_quietest_76 : decode cX4_quietest 76 = .ok (.iload 7, 2) := by decide +kernel
theorem dX4_quietest_78 : decode cX4_quietest 78 = .ok (.ifCond .gt 15, 3) := by decide +kernel
theorem dX4_quietest_81 : decode cX4_quietest 81 = .ok (.iload 7, 2) := by decide +kernel
theorem dX4_quietest_83 : decode cX4_quietest 83 = .ok (.ifCond .ne 17, 3) := by decide +kernel
theorem dX4_quietest_86 : decode cX4_quietest 86 = .ok (.iload 6, 2) := by decide +kernel
theorem dX4_quietest_88 : decode cX4_quietest 88 = .ok (.iload 4, 2) := by decide +kernel
theorem dX4_quietest_90 : decode cX4_quietest 90 = .ok (.if_icmp .le 10, 3) := by decide +kernel
theorem dX4_quietest_93 : decode cX4_quietest 93 = .ok (.iload 5, 2) := by decide +kernel
theorem dX4_quietest_95 : decode cX4_quietest 95 = .ok (.istore_n 3, 1) := by decide +kernel
theorem dX4_quietest_96 : decode cX4_quietest 96 = .ok (.iload 6, 2) := by decide +kernel
theorem dX4_quietest_98 : decode cX4_quietest 98 = .ok (.istore 4, 2) := by decide +kernel
theorem dX4_quietest_100 : decode cX4_quietest 100 = .ok (.iinc 5 1, 3) := by decide +kernel
theorem dX4_quietest_103 : decode cX4_quietest 103 = .ok (.goto (-85), 3) := by decide +kernel
theorem dX4_quietest_106 : decode cX4_quietest 106 = .ok (.iload_n 3, 1) := by decide +kernel
theorem dX4_quietest_107 : decode cX4_quietest 107 = .ok (.ireturn, 1) := by decide +kernel
theorem mw_X4_quietest : MW yX4_quietest cX4_quietest 8 0 2 false := ⟨tm 1273 (by decide +kernel) rfl, tm 242 (by decide +kernel) rfl, by decide, by decide, (by rw [if_neg (by decide)]; exact ⟨tm 1272 (by decide +kernel) rfl, tm 79 (by decide +kernel) rfl⟩)⟩
theorem lk_RX4_141 : LK RX4 141 yJ6_bitCount_0f7a4 := Or.inl (tm 1274 (by decide +kernel) rfl)
def Pr_quietest_L18 (pr0 : Nat) (a1 : Int) (a2 : Int) : Nat → Int → Int → Int → Sg → Rs
  | 0, _, _, _, _ => none
  | n + 1, v3, v4, v5, σ => (rd 6 a1 (σ (pr0 + 7) (Int.toNat a1)) (fun x3 => (if x3 < v5 then (some (v3, σ)) else (rd 6 a1 (σ (pr0 + 7) (Int.toNat a1)) (fun x4 => (if (an32 v5 x4) = v5 then (bd (Pr_hairKept pr0 a1 v5 a2 σ) (fun r5 s6 => (bd (JI_bitCount v5 s6) (fun r7 s8 => (bd (JI_bitCount v3 s8) (fun r9 s10 => (nm (w32 (r7 - r9)) (fun x11 => (rd 6 a1 (s10 (pr0 + 5) (Int.toNat a1)) (fun x12 => (if x12 < r5 then (nm (w32 (v5 + 1)) (fun x13 => (Pr_quietest_L18 pr0 a1 a2 n v3 v4 x13 s10))) else (if 0 < x11 then (nm (w32 (v5 + 1)) (fun x14 => (Pr_quietest_L18 pr0 a1 a2 n v5 r5 x14 s10))) else (if x11 = 0 then (if v4 < r5 then (nm (w32 (v5 + 1)) (fun x15 => (Pr_quietest_L18 pr0 a1 a2 n v5 r5 x15 s10))) else (nm (w32 (v5 + 1)) (fun x16 => (Pr_quietest_L18 pr0 a1 a2 n v3 v4 x16 s10)))) else (nm (w32 (v5 + 1)) (fun x17 => (Pr_quietest_L18 pr0 a1 a2 n v3 v4 x17 s10)))))))))))))))) else (nm (w32 (v5 + 1)) (fun x18 => (Pr_quietest_L18 pr0 a1 a2 n v3 v4 x18 σ)))))))))
theorem ok_Pr_quietest_L18 (pr0 : Nat) (a1 : Int) (a2 : Int) (hpr0 : Kh[pr0]? = some (.inl 4)) : ∀ (n : Nat) (v3 v4 v5 : Int) (σ : Sg), G l Kh Ph RX4 cX4_quietest 8 0 3 18 [some (.inr (.inr pr0)), some (.inl a1), some (.inl a2), some (.inl v3), some (.inl v4), some (.inl v5), none, none] [] σ (Pr_quietest_L18 pr0 a1 a2 n v3 v4 v5 σ) := by
  intro n
  induction n with
  | zero => intros; exact G.none_
  | succ n ih =>
    intro v3 v4 v5 σ
    rw [Pr_quietest_L18]
    refine g_iload dX4_quietest_18 rfl ?_
    refine g_aload_n dX4_quietest_20 rfl rfl ?_
    refine g_getr' (q := (pr0 + 7)) fl_RX4_31 hpr0 (by decide) (qp6 hpr0) dX4_quietest_21 ?_
    refine g_iload_n dX4_quietest_24 rfl rfl ?_
    refine g_iald (kp6 hpr0) dX4_quietest_25 ?_
    intro x3
    refine g_icmpgt (tgt := 106) dX4_quietest_26 (by decide) ?_ ?_
    · refine g_iload_n dX4_quietest_106 rfl rfl ?_
      exact g_iret dX4_quietest_107
    · refine g_iload dX4_quietest_29 rfl ?_
      refine g_aload_n dX4_quietest_31 rfl rfl ?_
      refine g_getr' (q := (pr0 + 7)) fl_RX4_31 hpr0 (by decide) (qp6 hpr0) dX4_quietest_32 ?_
      refine g_iload_n dX4_quietest_35 rfl rfl ?_
      refine g_iald (kp6 hpr0) dX4_quietest_36 ?_
      intro x4
      refine g_iand dX4_quietest_37 ?_
      refine g_iload dX4_quietest_38 rfl ?_
      refine g_icmpne (tgt := 100) dX4_quietest_40 (by decide) ?_ ?_
      · refine g_aload_n dX4_quietest_43 rfl rfl ?_
        refine g_iload_n dX4_quietest_44 rfl rfl ?_
        refine g_iload dX4_quietest_45 rfl ?_
        refine g_iload_n dX4_quietest_47 rfl rfl ?_
        refine g_callv0 (st := []) 4 mw_X4_hairKept lk_RX4_104 rfl hpr0 (ok_Pr_hairKept pr0 a1 v5 a2 hpr0 σ) (Nat.le_of_ble_eq_true rfl) rfl rfl (Nat.le_of_ble_eq_true rfl) dX4_quietest_48 ?_
        intro r5 s6
        refine g_istore (lv' := [some (.inr (.inr pr0)), some (.inl a1), some (.inl a2), some (.inl v3), some (.inl v4), some (.inl v5), some (.inl r5), none]) dX4_quietest_51 (Nat.le_of_ble_eq_true rfl) rfl ?_
        refine g_iload dX4_quietest_53 rfl ?_
        refine g_calls0 (st := []) mw_J6_bitCount_0f7a4 lk_RX4_141 (ok_JI_bitCount v5 s6) (Nat.le_of_ble_eq_true rfl) rfl rfl (Nat.le_of_ble_eq_true rfl) dX4_quietest_55 ?_
        intro r7 s8
        refine g_iload_n dX4_quietest_58 rfl rfl ?_
        refine g_calls0 (st := [.inl r7]) mw_J6_bitCount_0f7a4 lk_RX4_141 (ok_JI_bitCount v3 s8) (Nat.le_of_ble_eq_true rfl) rfl rfl (Nat.le_of_ble_eq_true rfl) dX4_quietest_59 ?_
        intro r9 s10
        refine g_isub dX4_quietest_62 ?_
        refine n_istore (fun x11 => [some (.inr (.inr pr0)), some (.inl a1), some (.inl a2), some (.inl v3), some (.inl v4), some (.inl v5), some (.inl r5), some (.inl x11)]) dX4_quietest_63 (Nat.le_of_ble_eq_true rfl) (fun _ => rfl) ?_
        intro x11
        refine g_iload dX4_quietest_65 rfl ?_
        refine g_aload_n dX4_quietest_67 rfl rfl ?_
        refine g_getr' (q := (pr0 + 5)) fl_RX4_25 hpr0 (by decide) (qp4 hpr0) dX4_quietest_68 ?_
        refine g_iload_n dX4_quietest_71 rfl rfl ?_
        refine g_iald (kp4 hpr0) dX4_quietest_72 ?_
        intro x12
        refine g_icmpgt (tgt := 100) dX4_quietest_73 (by decide) ?_ ?_
        · refine n_iinc (fun x13 => [some (.inr (.inr pr0)), some (.inl a1), some (.inl a2), some (.inl v3), some (.inl v4), some (.inl x13), some (.inl r5), some (.inl x11)]) dX4_quietest_100 rfl (Nat.le_of_ble_eq_true rfl) (fun _ => rfl) ?_
          intro x13
          refine g_goto (tgt := 18) dX4_quietest_103 (by decide) ?_
          exact (g_weak [true, true, true, true, true, true, false, false] (ih v3 v4 x13 s10))
        · refine g_iload dX4_quietest_76 rfl ?_
          refine g_ifgt (tgt := 93) dX4_quietest_78 (by decide) ?_ ?_
          · refine g_iload dX4_quietest_93 rfl ?_
            refine g_istore_n (lv' := [some (.inr (.inr pr0)), some (.inl a1), some (.inl a2), some (.inl v5), some (.inl v4), some (.inl v5), some (.inl r5), some (.inl x11)]) dX4_quietest_95 rfl (Nat.le_of_ble_eq_true rfl) rfl ?_
            refine g_iload dX4_quietest_96 rfl ?_
            refine g_istore (lv' := [some (.inr (.inr pr0)), some (.inl a1), some (.inl a2), some (.inl v5), some (.inl r5), some (.inl v5), some (.inl r5), some (.inl x11)]) dX4_quietest_98 (Nat.le_of_ble_eq_true rfl) rfl ?_
            refine n_iinc (fun x14 => [some (.inr (.inr pr0)), some (.inl a1), some (.inl a2), some (.inl v5), some (.inl r5), some (.inl x14), some (.inl r5), some (.inl x11)]) dX4_quietest_100 rfl (Nat.le_of_ble_eq_true rfl) (fun _ => rfl) ?_
            intro x14
            refine g_goto (tgt := 18) dX4_quietest_103 (by decide) ?_
            exact (g_weak [true, true, true, true, true, true, false, false] (ih v5 r5 x14 s10))
          · refine g_iload dX4_quietest_81 rfl ?_
            refine g_ifne (tgt := 100) dX4_quietest_83 (by decide) ?_ ?_
            · refine g_iload dX4_quietest_86 rfl ?_
              refine g_iload dX4_quietest_88 rfl ?_
              refine g_icmple (tgt := 100) dX4_quietest_90 (by decide) ?_ ?_
              · refine g_iload dX4_quietest_93 rfl ?_
                refine g_istore_n (lv' := [some (.inr (.inr pr0)), some (.inl a1), some (.inl a2), some (.inl v5), some (.inl v4), some (.inl v5), some (.inl r5), some (.inl x11)]) dX4_quietest_95 rfl (Nat.le_of_ble_eq_true rfl) rfl ?_
                refine g_iload dX4_quietest_96 rfl ?_
                refine g_istore (lv' := [some (.inr (.inr pr0)), some (.inl a1), some (.inl a2), some (.inl v5), some (.inl r5), some (.inl v5), some (.inl r5), some (.inl x11)]) dX4_quietest_98 (Nat.le_of_ble_eq_true rfl) rfl ?_
                refine n_iinc (fun x15 => [some (.inr (.inr pr0)), some (.inl a1), some (.inl a2), some (.inl v5), some (.inl r5), some (.inl x15), some (.inl r5), some (.inl x11)]) dX4_quietest_100 rfl (Nat.le_of_ble_eq_true rfl) (fun _ => rfl) ?_
                intro x15
                refine g_goto (tgt := 18) dX4_quietest_103 (by decide) ?_
                exact (g_weak [true, true, true, true, true, true, false, false] (ih v5 r5 x15 s10))
              · refine n_iinc (fun x16 => [some (.inr (.inr pr0)), some (.inl a1), some (.inl a2), some (.inl v3), some (.inl v4), some (.inl x16), some (.inl r5), some (.inl x11)]) dX4_quietest_100 rfl (Nat.le_of_ble_eq_true rfl) (fun _ => rfl) ?_
                intro x16
                refine g_goto (tgt := 18) dX4_quietest_103 (by decide) ?_
                exact (g_weak [true, true, true, true, true, true, false, false] (ih v3 v4 x16 s10))
            · refine n_iinc (fun x17 => [some (.inr (.inr pr0)), some (.inl a1), some (.inl a2), some (.inl v3), some (.inl v4), some (.inl x17), some (.inl r5), some (.inl x11)]) dX4_quietest_100 rfl (Nat.le_of_ble_eq_true rfl) (fun _ => rfl) ?_
              intro x17
              refine g_goto (tgt := 18) dX4_quietest_103 (by decide) ?_
              exact (g_weak [true, true, true, true, true, true, false, false] (ih v3 v4 x17 s10))
      · refine n_iinc (fun x18 => [some (.inr (.inr pr0)), some (.inl a1), some (.inl a2), some (.inl v3), some (.inl v4), some (.inl x18), none, none]) dX4_quietest_100 rfl (Nat.le_of_ble_eq_true rfl) (fun _ => rfl) ?_
        intro x18
        refine g_goto (tgt := 18) dX4_quietest_103 (by decide) ?_
        exact (ih v3 v4 x18 σ)
def Pr_quietest (pr0 : Nat) (a1 : Int) (a2 : Int) (σ : Sg) : Rs := (bd (Pr_isPerson pr0 a1 σ) (fun r1 s2 => (if r1 = 0 then (some (0, s2)) else (Pr_quietest_L18 pr0 a1 a2 fu 0 0 1 s2))))
theorem ok_Pr_quietest (pr0 : Nat) (a1 : Int) (a2 : Int) (hpr0 : Kh[pr0]? = some (.inl 4)) (σ : Sg) : MC l Kh Ph yX4_quietest cX4_quietest 8 0 3 [.inr (.inr pr0), .inl a1, .inl a2] σ (Pr_quietest pr0 a1 a2 σ) := by
  refine mc_of (by decide) (Nat.le_of_ble_eq_true rfl) ?_
  change G l Kh Ph RX4 cX4_quietest 8 0 3 0 [some (.inr (.inr pr0)), some (.inl a1), some (.inl a2), none, none, none, none, none] [] σ (Pr_quietest pr0 a1 a2 σ)
  unfold Pr_quietest
  refine g_aload_n dX4_quietest_0 rfl rfl ?_
  refine g_iload_n dX4_quietest_1 rfl rfl ?_
  refine g_callv3 (st := []) 4 mw_X4_isPerson lk_RX4_87 rfl hpr0 (ok_Pr_isPerson pr0 a1 hpr0 σ) (Nat.le_of_ble_eq_true rfl) rfl rfl (Nat.le_of_ble_eq_true rfl) dX4_quietest_2 ?_
  intro r1 s2
  refine g_ifne (tgt := 10) dX4_quietest_5 (by decide) ?_ ?_
  · refine g_iconst dX4_quietest_8 (by decide) ?_
    exact g_iret dX4_quietest_9
  · refine g_iconst dX4_quietest_10 (by decide) ?_
    refine g_istore_n (lv' := [some (.inr (.inr pr0)), some (.inl a1), some (.inl a2), some (.inl 0), none, none, none, none]) dX4_quietest_11 rfl (Nat.le_of_ble_eq_true rfl) rfl ?_
    refine g_iconst dX4_quietest_12 (by decide) ?_
    refine g_istore (lv' := [some (.inr (.inr pr0)), some (.inl a1), some (.inl a2), some (.inl 0), some (.inl 0), none, none, none]) dX4_quietest_13 (Nat.le_of_ble_eq_true rfl) rfl ?_
    refine g_iconst dX4_quietest_15 (by decide) ?_
    refine g_istore (lv' := [some (.inr (.inr pr0)), some (.inl a1), some (.inl a2), some (.inl 0), some (.inl 0), some (.inl 1), none, none]) dX4_quietest_16 (Nat.le_of_ble_eq_true rfl) rfl ?_
    refine (ok_Pr_quietest_L18 pr0 a1 a2 hpr0 fu 0 0 1 s2)
theorem dX11_quiet_0 : decode cX11_quiet 0 = .ok (.aload_n 0, 1) := by decide +kernel
theorem dX11_quiet_1 : decode cX11_quiet 1 = .ok (.iload_n 1, 1) := by decide +kernel
theorem dX11_quiet_2 : decode cX11_quiet 2 = .ok (.iload_n 2, 1) := by decide +kernel
theorem dX11_quiet_3 : decode cX11_quiet 3 = .ok (.invokevirtual 333, 3) := by decide +kernel
theorem dX11_quiet_6 : decode cX11_quiet 6 = .ok (.istore_n 3, 1) := by decide +kernel
theorem dX11_quiet_7 : decode cX11_quiet 7 = .ok (.iload_n 3, 1) := by decide +kernel
theorem dX11_quiet_8 : decode cX11_quiet 8 = .ok (.ifCond .eq 11, 3) := by decide +kernel
theorem dX11_quiet_11 : decode cX11_quiet 11 = .ok (.aload_n 0, 1) := by decide +kernel
theorem dX11_quiet_12 : decode cX11_quiet 12 = .ok (.iload_n 3, 1) := by decide +kernel
theorem dX11_quiet_13 : decode cX11_quiet 13 = .ok (.invokevirtual 147, 3) := by decide +kernel
theorem dX11_quiet_16 : decode cX11_quiet 16 = .ok (.goto 16, 3) := by decide +kernel
theorem dX11_quiet_19 : decode cX11_quiet 19 = .ok (.aload_n 0, 1) := by decide +kernel
theorem dX11_quiet_20 : decode cX11_quiet 20 = .ok (.aload_n 0, 1) := by decide +kernel
theorem dX11_quiet_21 : decode cX11_quiet 21 = .ok (.getfield 43, 3) := by decide +kernel
theorem dX11_quiet_24 : decode cX11_quiet 24 = .ok (.iload_n 1, 1) := by decide +kernel
theorem dX11_quiet_25 : decode cX11_quiet 25 = .ok (.iload_n 2, 1) := by decide +kernel
theorem dX11_quiet_26 : decode cX11_quiet 26 = .ok (.invokevirtual 342, 3) := by decide +kernel
theorem dX11_quiet_29 : decode cX11_quiet 29 = .ok (.invokevirtual 194, 3) := by decide +kernel
theorem dX11_quiet_32 : decode cX11_quiet 32 = .ok (.ireturn, 1) := by decide +kernel
theorem mw_X11_quiet : MW yX11_quiet cX11_quiet 4 0 2 false := ⟨tm 1269 (by decide +kernel) rfl, tm 235 (by decide +kernel) rfl, by decide, by decide, (by rw [if_neg (by decide)]; exact ⟨tm 1267 (by decide +kernel) rfl, tm 1268 (by decide +kernel) rfl⟩)⟩
theorem lk_RX11_342 : LK RX11 342 yX4_quietest := Or.inr ⟨"HairProvince", tm 1270 (by decide +kernel) rfl⟩
def H_quiet (a1 : Int) (a2 : Int) (σ : Sg) : Rs := (bd (H_aheadStatus a1 a2 σ) (fun r1 s2 => (if r1 = 0 then (bd (Pr_quietest 8 a1 a2 s2) (fun r3 s4 => (bd (H_give r3 s4) (fun r5 s6 => (some (r5, s6)))))) else (bd (H_fail r1 s2) (fun r7 s8 => (some (r7, s8)))))))
theorem ok_H_quiet (a1 : Int) (a2 : Int) (σ : Sg) : MC l Kh Ph yX11_quiet cX11_quiet 4 0 4 [.inr (.inr 0), .inl a1, .inl a2] σ (H_quiet a1 a2 σ) := by
  refine mc_of (by decide) (Nat.le_of_ble_eq_true rfl) ?_
  change G l Kh Ph RX11 cX11_quiet 4 0 4 0 [some (.inr (.inr 0)), some (.inl a1), some (.inl a2), none] [] σ (H_quiet a1 a2 σ)
  unfold H_quiet
  refine g_aload_n dX11_quiet_0 rfl rfl ?_
  refine g_iload_n dX11_quiet_1 rfl rfl ?_
  refine g_iload_n dX11_quiet_2 rfl rfl ?_
  refine g_callv0 (st := []) 9 mw_X11_aheadStatus lk_RX11_333 rfl kh_0 (ok_H_aheadStatus a1 a2 σ) (Nat.le_of_ble_eq_true rfl) rfl rfl (Nat.le_of_ble_eq_true rfl) dX11_quiet_3 ?_
  intro r1 s2
  refine g_istore_n (lv' := [some (.inr (.inr 0)), some (.inl a1), some (.inl a2), some (.inl r1)]) dX11_quiet_6 rfl (Nat.le_of_ble_eq_true rfl) rfl ?_
  refine g_iload_n dX11_quiet_7 rfl rfl ?_
  refine g_ifeq (tgt := 19) dX11_quiet_8 (by decide) ?_ ?_
  · refine g_aload_n dX11_quiet_19 rfl rfl ?_
    refine g_aload_n dX11_quiet_20 rfl rfl ?_
    refine g_getr' (q := 8) fl_RX11_43 kh_0 (by decide) rfl dX11_quiet_21 ?_
    refine g_iload_n dX11_quiet_24 rfl rfl ?_
    refine g_iload_n dX11_quiet_25 rfl rfl ?_
    refine g_callv0 (st := [.inr (.inr 0)]) 4 mw_X4_quietest lk_RX11_342 rfl kh_8 (ok_Pr_quietest 8 a1 a2 kh_8 s2) (Nat.le_of_ble_eq_true rfl) rfl rfl (Nat.le_of_ble_eq_true rfl) dX11_quiet_26 ?_
    intro r3 s4
    refine g_callv0 (st := []) 9 mw_X11_give lk_RX11_194 rfl kh_0 (ok_H_give r3 s4) (Nat.le_of_ble_eq_true rfl) rfl rfl (Nat.le_of_ble_eq_true rfl) dX11_quiet_29 ?_
    intro r5 s6
    exact g_iret dX11_quiet_32
  · refine g_aload_n dX11_quiet_11 rfl rfl ?_
    refine g_iload_n dX11_quiet_12 rfl rfl ?_
    refine g_callv0 (st := []) 9 mw_X11_fail lk_RX11_147 rfl kh_0 (ok_H_fail r1 s2) (Nat.le_of_ble_eq_true rfl) rfl rfl (Nat.le_of_ble_eq_true rfl) dX11_quiet_13 ?_
    intro r7 s8
    refine g_goto (tgt := 32) dX11_quiet_16 (by decide) ?_
    exact g_iret dX11_quiet_32
theorem dX11_quietHair_0 : decode cX11_quietHair 0 = .ok (.aload_n 0, 1) := by decide +kernel
theorem dX11_quietHair_1 : decode cX11_quietHair 1 = .ok (.iload_n 1, 1) := by decide +kernel
theorem dX11_quietHair_2 : decode cX11_quietHair 2 = .ok (.iload_n 2, 1) := by decide +kernel
theorem dX11_quietHair_3 : decode cX11_quietHair 3 = .ok (.invokevirtual 333, 3) := by decide +kernel
theorem dX11_quietHair_6 : decode cX11_quietHair 6 = .ok (.istore_n 3, 1) := by decide +kernel
theorem dX11_quietHair_7 : decode cX11_quietHair 7 = .ok (.iload_n 3, 1) := by decide +kernel
theorem dX11_quietHair_8 : decode cX11_quietHair 8 = .ok (.ifCond .eq 9, 3) := by decide +kernel
theorem dX11_quietHair_11 : decode cX11_quietHair 11 = .ok (.aload_n 0, 1) := by decide +kernel
theorem dX11_quietHair_12 : decode cX11_quietHair 12 = .ok (.iload_n 3, 1) := by decide +kernel
theorem dX11_quietHair_13 : decode cX11_quietHair 13 = .ok (.invokevirtual 147, 3) := by decide +kernel
theorem dX11_quietHair_16 : decode cX11_quietHair 16 = .ok (.ireturn, 1) := by decide +kernel
theorem dX11_quietHair_17 : decode cX11_quietHair 17 = .ok (.aload_n 0, 1) := by decide +kernel
theorem dX11_quietHair_18 : decode cX11_quietHair 18 = .ok (.aload_n 0, 1) := by decide +kernel
theorem dX11_quietHair_19 : decode cX11_quietHair 19 = .ok (.getfield 43, 3) := by decide +kernel
theorem dX11_quietHair_22 : decode cX11_quietHair 22 = .ok (.iload_n 1, 1) := by decide +kernel
theorem dX11_quietHair_23 : decode cX11_quietHair 23 = .ok (.aload_n 0, 1) := by decide +kernel
theorem dX11_quietHair_24 : decode cX11_quietHair 24 = .ok (.getfield 43, 3) := by decide +kernel
theorem dX11_quietHair_27 : decode cX11_quietHair 27 = .ok (.iload_n 1, 1) := by decide +kernel
theorem dX11_quietHair_28 : decode cX11_quietHair 28 = .ok (.iload_n 2, 1) := by decide +kernel
theorem dX11_quietHair_29 : decode cX11_quietHair 29 = .ok (.invokevirtual 342, 3) := by decide +kernel
theorem dX11_quietHair_32 : decode cX11_quietHair 32 = .ok (.iload_n 2, 1) := by decide +kernel
theorem dX11_quietHair_33 : decode cX11_quietHair 33 = .ok (.invokevirtual 345, 3) := by decide +kernel
theorem dX11_quietHair_36 : decode cX11_quietHair 36 = .ok (.invokevirtual 194, 3) := by decide +kernel
theorem dX11_quietHair_39 : decode cX11_quietHair 39 = .ok (.ireturn, 1) := by decide +kernel
theorem mw_X11_quietHair : MW yX11_quietHair cX11_quietHair 4 0 2 false := ⟨tm 1278 (by decide +kernel) rfl, tm 235 (by decide +kernel) rfl, by decide, by decide, (by rw [if_neg (by decide)]; exact ⟨tm 1276 (by decide +kernel) rfl, tm 1277 (by decide +kernel) rfl⟩)⟩
theorem lk_RX11_345 : LK RX11 345 yX4_hairKept := Or.inr ⟨"HairProvince", tm 1279 (by decide +kernel) rfl⟩
def H_quietHair (a1 : Int) (a2 : Int) (σ : Sg) : Rs := (bd (H_aheadStatus a1 a2 σ) (fun r1 s2 => (if r1 = 0 then (bd (Pr_quietest 8 a1 a2 s2) (fun r3 s4 => (bd (Pr_hairKept 8 a1 r3 a2 s4) (fun r5 s6 => (bd (H_give r5 s6) (fun r7 s8 => (some (r7, s8)))))))) else (bd (H_fail r1 s2) (fun r9 s10 => (some (r9, s10)))))))
theorem ok_H_quietHair (a1 : Int) (a2 : Int) (σ : Sg) : MC l Kh Ph yX11_quietHair cX11_quietHair 4 0 4 [.inr (.inr 0), .inl a1, .inl a2] σ (H_quietHair a1 a2 σ) := by
  refine mc_of (by decide) (Nat.le_of_ble_eq_true rfl) ?_
  change G l Kh Ph RX11 cX11_quietHair 4 0 4 0 [some (.inr (.inr 0)), some (.inl a1), some (.inl a2), none] [] σ (H_quietHair a1 a2 σ)
  unfold H_quietHair
  refine g_aload_n dX11_quietHair_0 rfl rfl ?_
  refine g_iload_n dX11_quietHair_1 rfl rfl ?_
  refine g_iload_n dX11_quietHair_2 rfl rfl ?_
  refine g_callv0 (st := []) 9 mw_X11_aheadStatus lk_RX11_333 rfl kh_0 (ok_H_aheadStatus a1 a2 σ) (Nat.le_of_ble_eq_true rfl) rfl rfl (Nat.le_of_ble_eq_true rfl) dX11_quietHair_3 ?_
  intro r1 s2
  refine g_istore_n (lv' := [some (.inr (.inr 0)), some (.inl a1), some (.inl a2), some (.inl r1)]) dX11_quietHair_6 rfl (Nat.le_of_ble_eq_true rfl) rfl ?_
  refine g_iload_n dX11_quietHair_7 rfl rfl ?_
  refine g_ifeq (tgt := 17) dX11_quietHair_8 (by decide) ?_ ?_
  · refine g_aload_n dX11_quietHair_17 rfl rfl ?_
    refine g_aload_n dX11_quietHair_18 rfl rfl ?_
    refine g_getr' (q := 8) fl_RX11_43 kh_0 (by decide) rfl dX11_quietHair_19 ?_
    refine g_iload_n dX11_quietHair_22 rfl rfl ?_
    refine g_aload_n dX11_quietHair_23 rfl rfl ?_
    refine g_getr' (q := 8) fl_RX11_43 kh_0 (by decide) rfl dX11_quietHair_24 ?_
    refine g_iload_n dX11_quietHair_27 rfl rfl ?_
    refine g_iload_n dX11_quietHair_28 rfl rfl ?_
    refine g_callv0 (st := [.inl a1, .inr (.inr 8), .inr (.inr 0)]) 4 mw_X4_quietest lk_RX11_342 rfl kh_8 (ok_Pr_quietest 8 a1 a2 kh_8 s2) (Nat.le_of_ble_eq_true rfl) rfl rfl (Nat.le_of_ble_eq_true rfl) dX11_quietHair_29 ?_
    intro r3 s4
    refine g_iload_n dX11_quietHair_32 rfl rfl ?_
    refine g_callv0 (st := [.inr (.inr 0)]) 4 mw_X4_hairKept lk_RX11_345 rfl kh_8 (ok_Pr_hairKept 8 a1 r3 a2 kh_8 s4) (Nat.le_of_ble_eq_true rfl) rfl rfl (Nat.le_of_ble_eq_true rfl) dX11_quietHair_33 ?_
    intro r5 s6
    refine g_callv0 (st := []) 9 mw_X11_give lk_RX11_194 rfl kh_0 (ok_H_give r5 s6) (Nat.le_of_ble_eq_true rfl) rfl rfl (Nat.le_of_ble_eq_true rfl) dX11_quietHair_36 ?_
    intro r7 s8
    exact g_iret dX11_quietHair_39
  · refine g_aload_n dX11_quietHair_11 rfl rfl ?_
    refine g_iload_n dX11_quietHair_12 rfl rfl ?_
    refine g_callv0 (st := []) 9 mw_X11_fail lk_RX11_147 rfl kh_0 (ok_H_fail r1 s2) (Nat.le_of_ble_eq_true rfl) rfl rfl (Nat.le_of_ble_eq_true rfl) dX11_quietHair_13 ?_
    intro r9 s10
    exact g_iret dX11_quietHair_16
theorem dX11_read_0 : decode cX11_read 0 = .ok (.aload_n 0, 1) := by decide +kernel
theorem dX11_read_1 : decode cX11_read 1 = .ok (.iload_n 1, 1) := by decide +kernel
theorem dX11_read_2 : decode cX11_read 2 = .ok (.iload_n 2, 1) := by decide +kernel
theorem dX11_read_3 : decode cX11_read 3 = .ok (.invokevirtual 139, 3) := by decide +kernel
theorem dX11_read_6 : decode cX11_read 6 = .ok (.istore_n 3, 1) := by decide +kernel
theorem dX11_read_7 : decode cX11_read 7 = .ok (.iload_n 3, 1) := by decide +kernel
theorem dX11_read_8 : decode cX11_read 8 = .ok (.ifCond .eq 10, 3) := by decide +kernel
theorem dX11_read_11 : decode cX11_read 11 = .ok (.aload_n 0, 1) := by decide +kernel
theorem dX11_read_12 : decode cX11_read 12 = .ok (.iload_n 3, 1) := by decide +kernel
theorem dX11_read_13 : decode cX11_read 13 = .ok (.invokevirtual 147, 3) := by decide +kernel
theorem dX11_read_16 : decode cX11_read 16 = .ok (.i2l, 1) := by decide +kernel
theorem dX11_read_17 : decode cX11_read 17 = .ok (.lreturn, 1) := by decide +kernel
theorem dX11_read_18 : decode cX11_read 18 = .ok (.aload_n 0, 1) := by decide +kernel
theorem dX11_read_19 : decode cX11_read 19 = .ok (.iconst 0, 1) := by decide +kernel
theorem dX11_read_20 : decode cX11_read 20 = .ok (.putfield 9, 3) := by decide +kernel
theorem dX11_read_23 : decode cX11_read 23 = .ok (.aload_n 0, 1) := by decide +kernel
theorem dX11_read_24 : decode cX11_read 24 = .ok (.getfield 29, 3) := by decide +kernel
theorem dX11_read_27 : decode cX11_read 27 = .ok (.iload_n 1, 1) := by decide +kernel
theorem dX11_read_28 : decode cX11_read 28 = .ok (.iload_n 2, 1) := by decide +kernel
theorem dX11_read_29 : decode cX11_read 29 = .ok (.invokevirtual 150, 3) := by decide +kernel
theorem dX11_read_32 : decode cX11_read 32 = .ok (.lreturn, 1) := by decide +kernel
theorem mw_X11_read : MW yX11_read cX11_read 4 1 2 false := ⟨tm 758 (by decide +kernel) rfl, tm 235 (by decide +kernel) rfl, by decide, by decide, (by rw [if_neg (by decide)]; exact ⟨tm 756 (by decide +kernel) rfl, tm 757 (by decide +kernel) rfl⟩)⟩
theorem lk_RX11_139 : LK RX11 139 yX11_placeStatus := Or.inl (tm 724 (by decide +kernel) rfl)
def H_read (a1 : Int) (a2 : Int) (σ : Sg) : Rs := (bd (H_placeStatus a1 a2 σ) (fun r1 s2 => (if r1 = 0 then (nm (up_s s2 0 0 0) (fun s3 => (bd (Tr_at a1 a2 s3) (fun r4 s5 => (some (r4, s5)))))) else (bd (H_fail r1 s2) (fun r6 s7 => (some (r6, s7)))))))
theorem ok_H_read (a1 : Int) (a2 : Int) (σ : Sg) : MC l Kh Ph yX11_read cX11_read 4 1 5 [.inr (.inr 0), .inl a1, .inl a2] σ (H_read a1 a2 σ) := by
  refine mc_of (by decide) (Nat.le_of_ble_eq_true rfl) ?_
  change G l Kh Ph RX11 cX11_read 4 1 5 0 [some (.inr (.inr 0)), some (.inl a1), some (.inl a2), none] [] σ (H_read a1 a2 σ)
  unfold H_read
  refine g_aload_n dX11_read_0 rfl rfl ?_
  refine g_iload_n dX11_read_1 rfl rfl ?_
  refine g_iload_n dX11_read_2 rfl rfl ?_
  refine g_callv0 (st := []) 9 mw_X11_placeStatus lk_RX11_139 rfl kh_0 (ok_H_placeStatus a1 a2 σ) (Nat.le_of_ble_eq_true rfl) rfl rfl (Nat.le_of_ble_eq_true rfl) dX11_read_3 ?_
  intro r1 s2
  refine g_istore_n (lv' := [some (.inr (.inr 0)), some (.inl a1), some (.inl a2), some (.inl r1)]) dX11_read_6 rfl (Nat.le_of_ble_eq_true rfl) rfl ?_
  refine g_iload_n dX11_read_7 rfl rfl ?_
  refine g_ifeq (tgt := 18) dX11_read_8 (by decide) ?_ ?_
  · refine g_aload_n dX11_read_18 rfl rfl ?_
    refine g_iconst dX11_read_19 (by decide) ?_
    refine g_puti fl_RX11_9 kh_0 (by decide) dX11_read_20 ?_
    intro s3
    refine g_aload_n dX11_read_23 rfl rfl ?_
    refine g_getr' (q := 1) fl_RX11_29 kh_0 (by decide) rfl dX11_read_24 ?_
    refine g_iload_n dX11_read_27 rfl rfl ?_
    refine g_iload_n dX11_read_28 rfl rfl ?_
    refine g_callv1 (st := []) 7 mw_X8_at lk_RX11_150 rfl kh_1 (ok_Tr_at a1 a2 s3) (Nat.le_of_ble_eq_true rfl) rfl rfl (Nat.le_of_ble_eq_true rfl) dX11_read_29 ?_
    intro r4 s5
    exact g_lret dX11_read_32
  · refine g_aload_n dX11_read_11 rfl rfl ?_
    refine g_iload_n dX11_read_12 rfl rfl ?_
    refine g_callv0 (st := []) 9 mw_X11_fail lk_RX11_147 rfl kh_0 (ok_H_fail r1 s2) (Nat.le_of_ble_eq_true rfl) rfl rfl (Nat.le_of_ble_eq_true rfl) dX11_read_13 ?_
    intro r6 s7
    refine g_i2l dX11_read_16 ?_
    exact g_lret dX11_read_17
theorem dX11_riskiest_0 : decode cX11_riskiest 0 = .ok (.aload_n 0, 1) := by decide +kernel
theorem dX11_riskiest_1 : decode cX11_riskiest 1 = .ok (.getfield 43, 3) := by decide +kernel
theorem dX11_riskiest_4 : decode cX11_riskiest 4 = .ok (.getfield 217, 3) := by decide +kernel
theorem dX11_riskiest_7 : decode cX11_riskiest 7 = .ok (.ifCond .ne 10, 3) := by decide +kernel
theorem dX11_riskiest_10 : decode cX11_riskiest 10 = .ok (.aload_n 0, 1) := by decide +kernel
theorem dX11_riskiest_11 : decode cX11_riskiest 11 = .ok (.bipush 8, 2) := by decide +kernel
theorem dX11_riskiest_13 : decode cX11_riskiest 13 = .ok (.invokevirtual 147, 3) := by decide +kernel
theorem dX11_riskiest_16 : decode cX11_riskiest 16 = .ok (.ireturn, 1) := by decide +kernel
theorem dX11_riskiest_17 : decode cX11_riskiest 17 = .ok (.iconst 0, 1) := by decide +kernel
theorem dX11_riskiest_18 : decode cX11_riskiest 18 = .ok (.istore_n 1, 1) := by decide +kernel
theorem dX11_riskiest_19 : decode cX11_riskiest 19 = .ok (.aload_n 0, 1) := by decide +kernel
theorem dX11_riskiest_20 : decode cX11_riskiest 20 = .ok (.iconst 0, 1) := by decide +kernel
theorem dX11_riskiest_21 : decode cX11_riskiest 21 = .ok (.invokevirtual 426, 3) := by decide +kernel
theorem dX11_riskiest_24 : decode cX11_riskiest 24 = .ok (.lstore_n 2, 1) := by decide +kernel
theorem dX11_riskiest_25 : decode cX11_riskiest 25 = .ok (.iconst 1, 1) := by decide +kernel
theorem dX11_riskiest_26 : decode cX11_riskiest 26 = .ok (.istore 4, 2) := by decide +kernel
theorem dX11_riskiest_28 : decode cX11_riskiest 28 = .ok (.iload 4, 2) := by decide +kernel
theorem dX11_riskiest_30 : decode cX11_riskiest 30 = .ok (.aload_n 0, 1) := by decide +kernel
theorem dX11_riskiest_31 : decode cX11_riskiest 31 = .ok (.getfield 43, 3) := by decide +kernel
theorem dX11_riskiest_34 : decode cX11_riskiest 34 = .ok (.getfield 217, 3) := by decide +kernel
theorem dX11_riskiest_37 : decode cX11_riskiest 37 = .ok (.if_icmp .ge 30, 3) := by decide +kernel
theorem dX11_riskiest_40 : decode cX11_riskiest 40 = .ok (.aload_n 0, 1) := by decide +kernel
theorem dX11_riskiest_41 : decode cX11_riskiest 41 = .ok (.iload 4, 2) := by decide +kernel
theorem dX11_riskiest_43 : decode cX11_riskiest 43 = .ok (.invokevirtual 426, 3) := by decide +kernel
theorem dX11_riskiest_46 : decode cX11_riskiest 46 = .ok (.lstore 5, 2) := by decide +kernel
theorem dX11_riskiest_48 : decode cX11_riskiest 48 = .ok (.lload 5, 2) := by decide +kernel
theorem dX11_riskiest_50 : decode cX11_riskiest 50 = .ok (.lload_n 2, 1) := by decide +kernel
theorem dX11_riskiest_51 : decode cX11_riskiest 51 = .ok (.lcmp, 1) := by decide +kernel
theorem dX11_riskiest_52 : decode cX11_riskiest 52 = .ok (.ifCond .ge 9, 3) := by decide +kernel
theorem dX11_riskiest_55 : decode cX11_riskiest 55 = .ok (.lload 5, 2) := by decide +kernel
theorem dX11_riskiest_57 : decode cX11_riskiest 57 = .ok (.lstore_n 2, 1) := by decide +kernel
theorem dX11_riskiest_58 : decode cX11_riskiest 58 = .ok (.iload 4, 2) := by decide +kernel
theorem dX11_riskiest_60 : decode cX11_riskiest 60 = .ok (.istore_n 1, 1) := by decide +kernel
theorem dX11_riskiest_61 : decode cX11_riskiest 61 = .ok (.iinc 4 1, 3) := by decide +kernel
theorem dX11_riskiest_64 : decode cX11_riskiest 64 = .ok (.goto (-36), 3) := by decide +kernel
theorem dX11_riskiest_67 : decode cX11_riskiest 67 = .ok (.aload_n 0, 1) := by decide +kernel
theorem dX11_riskiest_68 : decode cX11_riskiest 68 = .ok (.iload_n 1, 1) := by decide +kernel
theorem dX11_riskiest_69 : decode cX11_riskiest 69 = .ok (.invokevirtual 194, 3) := by decide +kernel
theorem dX11_riskiest_72 : decode cX11_riskiest 72 = .ok (.ireturn, 1) := by decide +kernel
theorem mw_X11_riskiest : MW yX11_riskiest cX11_riskiest 7 0 0 false := ⟨tm 1481 (by decide +kernel) rfl, tm 235 (by decide +kernel) rfl, by decide, by decide, (by rw [if_neg (by decide)]; exact ⟨tm 1479 (by decide +kernel) rfl, tm 1480 (by decide +kernel) rfl⟩)⟩
theorem lk_RX11_426 : LK RX11 426 yX11_keptQuiet := Or.inl (tm 1482 (by decide +kernel) rfl)
def H_riskiest_L28  : Nat → Int → Int → Int → Sg → Rs
  | 0, _, _, _, _ => none
  | n + 1, v1, v2, v4, σ => (if v4 < (σ 8 10) then (bd (H_keptQuiet v4 σ) (fun r5 s6 => (if r5 < v2 then (nm (w32 (v4 + 1)) (fun x7 => (H_riskiest_L28 n v4 r5 x7 s6))) else (nm (w32 (v4 + 1)) (fun x8 => (H_riskiest_L28 n v1 v2 x8 s6)))))) else (bd (H_give v1 σ) (fun r9 s10 => (some (r9, s10)))))
theorem ok_H_riskiest_L28 : ∀ (n : Nat) (v1 v2 v4 : Int) (σ : Sg), G l Kh Ph RX11 cX11_riskiest 7 0 3 28 [some (.inr (.inr 0)), some (.inl v1), some (.inr (.inl v2)), none, some (.inl v4), none, none] [] σ (H_riskiest_L28  n v1 v2 v4 σ) := by
  intro n
  induction n with
  | zero => intros; exact G.none_
  | succ n ih =>
    intro v1 v2 v4 σ
    rw [H_riskiest_L28]
    refine g_iload dX11_riskiest_28 rfl ?_
    refine g_aload_n dX11_riskiest_30 rfl rfl ?_
    refine g_getr' (q := 8) fl_RX11_43 kh_0 (by decide) rfl dX11_riskiest_31 ?_
    refine g_geti fl_RX11_217 kh_8 (by decide) dX11_riskiest_34 ?_
    refine g_icmpge (tgt := 67) dX11_riskiest_37 (by decide) ?_ ?_
    · refine g_aload_n dX11_riskiest_40 rfl rfl ?_
      refine g_iload dX11_riskiest_41 rfl ?_
      refine g_callv1 (st := []) 9 mw_X11_keptQuiet lk_RX11_426 rfl kh_0 (ok_H_keptQuiet v4 σ) (Nat.le_of_ble_eq_true rfl) rfl rfl (Nat.le_of_ble_eq_true rfl) dX11_riskiest_43 ?_
      intro r5 s6
      refine g_lstore (lv' := [some (.inr (.inr 0)), some (.inl v1), some (.inr (.inl v2)), none, some (.inl v4), some (.inr (.inl r5)), none]) dX11_riskiest_46 (Nat.le_of_ble_eq_true rfl) rfl ?_
      refine g_lload dX11_riskiest_48 rfl ?_
      refine g_lload_n dX11_riskiest_50 rfl rfl ?_
      refine g_lcmpge (tgt := 61) dX11_riskiest_51 dX11_riskiest_52 (by decide) ?_ ?_
      · refine g_lload dX11_riskiest_55 rfl ?_
        refine g_lstore_n (lv' := [some (.inr (.inr 0)), some (.inl v1), some (.inr (.inl r5)), none, some (.inl v4), some (.inr (.inl r5)), none]) dX11_riskiest_57 rfl (Nat.le_of_ble_eq_true rfl) rfl ?_
        refine g_iload dX11_riskiest_58 rfl ?_
        refine g_istore_n (lv' := [some (.inr (.inr 0)), some (.inl v4), some (.inr (.inl r5)), none, some (.inl v4), some (.inr (.inl r5)), none]) dX11_riskiest_60 rfl (Nat.le_of_ble_eq_true rfl) rfl ?_
        refine n_iinc (fun x7 => [some (.inr (.inr 0)), some (.inl v4), some (.inr (.inl r5)), none, some (.inl x7), some (.inr (.inl r5)), none]) dX11_riskiest_61 rfl (Nat.le_of_ble_eq_true rfl) (fun _ => rfl) ?_
        intro x7
        refine g_goto (tgt := 28) dX11_riskiest_64 (by decide) ?_
        exact (g_weak [true, true, true, false, true, false, false] (ih v4 r5 x7 s6))
      · refine n_iinc (fun x8 => [some (.inr (.inr 0)), some (.inl v1), some (.inr (.inl v2)), none, some (.inl x8), some (.inr (.inl r5)), none]) dX11_riskiest_61 rfl (Nat.le_of_ble_eq_true rfl) (fun _ => rfl) ?_
        intro x8
        refine g_goto (tgt := 28) dX11_riskiest_64 (by decide) ?_
        exact (g_weak [true, true, true, false, true, false, false] (ih v1 v2 x8 s6))
    · refine g_aload_n dX11_riskiest_67 rfl rfl ?_
      refine g_iload_n dX11_riskiest_68 rfl rfl ?_
      refine g_callv0 (st := []) 9 mw_X11_give lk_RX11_194 rfl kh_0 (ok_H_give v1 σ) (Nat.le_of_ble_eq_true rfl) rfl rfl (Nat.le_of_ble_eq_true rfl) dX11_riskiest_69 ?_
      intro r9 s10
      exact g_iret dX11_riskiest_72
def H_riskiest  (σ : Sg) : Rs := (if (σ 8 10) = 0 then (bd (H_fail 8 σ) (fun r1 s2 => (some (r1, s2)))) else (bd (H_keptQuiet 0 σ) (fun r3 s4 => (H_riskiest_L28 fu 0 r3 1 s4))))
theorem ok_H_riskiest (σ : Sg) : MC l Kh Ph yX11_riskiest cX11_riskiest 7 0 3 [.inr (.inr 0)] σ (H_riskiest σ) := by
  refine mc_of (by decide) (Nat.le_of_ble_eq_true rfl) ?_
  change G l Kh Ph RX11 cX11_riskiest 7 0 3 0 [some (.inr (.inr 0)), none, none, none, none, none, none] [] σ (H_riskiest  σ)
  unfold H_riskiest
  refine g_aload_n dX11_riskiest_0 rfl rfl ?_
  refine g_getr' (q := 8) fl_RX11_43 kh_0 (by decide) rfl dX11_riskiest_1 ?_
  refine g_geti fl_RX11_217 kh_8 (by decide) dX11_riskiest_4 ?_
  refine g_ifne (tgt := 17) dX11_riskiest_7 (by decide) ?_ ?_
  · refine g_aload_n dX11_riskiest_10 rfl rfl ?_
    refine g_bipush dX11_riskiest_11 (by decide) ?_
    refine g_callv0 (st := []) 9 mw_X11_fail lk_RX11_147 rfl kh_0 (ok_H_fail 8 σ) (Nat.le_of_ble_eq_true rfl) rfl rfl (Nat.le_of_ble_eq_true rfl) dX11_riskiest_13 ?_
    intro r1 s2
    exact g_iret dX11_riskiest_16
  · refine g_iconst dX11_riskiest_17 (by decide) ?_
    refine g_istore_n (lv' := [some (.inr (.inr 0)), some (.inl 0), none, none, none, none, none]) dX11_riskiest_18 rfl (Nat.le_of_ble_eq_true rfl) rfl ?_
    refine g_aload_n dX11_riskiest_19 rfl rfl ?_
    refine g_iconst dX11_riskiest_20 (by decide) ?_
    refine g_callv1 (st := []) 9 mw_X11_keptQuiet lk_RX11_426 rfl kh_0 (ok_H_keptQuiet 0 σ) (Nat.le_of_ble_eq_true rfl) rfl rfl (Nat.le_of_ble_eq_true rfl) dX11_riskiest_21 ?_
    intro r3 s4
    refine g_lstore_n (lv' := [some (.inr (.inr 0)), some (.inl 0), some (.inr (.inl r3)), none, none, none, none]) dX11_riskiest_24 rfl (Nat.le_of_ble_eq_true rfl) rfl ?_
    refine g_iconst dX11_riskiest_25 (by decide) ?_
    refine g_istore (lv' := [some (.inr (.inr 0)), some (.inl 0), some (.inr (.inl r3)), none, some (.inl 1), none, none]) dX11_riskiest_26 (Nat.le_of_ble_eq_true rfl) rfl ?_
    refine (ok_H_riskiest_L28 fu 0 r3 1 s4)
theorem dX4_isPeopleSet_0 : decode cX4_isPeopleSet 0 = .ok (.iload_n 1, 1) := by decide +kernel
theorem dX4_isPeopleSet_1 : decode cX4_isPeopleSet 1 = .ok (.ifCond .lt 17, 3) := by decide +kernel
theorem dX4_isPeopleSet_4 : decode cX4_isPeopleSet 4 = .ok (.iload_n 1, 1) := by decide +kernel
theorem dX4_isPeopleSet_5 : decode cX4_isPeopleSet 5 = .ok (.iconst 1, 1) := by decide +kernel
theorem dX4_isPeopleSet_6 : decode cX4_isPeopleSet 6 = .ok (.aload_n 0, 1) := by decide +kernel
theorem dX4_isPeopleSet_7 : decode cX4_isPeopleSet 7 = .ok (.getfield 53, 3) := by decide +kernel
theorem dX4_isPeopleSet_10 : decode cX4_isPeopleSet 10 = .ok (.ishl, 1) := by decide +kernel
theorem dX4_isPeopleSet_11 : decode cX4_isPeopleSet 11 = .ok (.if_icmp .ge 7, 3) := by decide +kernel
theorem dX4_isPeopleSet_14 : decode cX4_isPeopleSet 14 = .ok (.iconst 1, 1) := by decide +kernel
theorem dX4_isPeopleSet_15 : decode cX4_isPeopleSet 15 = .ok (.goto 4, 3) := by decide +kernel
theorem dX4_isPeopleSet_18 : decode cX4_isPeopleSet 18 = .ok (.iconst 0, 1) := by decide +kernel
theorem dX4_isPeopleSet_19 : decode cX4_isPeopleSet 19 = .ok (.ireturn, 1) := by decide +kernel
theorem mw_X4_isPeopleSet : MW yX4_isPeopleSet cX4_isPeopleSet 2 3 1 false := ⟨tm 1350 (by decide +kernel) rfl, tm 242 (by decide +kernel) rfl, by decide, by decide, (by rw [if_neg (by decide)]; exact ⟨tm 1349 (by decide +kernel) rfl, tm 90 (by decide +kernel) rfl⟩)⟩
def Pr_isPeopleSet (pr0 : Nat) (a1 : Int) (σ : Sg) : Rs := (if a1 < 0 then (some (0, σ)) else (if a1 < (sl32 1 (σ pr0 11)) then (some (1, σ)) else (some (0, σ))))
theorem ok_Pr_isPeopleSet (pr0 : Nat) (a1 : Int) (hpr0 : Kh[pr0]? = some (.inl 4)) (σ : Sg) : MC l Kh Ph yX4_isPeopleSet cX4_isPeopleSet 2 3 1 [.inr (.inr pr0), .inl a1] σ (Pr_isPeopleSet pr0 a1 σ) := by
  refine mc_of (by decide) (Nat.le_of_ble_eq_true rfl) ?_
  change G l Kh Ph RX4 cX4_isPeopleSet 2 3 1 0 [some (.inr (.inr pr0)), some (.inl a1)] [] σ (Pr_isPeopleSet pr0 a1 σ)
  unfold Pr_isPeopleSet
  refine g_iload_n dX4_isPeopleSet_0 rfl rfl ?_
  refine g_iflt (tgt := 18) dX4_isPeopleSet_1 (by decide) ?_ ?_
  · refine g_iconst dX4_isPeopleSet_18 (by decide) ?_
    exact g_zret0 dX4_isPeopleSet_19
  · refine g_iload_n dX4_isPeopleSet_4 rfl rfl ?_
    refine g_iconst dX4_isPeopleSet_5 (by decide) ?_
    refine g_aload_n dX4_isPeopleSet_6 rfl rfl ?_
    refine g_geti fl_RX4_53 hpr0 (by decide) dX4_isPeopleSet_7 ?_
    refine g_ishl dX4_isPeopleSet_10 ?_
    refine g_icmpge (tgt := 18) dX4_isPeopleSet_11 (by decide) ?_ ?_
    · refine g_iconst dX4_isPeopleSet_14 (by decide) ?_
      refine g_goto (tgt := 19) dX4_isPeopleSet_15 (by decide) ?_
      exact g_zret1 dX4_isPeopleSet_19
    · refine g_iconst dX4_isPeopleSet_18 (by decide) ?_
      exact g_zret0 dX4_isPeopleSet_19
theorem dX6_fewestOf_0 : decode cX6_fewestOf 0 = .ok (.bipush 6, 2) := by decide +kernel
theorem dX6_fewestOf_2 : decode cX6_fewestOf 2 = .ok (.istore_n 3, 1) := by decide +kernel
theorem dX6_fewestOf_3 : decode cX6_fewestOf 3 = .ok (.iconst 1, 1) := by decide +kernel
theorem dX6_fewestOf_4 : decode cX6_fewestOf 4 = .ok (.istore 4, 2) := by decide +kernel
theorem dX6_fewestOf_6 : decode cX6_fewestOf 6 = .ok (.iload 4, 2) := by decide +kernel
theorem dX6_fewestOf_8 : decode cX6_fewestOf 8 = .ok (.iload_n 2, 1) := by decide +kernel
theorem dX6_fewestOf_9 : decode cX6_fewestOf 9 = .ok (.if_icmp .gt 52, 3) := by decide +kernel
theorem dX6_fewestOf_12 : decode cX6_fewestOf 12 = .ok (.iload 4, 2) := by decide +kernel
theorem dX6_fewestOf_14 : decode cX6_fewestOf 14 = .ok (.bipush 64, 2) := by decide +kernel
theorem dX6_fewestOf_16 : decode cX6_fewestOf 16 = .ok (.if_icmp .ge 45, 3) := by decide +kernel
theorem dX6_fewestOf_19 : decode cX6_fewestOf 19 = .ok (.iload 4, 2) := by decide +kernel
theorem dX6_fewestOf_21 : decode cX6_fewestOf 21 = .ok (.iload_n 2, 1) := by decide +kernel
theorem dX6_fewestOf_22 : decode cX6_fewestOf 22 = .ok (.iand, 1) := by decide +kernel
theorem dX6_fewestOf_23 : decode cX6_fewestOf 23 = .ok (.iload 4, 2) := by decide +kernel
theorem dX6_fewestOf_25 : decode cX6_fewestOf 25 = .ok (.if_icmp .ne 30, 3) := by decide +kernel
theorem dX6_fewestOf_28 : decode cX6_fewestOf 28 = .ok (.aload_n 1, 1) := by decide +kernel
theorem dX6_fewestOf_29 : decode cX6_fewestOf 29 = .ok (.iload 4, 2) := by decide +kernel
theorem dX6_fewestOf_31 : decode cX6_fewestOf 31 = .ok (.invokestatic 23, 3) := by decide +kernel
theorem dX6_fewestOf_34 : decode cX6_fewestOf 34 = .ok (.ifCond .eq 21, 3) := by decide +kernel
theorem dX6_fewestOf_37 : decode cX6_fewestOf 37 = .ok (.iload_n 3, 1) := by decide +kernel
theorem dX6_fewestOf_38 : decode cX6_fewestOf 38 = .ok (.iconst 1, 1) := by decide +kernel
theorem dX6_fewestOf_39 : decode cX6_fewestOf 39 = .ok (.aload_n 0, 1) := by decide +kernel
theorem dX6_fewestOf_40 : decode cX6_fewestOf 40 = .ok (.getfield 11, 3) := by decide +kernel
theorem dX6_fewestOf_43 : decode cX6_fewestOf 43 = .ok (.iload_n 2, 1) := by decide +kernel
theorem dX6_fewestOf_44 : decode cX6_fewestOf 44 = .ok (.iload 4, 2) := by decide +kernel
theorem dX6_fewestOf_46 : decode cX6_fewestOf 46 = .ok (.iconst (-1), 1) := by decide +kernel
theorem dX6_fewestOf_47 : decode cX6_fewestOf 47 = .ok (.ixor, 1) := by decide +kernel
theorem dX6_fewestOf_48 : decode cX6_fewestOf 48 = .ok (.iand, 1) := by decide +kernel
theorem dX6_fewestOf_49 : decode cX6_fewestOf 49 = .ok (.iaload, 1) := by decide +kernel
theorem dX6_fewestOf_50 : decode cX6_fewestOf 50 = .ok (.iadd, 1) := by decide +kernel
theorem dX6_fewestOf_51 : decode cX6_fewestOf 51 = .ok (.invokestatic 31, 3) := by decide +kernel
theorem dX6_fewestOf_54 : decode cX6_fewestOf 54 = .ok (.istore_n 3, 1) := by decide +kernel
theorem dX6_fewestOf_55 : decode cX6_fewestOf 55 = .ok (.iinc 4 1, 3) := by decide +kernel
theorem dX6_fewestOf_58 : decode cX6_fewestOf 58 = .ok (.goto (-52), 3) := by decide +kernel
theorem dX6_fewestOf_61 : decode cX6_fewestOf 61 = .ok (.iload_n 3, 1) := by decide +kernel
theorem dX6_fewestOf_62 : decode cX6_fewestOf 62 = .ok (.ireturn, 1) := by decide +kernel
theorem mw_X6_fewestOf : MW yX6_fewestOf cX6_fewestOf 5 0 2 false := ⟨tm 1361 (by decide +kernel) rfl, tm 246 (by decide +kernel) rfl, by decide, by decide, (by rw [if_neg (by decide)]; exact ⟨tm 1360 (by decide +kernel) rfl, tm 92 (by decide +kernel) rfl⟩)⟩
theorem fl_RX6_11 : FL RX6 11 5 0 := ⟨_, _, _, _, cw_5, by decide, Or.inr (Or.inr (Or.inr (by decide))), Or.inl (by decide), Or.inl (tm 582 (by decide +kernel) rfl)⟩
theorem mx_RX6_31 : MX RX6 31 Lib.Math.min.name Lib.Math.min.code 2 (some .int) := ⟨tm 1362 (by decide +kernel) rfl, tm 800 (by decide +kernel) rfl, tm 251 (by decide +kernel) rfl, tm 801 (by decide +kernel) rfl⟩
def Ro_fewestOf_L6 (pr1 : Nat) (a2 : Int) : Nat → Int → Int → Sg → Rs
  | 0, _, _, _ => none
  | n + 1, v3, v4, σ => (if a2 < v4 then (some (v3, σ)) else (if v4 < 64 then (if (an32 v4 a2) = v4 then (bd (Ro_isSafe pr1 v4 σ) (fun r1 s2 => (if r1 = 0 then (nm (w32 (v4 + 1)) (fun x3 => (Ro_fewestOf_L6 pr1 a2 n v3 x3 s2))) else (rd 64 (an32 a2 (xo32 v4 (-1))) (s2 104 (Int.toNat (an32 a2 (xo32 v4 (-1))))) (fun x4 => (nm (min v3 (w32 (1 + x4))) (fun x5 => (nm (w32 (v4 + 1)) (fun x6 => (Ro_fewestOf_L6 pr1 a2 n x5 x6 s2)))))))))) else (nm (w32 (v4 + 1)) (fun x7 => (Ro_fewestOf_L6 pr1 a2 n v3 x7 σ)))) else (some (v3, σ))))
theorem ok_Ro_fewestOf_L6 (pr1 : Nat) (a2 : Int) (hpr1 : Kh[pr1]? = some (.inl 4)) : ∀ (n : Nat) (v3 v4 : Int) (σ : Sg), G l Kh Ph RX6 cX6_fewestOf 5 0 2 6 [some (.inr (.inr 103)), some (.inr (.inr pr1)), some (.inl a2), some (.inl v3), some (.inl v4)] [] σ (Ro_fewestOf_L6 pr1 a2 n v3 v4 σ) := by
  intro n
  induction n with
  | zero => intros; exact G.none_
  | succ n ih =>
    intro v3 v4 σ
    rw [Ro_fewestOf_L6]
    refine g_iload dX6_fewestOf_6 rfl ?_
    refine g_iload_n dX6_fewestOf_8 rfl rfl ?_
    refine g_icmpgt (tgt := 61) dX6_fewestOf_9 (by decide) ?_ ?_
    · refine g_iload_n dX6_fewestOf_61 rfl rfl ?_
      exact g_iret dX6_fewestOf_62
    · refine g_iload dX6_fewestOf_12 rfl ?_
      refine g_bipush dX6_fewestOf_14 (by decide) ?_
      refine g_icmpge (tgt := 61) dX6_fewestOf_16 (by decide) ?_ ?_
      · refine g_iload dX6_fewestOf_19 rfl ?_
        refine g_iload_n dX6_fewestOf_21 rfl rfl ?_
        refine g_iand dX6_fewestOf_22 ?_
        refine g_iload dX6_fewestOf_23 rfl ?_
        refine g_icmpne (tgt := 55) dX6_fewestOf_25 (by decide) ?_ ?_
        · refine g_aload_n dX6_fewestOf_28 rfl rfl ?_
          refine g_iload dX6_fewestOf_29 rfl ?_
          refine g_calls3 (st := []) mw_X6_isSafe lk_RX6_23 (ok_Ro_isSafe pr1 v4 hpr1 σ) (Nat.le_of_ble_eq_true rfl) rfl rfl (Nat.le_of_ble_eq_true rfl) dX6_fewestOf_31 ?_
          intro r1 s2
          refine g_ifeq (tgt := 55) dX6_fewestOf_34 (by decide) ?_ ?_
          · refine n_iinc (fun x3 => [some (.inr (.inr 103)), some (.inr (.inr pr1)), some (.inl a2), some (.inl v3), some (.inl x3)]) dX6_fewestOf_55 rfl (Nat.le_of_ble_eq_true rfl) (fun _ => rfl) ?_
            intro x3
            refine g_goto (tgt := 6) dX6_fewestOf_58 (by decide) ?_
            exact (ih v3 x3 s2)
          · refine g_iload_n dX6_fewestOf_37 rfl rfl ?_
            refine g_iconst dX6_fewestOf_38 (by decide) ?_
            refine g_aload_n dX6_fewestOf_39 rfl rfl ?_
            refine g_getr' (q := 104) fl_RX6_11 kh_103 (by decide) rfl dX6_fewestOf_40 ?_
            refine g_iload_n dX6_fewestOf_43 rfl rfl ?_
            refine g_iload dX6_fewestOf_44 rfl ?_
            refine g_iconst dX6_fewestOf_46 (by decide) ?_
            refine g_ixor dX6_fewestOf_47 ?_
            refine g_iand dX6_fewestOf_48 ?_
            refine g_iald kh_104 dX6_fewestOf_49 ?_
            intro x4
            refine g_iadd dX6_fewestOf_50 ?_
            refine g_mmin mx_RX6_31 (Nat.le_of_ble_eq_true rfl) (Nat.le_of_ble_eq_true rfl) dX6_fewestOf_51 ?_
            refine n_istore_n (fun x5 => [some (.inr (.inr 103)), some (.inr (.inr pr1)), some (.inl a2), some (.inl x5), some (.inl v4)]) dX6_fewestOf_54 rfl (Nat.le_of_ble_eq_true rfl) (fun _ => rfl) ?_
            intro x5
            refine n_iinc (fun x6 => [some (.inr (.inr 103)), some (.inr (.inr pr1)), some (.inl a2), some (.inl x5), some (.inl x6)]) dX6_fewestOf_55 rfl (Nat.le_of_ble_eq_true rfl) (fun _ => rfl) ?_
            intro x6
            refine g_goto (tgt := 6) dX6_fewestOf_58 (by decide) ?_
            exact (ih x5 x6 s2)
        · refine n_iinc (fun x7 => [some (.inr (.inr 103)), some (.inr (.inr pr1)), some (.inl a2), some (.inl v3), some (.inl x7)]) dX6_fewestOf_55 rfl (Nat.le_of_ble_eq_true rfl) (fun _ => rfl) ?_
          intro x7
          refine g_goto (tgt := 6) dX6_fewestOf_58 (by decide) ?_
          exact (ih v3 x7 σ)
      · refine g_iload_n dX6_fewestOf_61 rfl rfl ?_
        exact g_iret dX6_fewestOf_62
def Ro_fewestOf (pr1 : Nat) (a2 : Int) (σ : Sg) : Rs := (Ro_fewestOf_L6 pr1 a2 fu 6 1 σ)
theorem ok_Ro_fewestOf (pr1 : Nat) (a2 : Int) (hpr1 : Kh[pr1]? = some (.inl 4)) (σ : Sg) : MC l Kh Ph yX6_fewestOf cX6_fewestOf 5 0 2 [.inr (.inr 103), .inr (.inr pr1), .inl a2] σ (Ro_fewestOf pr1 a2 σ) := by
  refine mc_of (by decide) (Nat.le_of_ble_eq_true rfl) ?_
  change G l Kh Ph RX6 cX6_fewestOf 5 0 2 0 [some (.inr (.inr 103)), some (.inr (.inr pr1)), some (.inl a2), none, none] [] σ (Ro_fewestOf pr1 a2 σ)
  unfold Ro_fewestOf
  refine g_bipush dX6_fewestOf_0 (by decide) ?_
  refine g_istore_n (lv' := [some (.inr (.inr 103)), some (.inr (.inr pr1)), some (.inl a2), some (.inl 6), none]) dX6_fewestOf_2 rfl (Nat.le_of_ble_eq_true rfl) rfl ?_
  refine g_iconst dX6_fewestOf_3 (by decide) ?_
  refine g_istore (lv' := [some (.inr (.inr 103)), some (.inr (.inr pr1)), some (.inl a2), some (.inl 6), some (.inl 1)]) dX6_fewestOf_4 (Nat.le_of_ble_eq_true rfl) rfl ?_
  refine (ok_Ro_fewestOf_L6 pr1 a2 hpr1 fu 6 1 σ)
theorem dX6_fewestBarbers_0 : decode cX6_fewestBarbers 0 = .ok (.iconst 0, 1) := by decide +kernel
theorem dX6_fewestBarbers_1 : decode cX6_fewestBarbers 1 = .ok (.istore_n 3, 1) := by decide +kernel
theorem dX6_fewestBarbers_2 : decode cX6_fewestBarbers 2 = .ok (.iload_n 3, 1) := by decide +kernel
theorem dX6_fewestBarbers_3 : decode cX6_fewestBarbers 3 = .ok (.bipush 6, 2) := by decide +kernel
theorem dX6_fewestBarbers_5 : decode cX6_fewestBarbers 5 = .ok (.if_icmp .ge 23, 3) := by decide +kernel
theorem dX6_fewestBarbers_8 : decode cX6_fewestBarbers 8 = .ok (.aload_n 1, 1) := by decide +kernel
theorem dX6_fewestBarbers_9 : decode cX6_fewestBarbers 9 = .ok (.iload_n 2, 1) := by decide +kernel
theorem dX6_fewestBarbers_10 : decode cX6_fewestBarbers 10 = .ok (.iconst 1, 1) := by decide +kernel
theorem dX6_fewestBarbers_11 : decode cX6_fewestBarbers 11 = .ok (.iload_n 3, 1) := by decide +kernel
theorem dX6_fewestBarbers_12 : decode cX6_fewestBarbers 12 = .ok (.ishl, 1) := by decide +kernel
theorem dX6_fewestBarbers_13 : decode cX6_fewestBarbers 13 = .ok (.iand, 1) := by decide +kernel
theorem dX6_fewestBarbers_14 : decode cX6_fewestBarbers 14 = .ok (.invokestatic 23, 3) := by decide +kernel
theorem dX6_fewestBarbers_17 : decode cX6_fewestBarbers 17 = .ok (.ifCond .ne 5, 3) := by decide +kernel
theorem dX6_fewestBarbers_20 : decode cX6_fewestBarbers 20 = .ok (.iconst (-1), 1) := by decide +kernel
theorem dX6_fewestBarbers_21 : decode cX6_fewestBarbers 21 = .ok (.ireturn, 1) := by decide +kernel
theorem dX6_fewestBarbers_22 : decode cX6_fewestBarbers 22 = .ok (.iinc 3 1, 3) := by decide +kernel
theorem dX6_fewestBarbers_25 : decode cX6_fewestBarbers 25 = .ok (.goto (-23), 3) := by decide +kernel
theorem dX6_fewestBarbers_28 : decode cX6_fewestBarbers 28 = .ok (.aload_n 0, 1) := by decide +kernel
theorem dX6_fewestBarbers_29 : decode cX6_fewestBarbers 29 = .ok (.getfield 11, 3) := by decide +kernel
theorem dX6_fewestBarbers_32 : decode cX6_fewestBarbers 32 = .ok (.iconst 0, 1) := by decide +kernel
theorem dX6_fewestBarbers_33 : decode cX6_fewestBarbers 33 = .ok (.iconst 0, 1) := by decide +kernel
theorem dX6_fewestBarbers_34 : decode cX6_fewestBarbers 34 = .ok (.iastore, 1) := by decide +kernel
theorem dX6_fewestBarbers_35 : decode cX6_fewestBarbers 35 = .ok (.iconst 1, 1) := by decide +kernel
theorem dX6_fewestBarbers_36 : decode cX6_fewestBarbers 36 = .ok (.istore_n 3, 1) := by decide +kernel
theorem dX6_fewestBarbers_37 : decode cX6_fewestBarbers 37 = .ok (.iload_n 3, 1) := by decide +kernel
theorem dX6_fewestBarbers_38 : decode cX6_fewestBarbers 38 = .ok (.bipush 64, 2) := by decide +kernel
theorem dX6_fewestBarbers_40 : decode cX6_fewestBarbers 40 = .ok (.if_icmp .ge 33, 3) := by decide +kernel
theorem dX6_fewestBarbers_43 : decode cX6_fewestBarbers 43 = .ok (.iload_n 3, 1) := by decide +kernel
theorem dX6_fewestBarbers_44 : decode cX6_fewestBarbers 44 = .ok (.iload_n 2, 1) := by decide +kernel
theorem dX6_fewestBarbers_45 : decode cX6_fewestBarbers 45 = .ok (.if_icmp .gt 28, 3) := by decide +kernel
theorem dX6_fewestBarbers_48 : decode cX6_fewestBarbers 48 = .ok (.iload_n 3, 1) := by decide +kernel
theorem dX6_fewestBarbers_49 : decode cX6_fewestBarbers 49 = .ok (.iload_n 2, 1) := by decide +kernel
theorem dX6_fewestBarbers_50 : decode cX6_fewestBarbers 50 = .ok (.iand, 1) := by decide +kernel
theorem dX6_fewestBarbers_51 : decode cX6_fewestBarbers 51 = .ok (.iload_n 3, 1) := by decide +kernel
theorem dX6_fewestBarbers_52 : decode cX6_fewestBarbers 52 = .ok (.if_icmp .ne 15, 3) := by decide +kernel
theorem dX6_fewestBarbers_55 : decode cX6_fewestBarbers 55 = .ok (.aload_n 0, 1) := by decide +kernel
theorem dX6_fewestBarbers_56 : decode cX6_fewestBarbers 56 = .ok (.getfield 11, 3) := by decide +kernel
theorem dX6_fewestBarbers_59 : decode cX6_fewestBarbers 59 = .ok (.iload_n 3, 1) := by decide +kernel
theorem dX6_fewestBarbers_60 : decode cX6_fewestBarbers 60 = .ok (.aload_n 0, 1) := by decide +kernel
theorem dX6_fewestBarbers_61 : decode cX6_fewestBarbers 61 = .ok (.aload_n 1, 1) := by decide +kernel
theorem dX6_fewestBarbers_62 : decode cX6_fewestBarbers 62 = .ok (.iload_n 3, 1) := by decide +kernel
theorem dX6_fewestBarbers_63 : decode cX6_fewestBarbers 63 = .ok (.invokevirtual 27, 3) := by decide +kernel
theorem dX6_fewestBarbers_66 : decode cX6_fewestBarbers 66 = .ok (.iastore, 1) := by decide +kernel
theorem dX6_fewestBarbers_67 : decode cX6_fewestBarbers 67 = .ok (.iinc 3 1, 3) := by decide +kernel
theorem dX6_fewestBarbers_70 : decode cX6_fewestBarbers 70 = .ok (.goto (-33), 3) := by decide +kernel
theorem dX6_fewestBarbers_73 : decode cX6_fewestBarbers 73 = .ok (.iload_n 2, 1) := by decide +kernel
theorem dX6_fewestBarbers_74 : decode cX6_fewestBarbers 74 = .ok (.ifCond .lt 18, 3) := by decide +kernel
theorem dX6_fewestBarbers_77 : decode cX6_fewestBarbers 77 = .ok (.iload_n 2, 1) := by decide +kernel
theorem dX6_fewestBarbers_78 : decode cX6_fewestBarbers 78 = .ok (.bipush 64, 2) := by decide +kernel
theorem dX6_fewestBarbers_80 : decode cX6_fewestBarbers 80 = .ok (.if_icmp .ge 12, 3) := by decide +kernel
theorem dX6_fewestBarbers_83 : decode cX6_fewestBarbers 83 = .ok (.aload_n 0, 1) := by decide +kernel
theorem dX6_fewestBarbers_84 : decode cX6_fewestBarbers 84 = .ok (.getfield 11, 3) := by decide +kernel
theorem dX6_fewestBarbers_87 : decode cX6_fewestBarbers 87 = .ok (.iload_n 2, 1) := by decide +kernel
theorem dX6_fewestBarbers_88 : decode cX6_fewestBarbers 88 = .ok (.iaload, 1) := by decide +kernel
theorem dX6_fewestBarbers_89 : decode cX6_fewestBarbers 89 = .ok (.goto 4, 3) := by decide +kernel
theorem dX6_fewestBarbers_92 : decode cX6_fewestBarbers 92 = .ok (.iconst (-1), 1) := by decide +kernel
theorem dX6_fewestBarbers_93 : decode cX6_fewestBarbers 93 = .ok (.ireturn, 1) := by decide +kernel
theorem mw_X6_fewestBarbers : MW yX6_fewestBarbers cX6_fewestBarbers 4 0 2 false := ⟨tm 1354 (by decide +kernel) rfl, tm 246 (by decide +kernel) rfl, by decide, by decide, (by rw [if_neg (by decide)]; exact ⟨tm 1353 (by decide +kernel) rfl, tm 91 (by decide +kernel) rfl⟩)⟩
theorem lk_RX6_27 : LK RX6 27 yX6_fewestOf := Or.inl (tm 1358 (by decide +kernel) rfl)
def Ro_fewestBarbers_L2 (pr1 : Nat) (a2 : Int) (k37 : Int → Sg → Rs) : Nat → Int → Sg → Rs
  | 0, _, _ => none
  | n + 1, v3, σ => (if v3 < 6 then (bd (Ro_isSafe pr1 (an32 a2 (sl32 1 v3)) σ) (fun r1 s2 => (if r1 = 0 then (some ((-1), s2)) else (nm (w32 (v3 + 1)) (fun x3 => (Ro_fewestBarbers_L2 pr1 a2 k37 n x3 s2)))))) else (wr 64 0 (up_s σ 104 (Int.toNat 0) 0) (fun s4 => (k37 1 s4))))
theorem ok_Ro_fewestBarbers_L2 (pr1 : Nat) (a2 : Int) (hpr1 : Kh[pr1]? = some (.inl 4)) (k37 : Int → Sg → Rs) (hk37 : ∀ (y3 : Int) (σ : Sg), G l Kh Ph RX6 cX6_fewestBarbers 4 0 3 37 [some (.inr (.inr 103)), some (.inr (.inr pr1)), some (.inl a2), some (.inl y3)] [] σ (k37 y3 σ)) : ∀ (n : Nat) (v3 : Int) (σ : Sg), G l Kh Ph RX6 cX6_fewestBarbers 4 0 3 2 [some (.inr (.inr 103)), some (.inr (.inr pr1)), some (.inl a2), some (.inl v3)] [] σ (Ro_fewestBarbers_L2 pr1 a2 k37 n v3 σ) := by
  intro n
  induction n with
  | zero => intros; exact G.none_
  | succ n ih =>
    intro v3 σ
    rw [Ro_fewestBarbers_L2]
    refine g_iload_n dX6_fewestBarbers_2 rfl rfl ?_
    refine g_bipush dX6_fewestBarbers_3 (by decide) ?_
    refine g_icmpge (tgt := 28) dX6_fewestBarbers_5 (by decide) ?_ ?_
    · refine g_aload_n dX6_fewestBarbers_8 rfl rfl ?_
      refine g_iload_n dX6_fewestBarbers_9 rfl rfl ?_
      refine g_iconst dX6_fewestBarbers_10 (by decide) ?_
      refine g_iload_n dX6_fewestBarbers_11 rfl rfl ?_
      refine g_ishl dX6_fewestBarbers_12 ?_
      refine g_iand dX6_fewestBarbers_13 ?_
      refine g_calls3 (st := []) mw_X6_isSafe lk_RX6_23 (ok_Ro_isSafe pr1 (an32 a2 (sl32 1 v3)) hpr1 σ) (Nat.le_of_ble_eq_true rfl) rfl rfl (Nat.le_of_ble_eq_true rfl) dX6_fewestBarbers_14 ?_
      intro r1 s2
      refine g_ifne (tgt := 22) dX6_fewestBarbers_17 (by decide) ?_ ?_
      · refine g_iconst dX6_fewestBarbers_20 (by decide) ?_
        exact g_iret dX6_fewestBarbers_21
      · refine n_iinc (fun x3 => [some (.inr (.inr 103)), some (.inr (.inr pr1)), some (.inl a2), some (.inl x3)]) dX6_fewestBarbers_22 rfl (Nat.le_of_ble_eq_true rfl) (fun _ => rfl) ?_
        intro x3
        refine g_goto (tgt := 2) dX6_fewestBarbers_25 (by decide) ?_
        exact (ih x3 s2)
    · refine g_aload_n dX6_fewestBarbers_28 rfl rfl ?_
      refine g_getr' (q := 104) fl_RX6_11 kh_103 (by decide) rfl dX6_fewestBarbers_29 ?_
      refine g_iconst dX6_fewestBarbers_32 (by decide) ?_
      refine g_iconst dX6_fewestBarbers_33 (by decide) ?_
      refine g_iast kh_104 dX6_fewestBarbers_34 ?_
      intro s4
      refine g_iconst dX6_fewestBarbers_35 (by decide) ?_
      refine g_istore_n (lv' := [some (.inr (.inr 103)), some (.inr (.inr pr1)), some (.inl a2), some (.inl 1)]) dX6_fewestBarbers_36 rfl (Nat.le_of_ble_eq_true rfl) rfl ?_
      exact (hk37 1 s4)
def Ro_fewestBarbers_L37 (pr1 : Nat) (a2 : Int) (k73 : Sg → Rs) : Nat → Int → Sg → Rs
  | 0, _, _ => none
  | n + 1, v3, σ => (if v3 < 64 then (if a2 < v3 then (k73 σ) else (if (an32 v3 a2) = v3 then (bd (Ro_fewestOf pr1 v3 σ) (fun r7 s8 => (wr 64 v3 (up_s s8 104 (Int.toNat v3) r7) (fun s9 => (nm (w32 (v3 + 1)) (fun x10 => (Ro_fewestBarbers_L37 pr1 a2 k73 n x10 s9))))))) else (nm (w32 (v3 + 1)) (fun x11 => (Ro_fewestBarbers_L37 pr1 a2 k73 n x11 σ))))) else (k73 σ))
theorem ok_Ro_fewestBarbers_L37 (pr1 : Nat) (a2 : Int) (hpr1 : Kh[pr1]? = some (.inl 4)) (k73 : Sg → Rs) (hk73 : ∀ (σ : Sg), G l Kh Ph RX6 cX6_fewestBarbers 4 0 3 73 [some (.inr (.inr 103)), none, some (.inl a2), none] [] σ (k73 σ)) : ∀ (n : Nat) (v3 : Int) (σ : Sg), G l Kh Ph RX6 cX6_fewestBarbers 4 0 3 37 [some (.inr (.inr 103)), some (.inr (.inr pr1)), some (.inl a2), some (.inl v3)] [] σ (Ro_fewestBarbers_L37 pr1 a2 k73 n v3 σ) := by
  intro n
  induction n with
  | zero => intros; exact G.none_
  | succ n ih =>
    intro v3 σ
    rw [Ro_fewestBarbers_L37]
    refine g_iload_n dX6_fewestBarbers_37 rfl rfl ?_
    refine g_bipush dX6_fewestBarbers_38 (by decide) ?_
    refine g_icmpge (tgt := 73) dX6_fewestBarbers_40 (by decide) ?_ ?_
    · refine g_iload_n dX6_fewestBarbers_43 rfl rfl ?_
      refine g_iload_n dX6_fewestBarbers_44 rfl rfl ?_
      refine g_icmpgt (tgt := 73) dX6_fewestBarbers_45 (by decide) ?_ ?_
      · exact (g_weak [true, false, true, false] (hk73 σ))
      · refine g_iload_n dX6_fewestBarbers_48 rfl rfl ?_
        refine g_iload_n dX6_fewestBarbers_49 rfl rfl ?_
        refine g_iand dX6_fewestBarbers_50 ?_
        refine g_iload_n dX6_fewestBarbers_51 rfl rfl ?_
        refine g_icmpne (tgt := 67) dX6_fewestBarbers_52 (by decide) ?_ ?_
        · refine g_aload_n dX6_fewestBarbers_55 rfl rfl ?_
          refine g_getr' (q := 104) fl_RX6_11 kh_103 (by decide) rfl dX6_fewestBarbers_56 ?_
          refine g_iload_n dX6_fewestBarbers_59 rfl rfl ?_
          refine g_aload_n dX6_fewestBarbers_60 rfl rfl ?_
          refine g_aload_n dX6_fewestBarbers_61 rfl rfl ?_
          refine g_iload_n dX6_fewestBarbers_62 rfl rfl ?_
          refine g_callv0 (st := [.inl v3, .inr (.inr 104)]) 5 mw_X6_fewestOf lk_RX6_27 rfl kh_103 (ok_Ro_fewestOf pr1 v3 hpr1 σ) (Nat.le_of_ble_eq_true rfl) rfl rfl (Nat.le_of_ble_eq_true rfl) dX6_fewestBarbers_63 ?_
          intro r7 s8
          refine g_iast kh_104 dX6_fewestBarbers_66 ?_
          intro s9
          refine n_iinc (fun x10 => [some (.inr (.inr 103)), some (.inr (.inr pr1)), some (.inl a2), some (.inl x10)]) dX6_fewestBarbers_67 rfl (Nat.le_of_ble_eq_true rfl) (fun _ => rfl) ?_
          intro x10
          refine g_goto (tgt := 37) dX6_fewestBarbers_70 (by decide) ?_
          exact (ih x10 s9)
        · refine n_iinc (fun x11 => [some (.inr (.inr 103)), some (.inr (.inr pr1)), some (.inl a2), some (.inl x11)]) dX6_fewestBarbers_67 rfl (Nat.le_of_ble_eq_true rfl) (fun _ => rfl) ?_
          intro x11
          refine g_goto (tgt := 37) dX6_fewestBarbers_70 (by decide) ?_
          exact (ih x11 σ)
    · exact (g_weak [true, false, true, false] (hk73 σ))
def Ro_fewestBarbers_J73 (a2 : Int) (σ : Sg) : Rs := (if a2 < 0 then (some ((-1), σ)) else (if a2 < 64 then (rd 64 a2 (σ 104 (Int.toNat a2)) (fun x13 => (some (x13, σ)))) else (some ((-1), σ))))
theorem ok_Ro_fewestBarbers_J73 (a2 : Int) : ∀ (σ : Sg), G l Kh Ph RX6 cX6_fewestBarbers 4 0 3 73 [some (.inr (.inr 103)), none, some (.inl a2), none] [] σ (Ro_fewestBarbers_J73 a2  σ) := by
  intro σ
  unfold Ro_fewestBarbers_J73
  refine g_iload_n dX6_fewestBarbers_73 rfl rfl ?_
  refine g_iflt (tgt := 92) dX6_fewestBarbers_74 (by decide) ?_ ?_
  · refine g_iconst dX6_fewestBarbers_92 (by decide) ?_
    exact g_iret dX6_fewestBarbers_93
  · refine g_iload_n dX6_fewestBarbers_77 rfl rfl ?_
    refine g_bipush dX6_fewestBarbers_78 (by decide) ?_
    refine g_icmpge (tgt := 92) dX6_fewestBarbers_80 (by decide) ?_ ?_
    · refine g_aload_n dX6_fewestBarbers_83 rfl rfl ?_
      refine g_getr' (q := 104) fl_RX6_11 kh_103 (by decide) rfl dX6_fewestBarbers_84 ?_
      refine g_iload_n dX6_fewestBarbers_87 rfl rfl ?_
      refine g_iald kh_104 dX6_fewestBarbers_88 ?_
      intro x13
      refine g_goto (tgt := 93) dX6_fewestBarbers_89 (by decide) ?_
      exact g_iret dX6_fewestBarbers_93
    · refine g_iconst dX6_fewestBarbers_92 (by decide) ?_
      exact g_iret dX6_fewestBarbers_93
def Ro_fewestBarbers (pr1 : Nat) (a2 : Int) (σ : Sg) : Rs := (Ro_fewestBarbers_L2 pr1 a2 (fun x5 s6 => (Ro_fewestBarbers_L37 pr1 a2 (fun s12 => (Ro_fewestBarbers_J73 a2 s12)) fu x5 s6)) fu 0 σ)
theorem ok_Ro_fewestBarbers (pr1 : Nat) (a2 : Int) (hpr1 : Kh[pr1]? = some (.inl 4)) (σ : Sg) : MC l Kh Ph yX6_fewestBarbers cX6_fewestBarbers 4 0 3 [.inr (.inr 103), .inr (.inr pr1), .inl a2] σ (Ro_fewestBarbers pr1 a2 σ) := by
  refine mc_of (by decide) (Nat.le_of_ble_eq_true rfl) ?_
  change G l Kh Ph RX6 cX6_fewestBarbers 4 0 3 0 [some (.inr (.inr 103)), some (.inr (.inr pr1)), some (.inl a2), none] [] σ (Ro_fewestBarbers pr1 a2 σ)
  unfold Ro_fewestBarbers
  refine g_iconst dX6_fewestBarbers_0 (by decide) ?_
  refine g_istore_n (lv' := [some (.inr (.inr 103)), some (.inr (.inr pr1)), some (.inl a2), some (.inl 0)]) dX6_fewestBarbers_1 rfl (Nat.le_of_ble_eq_true rfl) rfl ?_
  refine (ok_Ro_fewestBarbers_L2 pr1 a2 hpr1 _ ?_ fu 0 σ)
  · intro x5 s6
    refine (ok_Ro_fewestBarbers_L37 pr1 a2 hpr1 _ ?_ fu x5 s6)
    · intro s12
      refine (ok_Ro_fewestBarbers_J73 a2 s12)
theorem dX11_round_0 : decode cX11_round 0 = .ok (.aload_n 0, 1) := by decide +kernel
theorem dX11_round_1 : decode cX11_round 1 = .ok (.getfield 43, 3) := by decide +kernel
theorem dX11_round_4 : decode cX11_round 4 = .ok (.iload_n 1, 1) := by decide +kernel
theorem dX11_round_5 : decode cX11_round 5 = .ok (.invokevirtual 382, 3) := by decide +kernel
theorem dX11_round_8 : decode cX11_round 8 = .ok (.ifCond .ne 9, 3) := by decide +kernel
theorem dX11_round_11 : decode cX11_round 11 = .ok (.aload_n 0, 1) := by decide +kernel
theorem dX11_round_12 : decode cX11_round 12 = .ok (.iconst 5, 1) := by decide +kernel
theorem dX11_round_13 : decode cX11_round 13 = .ok (.invokevirtual 147, 3) := by decide +kernel
theorem dX11_round_16 : decode cX11_round 16 = .ok (.ireturn, 1) := by decide +kernel
theorem dX11_round_17 : decode cX11_round 17 = .ok (.aload_n 0, 1) := by decide +kernel
theorem dX11_round_18 : decode cX11_round 18 = .ok (.getfield 89, 3) := by decide +kernel
theorem dX11_round_21 : decode cX11_round 21 = .ok (.aload_n 0, 1) := by decide +kernel
theorem dX11_round_22 : decode cX11_round 22 = .ok (.getfield 43, 3) := by decide +kernel
theorem dX11_round_25 : decode cX11_round 25 = .ok (.iload_n 1, 1) := by decide +kernel
theorem dX11_round_26 : decode cX11_round 26 = .ok (.invokevirtual 385, 3) := by decide +kernel
theorem dX11_round_29 : decode cX11_round 29 = .ok (.istore_n 2, 1) := by decide +kernel
theorem dX11_round_30 : decode cX11_round 30 = .ok (.iload_n 2, 1) := by decide +kernel
theorem dX11_round_31 : decode cX11_round 31 = .ok (.iconst (-1), 1) := by decide +kernel
theorem dX11_round_32 : decode cX11_round 32 = .ok (.if_icmp .ne 12, 3) := by decide +kernel
theorem dX11_round_35 : decode cX11_round 35 = .ok (.aload_n 0, 1) := by decide +kernel
theorem dX11_round_36 : decode cX11_round 36 = .ok (.bipush 8, 2) := by decide +kernel
theorem dX11_round_38 : decode cX11_round 38 = .ok (.invokevirtual 147, 3) := by decide +kernel
theorem dX11_round_41 : decode cX11_round 41 = .ok (.goto 8, 3) := by decide +kernel
theorem dX11_round_44 : decode cX11_round 44 = .ok (.aload_n 0, 1) := by decide +kernel
theorem dX11_round_45 : decode cX11_round 45 = .ok (.iload_n 2, 1) := by decide +kernel
theorem dX11_round_46 : decode cX11_round 46 = .ok (.invokevirtual 194, 3) := by decide +kernel
theorem dX11_round_49 : decode cX11_round 49 = .ok (.ireturn, 1) := by decide +kernel
theorem mw_X11_round : MW yX11_round cX11_round 3 0 1 false := ⟨tm 1346 (by decide +kernel) rfl, tm 235 (by decide +kernel) rfl, by decide, by decide, (by rw [if_neg (by decide)]; exact ⟨tm 1344 (by decide +kernel) rfl, tm 1345 (by decide +kernel) rfl⟩)⟩
theorem lk_RX11_382 : LK RX11 382 yX4_isPeopleSet := Or.inr ⟨"HairProvince", tm 1347 (by decide +kernel) rfl⟩
theorem lk_RX11_385 : LK RX11 385 yX6_fewestBarbers := Or.inr ⟨"HairProvince", tm 1351 (by decide +kernel) rfl⟩
def H_round (a1 : Int) (σ : Sg) : Rs := (bd (Pr_isPeopleSet 8 a1 σ) (fun r1 s2 => (if r1 = 0 then (bd (H_fail 5 s2) (fun r3 s4 => (some (r3, s4)))) else (bd (Ro_fewestBarbers 8 a1 s2) (fun r5 s6 => (if r5 = (-1) then (bd (H_fail 8 s6) (fun r7 s8 => (some (r7, s8)))) else (bd (H_give r5 s6) (fun r9 s10 => (some (r9, s10))))))))))
theorem ok_H_round (a1 : Int) (σ : Sg) : MC l Kh Ph yX11_round cX11_round 3 0 4 [.inr (.inr 0), .inl a1] σ (H_round a1 σ) := by
  refine mc_of (by decide) (Nat.le_of_ble_eq_true rfl) ?_
  change G l Kh Ph RX11 cX11_round 3 0 4 0 [some (.inr (.inr 0)), some (.inl a1), none] [] σ (H_round a1 σ)
  unfold H_round
  refine g_aload_n dX11_round_0 rfl rfl ?_
  refine g_getr' (q := 8) fl_RX11_43 kh_0 (by decide) rfl dX11_round_1 ?_
  refine g_iload_n dX11_round_4 rfl rfl ?_
  refine g_callv3 (st := []) 4 mw_X4_isPeopleSet lk_RX11_382 rfl kh_8 (ok_Pr_isPeopleSet 8 a1 kh_8 σ) (Nat.le_of_ble_eq_true rfl) rfl rfl (Nat.le_of_ble_eq_true rfl) dX11_round_5 ?_
  intro r1 s2
  refine g_ifne (tgt := 17) dX11_round_8 (by decide) ?_ ?_
  · refine g_aload_n dX11_round_11 rfl rfl ?_
    refine g_iconst dX11_round_12 (by decide) ?_
    refine g_callv0 (st := []) 9 mw_X11_fail lk_RX11_147 rfl kh_0 (ok_H_fail 5 s2) (Nat.le_of_ble_eq_true rfl) rfl rfl (Nat.le_of_ble_eq_true rfl) dX11_round_13 ?_
    intro r3 s4
    exact g_iret dX11_round_16
  · refine g_aload_n dX11_round_17 rfl rfl ?_
    refine g_getr' (q := 103) fl_RX11_89 kh_0 (by decide) rfl dX11_round_18 ?_
    refine g_aload_n dX11_round_21 rfl rfl ?_
    refine g_getr' (q := 8) fl_RX11_43 kh_0 (by decide) rfl dX11_round_22 ?_
    refine g_iload_n dX11_round_25 rfl rfl ?_
    refine g_callv0 (st := []) 5 mw_X6_fewestBarbers lk_RX11_385 rfl kh_103 (ok_Ro_fewestBarbers 8 a1 kh_8 s2) (Nat.le_of_ble_eq_true rfl) rfl rfl (Nat.le_of_ble_eq_true rfl) dX11_round_26 ?_
    intro r5 s6
    refine g_istore_n (lv' := [some (.inr (.inr 0)), some (.inl a1), some (.inl r5)]) dX11_round_29 rfl (Nat.le_of_ble_eq_true rfl) rfl ?_
    refine g_iload_n dX11_round_30 rfl rfl ?_
    refine g_iconst dX11_round_31 (by decide) ?_
    refine g_icmpne (tgt := 44) dX11_round_32 (by decide) ?_ ?_
    · refine g_aload_n dX11_round_35 rfl rfl ?_
      refine g_bipush dX11_round_36 (by decide) ?_
      refine g_callv0 (st := []) 9 mw_X11_fail lk_RX11_147 rfl kh_0 (ok_H_fail 8 s6) (Nat.le_of_ble_eq_true rfl) rfl rfl (Nat.le_of_ble_eq_true rfl) dX11_round_38 ?_
      intro r7 s8
      refine g_goto (tgt := 49) dX11_round_41 (by decide) ?_
      exact g_iret dX11_round_49
    · refine g_aload_n dX11_round_44 rfl rfl ?_
      refine g_iload_n dX11_round_45 rfl rfl ?_
      refine g_callv0 (st := []) 9 mw_X11_give lk_RX11_194 rfl kh_0 (ok_H_give r5 s6) (Nat.le_of_ble_eq_true rfl) rfl rfl (Nat.le_of_ble_eq_true rfl) dX11_round_46 ?_
      intro r9 s10
      exact g_iret dX11_round_49
theorem dX11_rule_0 : decode cX11_rule 0 = .ok (.iload_n 1, 1) := by decide +kernel
theorem dX11_rule_1 : decode cX11_rule 1 = .ok (.iconst 4, 1) := by decide +kernel
theorem dX11_rule_2 : decode cX11_rule 2 = .ok (.if_icmp .ne 26, 3) := by decide +kernel
theorem dX11_rule_5 : decode cX11_rule 5 = .ok (.iload_n 2, 1) := by decide +kernel
theorem dX11_rule_6 : decode cX11_rule 6 = .ok (.iconst 0, 1) := by decide +kernel
theorem dX11_rule_7 : decode cX11_rule 7 = .ok (.bipush 99, 2) := by decide +kernel
theorem dX11_rule_9 : decode cX11_rule 9 = .ok (.invokestatic 135, 3) := by decide +kernel
theorem dX11_rule_12 : decode cX11_rule 12 = .ok (.ifCond .eq 16, 3) := by decide +kernel
theorem dX11_rule_15 : decode cX11_rule 15 = .ok (.aload_n 0, 1) := by decide +kernel
theorem dX11_rule_16 : decode cX11_rule 16 = .ok (.getfield 43, 3) := by decide +kernel
theorem dX11_rule_19 : decode cX11_rule 19 = .ok (.iload_n 2, 1) := by decide +kernel
theorem dX11_rule_20 : decode cX11_rule 20 = .ok (.putfield 226, 3) := by decide +kernel
theorem dX11_rule_23 : decode cX11_rule 23 = .ok (.aload_n 0, 1) := by decide +kernel
theorem dX11_rule_24 : decode cX11_rule 24 = .ok (.invokevirtual 121, 3) := by decide +kernel
theorem dX11_rule_27 : decode cX11_rule 27 = .ok (.ireturn, 1) := by decide +kernel
theorem dX11_rule_28 : decode cX11_rule 28 = .ok (.iload_n 1, 1) := by decide +kernel
theorem dX11_rule_29 : decode cX11_rule 29 = .ok (.iconst 5, 1) := by decide +kernel
theorem dX11_rule_30 : decode cX11_rule 30 = .ok (.if_icmp .ne 26, 3) := by decide +kernel
theorem dX11_rule_33 : decode cX11_rule 33 = .ok (.iload_n 2, 1) := by decide +kernel
theorem dX11_rule_34 : decode cX11_rule 34 = .ok (.iconst 0, 1) := by decide +kernel
theorem dX11_rule_35 : decode cX11_rule 35 = .ok (.bipush 16, 2) := by decide +kernel
theorem dX11_rule_37 : decode cX11_rule 37 = .ok (.invokestatic 135, 3) := by decide +kernel
theorem dX11_rule_40 : decode cX11_rule 40 = .ok (.ifCond .eq 16, 3) := by decide +kernel
theorem dX11_rule_43 : decode cX11_rule 43 = .ok (.aload_n 0, 1) := by decide +kernel
theorem dX11_rule_44 : decode cX11_rule 44 = .ok (.getfield 43, 3) := by decide +kernel
theorem dX11_rule_47 : decode cX11_rule 47 = .ok (.iload_n 2, 1) := by decide +kernel
theorem dX11_rule_48 : decode cX11_rule 48 = .ok (.putfield 229, 3) := by decide +kernel
theorem dX11_rule_51 : decode cX11_rule 51 = .ok (.aload_n 0, 1) := by decide +kernel
theorem dX11_rule_52 : decode cX11_rule 52 = .ok (.invokevirtual 121, 3) := by decide +kernel
theorem dX11_rule_55 : decode cX11_rule 55 = .ok (.ireturn, 1) := by decide +kernel
theorem dX11_rule_56 : decode cX11_rule 56 = .ok (.aload_n 0, 1) := by decide +kernel
theorem dX11_rule_57 : decode cX11_rule 57 = .ok (.iconst 5, 1) := by decide +kernel
theorem dX11_rule_58 : decode cX11_rule 58 = .ok (.invokevirtual 114, 3) := by decide +kernel
theorem dX11_rule_61 : decode cX11_rule 61 = .ok (.ireturn, 1) := by decide +kernel
theorem mw_X11_rule : MW yX11_rule cX11_rule 3 3 2 false := ⟨tm 1219 (by decide +kernel) rfl, tm 235 (by decide +kernel) rfl, by decide, by decide, (by rw [if_neg (by decide)]; exact ⟨tm 1217 (by decide +kernel) rfl, tm 1218 (by decide +kernel) rfl⟩)⟩
def H_rule_J28 (a1 : Int) (a2 : Int) (σ : Sg) : Rs := (if a1 = 5 then (bd (H_within a2 0 16 σ) (fun r3 s4 => (if r3 = 0 then (bd (H_refuse 5 s4) (fun r5 s6 => (zb r5 (some (r5, s6))))) else (nm (up_s s4 8 15 a2) (fun s7 => (bd (H_agree s7) (fun r8 s9 => (zb r8 (some (r8, s9)))))))))) else (bd (H_refuse 5 σ) (fun r10 s11 => (zb r10 (some (r10, s11))))))
theorem ok_H_rule_J28 (a1 : Int) (a2 : Int) : ∀ (σ : Sg), G l Kh Ph RX11 cX11_rule 3 3 2 28 [some (.inr (.inr 0)), some (.inl a1), some (.inl a2)] [] σ (H_rule_J28 a1 a2  σ) := by
  intro σ
  unfold H_rule_J28
  refine g_iload_n dX11_rule_28 rfl rfl ?_
  refine g_iconst dX11_rule_29 (by decide) ?_
  refine g_icmpne (tgt := 56) dX11_rule_30 (by decide) ?_ ?_
  · refine g_iload_n dX11_rule_33 rfl rfl ?_
    refine g_iconst dX11_rule_34 (by decide) ?_
    refine g_bipush dX11_rule_35 (by decide) ?_
    refine g_calls3 (st := []) mw_X11_within lk_RX11_135 (ok_H_within a2 0 16 σ) (Nat.le_of_ble_eq_true rfl) rfl rfl (Nat.le_of_ble_eq_true rfl) dX11_rule_37 ?_
    intro r3 s4
    refine g_ifeq (tgt := 56) dX11_rule_40 (by decide) ?_ ?_
    · refine g_aload_n dX11_rule_56 rfl rfl ?_
      refine g_iconst dX11_rule_57 (by decide) ?_
      refine g_callv3 (st := []) 9 mw_X11_refuse lk_RX11_114 rfl kh_0 (ok_H_refuse 5 s4) (Nat.le_of_ble_eq_true rfl) rfl rfl (Nat.le_of_ble_eq_true rfl) dX11_rule_58 ?_
      intro r5 s6
      exact g_zret dX11_rule_61
    · refine g_aload_n dX11_rule_43 rfl rfl ?_
      refine g_getr' (q := 8) fl_RX11_43 kh_0 (by decide) rfl dX11_rule_44 ?_
      refine g_iload_n dX11_rule_47 rfl rfl ?_
      refine g_puti fl_RX11_229 kh_8 (by decide) dX11_rule_48 ?_
      intro s7
      refine g_aload_n dX11_rule_51 rfl rfl ?_
      refine g_callv3 (st := []) 9 mw_X11_agree lk_RX11_121 rfl kh_0 (ok_H_agree s7) (Nat.le_of_ble_eq_true rfl) rfl rfl (Nat.le_of_ble_eq_true rfl) dX11_rule_52 ?_
      intro r8 s9
      exact g_zret dX11_rule_55
  · refine g_aload_n dX11_rule_56 rfl rfl ?_
    refine g_iconst dX11_rule_57 (by decide) ?_
    refine g_callv3 (st := []) 9 mw_X11_refuse lk_RX11_114 rfl kh_0 (ok_H_refuse 5 σ) (Nat.le_of_ble_eq_true rfl) rfl rfl (Nat.le_of_ble_eq_true rfl) dX11_rule_58 ?_
    intro r10 s11
    exact g_zret dX11_rule_61
def H_rule (a1 : Int) (a2 : Int) (σ : Sg) : Rs := (if a1 = 4 then (bd (H_within a2 0 99 σ) (fun r1 s2 => (if r1 = 0 then (H_rule_J28 a1 a2 s2) else (nm (up_s s2 8 14 a2) (fun s12 => (bd (H_agree s12) (fun r13 s14 => (zb r13 (some (r13, s14)))))))))) else (H_rule_J28 a1 a2 σ))
theorem ok_H_rule (a1 : Int) (a2 : Int) (σ : Sg) : MC l Kh Ph yX11_rule cX11_rule 3 3 2 [.inr (.inr 0), .inl a1, .inl a2] σ (H_rule a1 a2 σ) := by
  refine mc_of (by decide) (Nat.le_of_ble_eq_true rfl) ?_
  change G l Kh Ph RX11 cX11_rule 3 3 2 0 [some (.inr (.inr 0)), some (.inl a1), some (.inl a2)] [] σ (H_rule a1 a2 σ)
  unfold H_rule
  refine g_iload_n dX11_rule_0 rfl rfl ?_
  refine g_iconst dX11_rule_1 (by decide) ?_
  refine g_icmpne (tgt := 28) dX11_rule_2 (by decide) ?_ ?_
  · refine g_iload_n dX11_rule_5 rfl rfl ?_
    refine g_iconst dX11_rule_6 (by decide) ?_
    refine g_bipush dX11_rule_7 (by decide) ?_
    refine g_calls3 (st := []) mw_X11_within lk_RX11_135 (ok_H_within a2 0 99 σ) (Nat.le_of_ble_eq_true rfl) rfl rfl (Nat.le_of_ble_eq_true rfl) dX11_rule_9 ?_
    intro r1 s2
    refine g_ifeq (tgt := 28) dX11_rule_12 (by decide) ?_ ?_
    · refine (ok_H_rule_J28 a1 a2 s2)
    · refine g_aload_n dX11_rule_15 rfl rfl ?_
      refine g_getr' (q := 8) fl_RX11_43 kh_0 (by decide) rfl dX11_rule_16 ?_
      refine g_iload_n dX11_rule_19 rfl rfl ?_
      refine g_puti fl_RX11_226 kh_8 (by decide) dX11_rule_20 ?_
      intro s12
      refine g_aload_n dX11_rule_23 rfl rfl ?_
      refine g_callv3 (st := []) 9 mw_X11_agree lk_RX11_121 rfl kh_0 (ok_H_agree s12) (Nat.le_of_ble_eq_true rfl) rfl rfl (Nat.le_of_ble_eq_true rfl) dX11_rule_24 ?_
      intro r13 s14
      exact g_zret dX11_rule_27
  · refine (ok_H_rule_J28 a1 a2 σ)
theorem dX4_companions_0 : decode cX4_companions 0 = .ok (.iconst 0, 1) := by decide +kernel
theorem dX4_companions_1 : decode cX4_companions 1 = .ok (.istore_n 2, 1) := by decide +kernel
theorem dX4_companions_2 : decode cX4_companions 2 = .ok (.iconst 0, 1) := by decide +kernel
theorem dX4_companions_3 : decode cX4_companions 3 = .ok (.istore_n 3, 1) := by decide +kernel
theorem dX4_companions_4 : decode cX4_companions 4 = .ok (.iload_n 3, 1) := by decide +kernel
theorem dX4_companions_5 : decode cX4_companions 5 = .ok (.aload_n 0, 1) := by decide +kernel
theorem dX4_companions_6 : decode cX4_companions 6 = .ok (.getfield 56, 3) := by decide +kernel
theorem dX4_companions_9 : decode cX4_companions 9 = .ok (.if_icmp .ge 55, 3) := by decide +kernel
theorem dX4_companions_12 : decode cX4_companions 12 = .ok (.iload_n 3, 1) := by decide +kernel
theorem dX4_companions_13 : decode cX4_companions 13 = .ok (.bipush 6, 2) := by decide +kernel
theorem dX4_companions_15 : decode cX4_companions 15 = .ok (.if_icmp .ge 49, 3) := by decide +kernel
theorem dX4_companions_18 : decode cX4_companions 18 = .ok (.aload_n 0, 1) := by decide +kernel
theorem dX4_companions_19 : decode cX4_companions 19 = .ok (.iload_n 3, 1) := by decide +kernel
theorem dX4_companions_20 : decode cX4_companions 20 = .ok (.iconst 0, 1) := by decide +kernel
theorem dX4_companions_21 : decode cX4_companions 21 = .ok (.invokevirtual 131, 3) := by decide +kernel
theorem dX4_companions_24 : decode cX4_companions 24 = .ok (.istore 4, 2) := by decide +kernel
theorem dX4_companions_26 : decode cX4_companions 26 = .ok (.aload_n 0, 1) := by decide +kernel
theorem dX4_companions_27 : decode cX4_companions 27 = .ok (.iload_n 3, 1) := by decide +kernel
theorem dX4_companions_28 : decode cX4_companions 28 = .ok (.iconst 1, 1) := by decide +kernel
theorem dX4_companions_29 : decode cX4_companions 29 = .ok (.invokevirtual 131, 3) := by decide +kernel
theorem dX4_companions_32 : decode cX4_companions 32 = .ok (.istore 5, 2) := by decide +kernel
theorem dX4_companions_34 : decode cX4_companions 34 = .ok (.iload_n 2, 1) := by decide +kernel
theorem dX4_companions_35 : decode cX4_companions 35 = .ok (.iload_n 1, 1) := by decide +kernel
theorem dX4_companions_36 : decode cX4_companions 36 = .ok (.iload 4, 2) := by decide +kernel
theorem dX4_companions_38 : decode cX4_companions 38 = .ok (.ishr, 1) := by decide +kernel
theorem dX4_companions_39 : decode cX4_companions 39 = .ok (.iconst 1, 1) := by decide +kernel
theorem dX4_companions_40 : decode cX4_companions 40 = .ok (.iand, 1) := by decide +kernel
theorem dX4_companions_41 : decode cX4_companions 41 = .ok (.iload 5, 2) := by decide +kernel
theorem dX4_companions_43 : decode cX4_companions 43 = .ok (.ishl, 1) := by decide +kernel
theorem dX4_companions_44 : decode cX4_companions 44 = .ok (.ior, 1) := by decide +kernel
theorem dX4_companions_45 : decode cX4_companions 45 = .ok (.istore_n 2, 1) := by decide +kernel
theorem dX4_companions_46 : decode cX4_companions 46 = .ok (.iload_n 2, 1) := by decide +kernel
theorem dX4_companions_47 : decode cX4_companions 47 = .ok (.iload_n 1, 1) := by decide +kernel
theorem dX4_companions_48 : decode cX4_companions 48 = .ok (.iload 5, 2) := by decide +kernel
theorem dX4_companions_50 : decode cX4_companions 50 = .ok (.ishr, 1) := by decide +kernel
theorem dX4_companions_51 : decode cX4_companions 51 = .ok (.iconst 1, 1) := by decide +kernel
theorem dX4_companions_52 : decode cX4_companions 52 = .ok (.iand, 1) := by decide +kernel
theorem dX4_companions_53 : decode cX4_companions 53 = .ok (.iload 4, 2) := by decide +kernel
theorem dX4_companions_55 : decode cX4_companions 55 = .ok (.ishl, 1) := by decide +kernel
theorem dX4_companions_56 : decode cX4_companions 56 = .ok (.ior, 1) := by decide +kernel
theorem dX4_companions_57 : decode cX4_companions 57 = .ok (.istore_n 2, 1) := by decide +kernel
theorem dX4_companions_58 : decode cX4_companions 58 = .ok (.iinc 3 1, 3) := by decide +kernel
theorem dX4_companions_61 : decode cX4_companions 61 = .ok (.goto (-57), 3) := by decide +kernel
theorem dX4_companions_64 : decode cX4_companions 64 = .ok (.iload_n 2, 1) := by decide +kernel
theorem dX4_companions_65 : decode cX4_companions 65 = .ok (.ireturn, 1) := by decide +kernel
theorem mw_X4_companions : MW yX4_companions cX4_companions 6 0 1 false := ⟨tm 1416 (by decide +kernel) rfl, tm 242 (by decide +kernel) rfl, by decide, by decide, (by rw [if_neg (by decide)]; exact ⟨tm 1415 (by decide +kernel) rfl, tm 101 (by decide +kernel) rfl⟩)⟩
def Pr_companions_L4 (pr0 : Nat) (a1 : Int) : Nat → Int → Int → Sg → Rs
  | 0, _, _, _ => none
  | n + 1, v2, v3, σ => (if v3 < (σ pr0 12) then (if v3 < 6 then (bd (Pr_dinnerFact pr0 v3 0 σ) (fun r1 s2 => (bd (Pr_dinnerFact pr0 v3 1 s2) (fun r3 s4 => (nm (or32 v2 (sl32 (an32 (sr32 a1 r1) 1) r3)) (fun x5 => (nm (or32 x5 (sl32 (an32 (sr32 a1 r3) 1) r1)) (fun x6 => (nm (w32 (v3 + 1)) (fun x7 => (Pr_companions_L4 pr0 a1 n x6 x7 s4))))))))))) else (some (v2, σ))) else (some (v2, σ)))
theorem ok_Pr_companions_L4 (pr0 : Nat) (a1 : Int) (hpr0 : Kh[pr0]? = some (.inl 4)) : ∀ (n : Nat) (v2 v3 : Int) (σ : Sg), G l Kh Ph RX4 cX4_companions 6 0 3 4 [some (.inr (.inr pr0)), some (.inl a1), some (.inl v2), some (.inl v3), none, none] [] σ (Pr_companions_L4 pr0 a1 n v2 v3 σ) := by
  intro n
  induction n with
  | zero => intros; exact G.none_
  | succ n ih =>
    intro v2 v3 σ
    rw [Pr_companions_L4]
    refine g_iload_n dX4_companions_4 rfl rfl ?_
    refine g_aload_n dX4_companions_5 rfl rfl ?_
    refine g_geti fl_RX4_56 hpr0 (by decide) dX4_companions_6 ?_
    refine g_icmpge (tgt := 64) dX4_companions_9 (by decide) ?_ ?_
    · refine g_iload_n dX4_companions_12 rfl rfl ?_
      refine g_bipush dX4_companions_13 (by decide) ?_
      refine g_icmpge (tgt := 64) dX4_companions_15 (by decide) ?_ ?_
      · refine g_aload_n dX4_companions_18 rfl rfl ?_
        refine g_iload_n dX4_companions_19 rfl rfl ?_
        refine g_iconst dX4_companions_20 (by decide) ?_
        refine g_callv0 (st := []) 4 mw_X4_dinnerFact lk_RX4_131 rfl hpr0 (ok_Pr_dinnerFact pr0 v3 0 hpr0 σ) (Nat.le_of_ble_eq_true rfl) rfl rfl (Nat.le_of_ble_eq_true rfl) dX4_companions_21 ?_
        intro r1 s2
        refine g_istore (lv' := [some (.inr (.inr pr0)), some (.inl a1), some (.inl v2), some (.inl v3), some (.inl r1), none]) dX4_companions_24 (Nat.le_of_ble_eq_true rfl) rfl ?_
        refine g_aload_n dX4_companions_26 rfl rfl ?_
        refine g_iload_n dX4_companions_27 rfl rfl ?_
        refine g_iconst dX4_companions_28 (by decide) ?_
        refine g_callv0 (st := []) 4 mw_X4_dinnerFact lk_RX4_131 rfl hpr0 (ok_Pr_dinnerFact pr0 v3 1 hpr0 s2) (Nat.le_of_ble_eq_true rfl) rfl rfl (Nat.le_of_ble_eq_true rfl) dX4_companions_29 ?_
        intro r3 s4
        refine g_istore (lv' := [some (.inr (.inr pr0)), some (.inl a1), some (.inl v2), some (.inl v3), some (.inl r1), some (.inl r3)]) dX4_companions_32 (Nat.le_of_ble_eq_true rfl) rfl ?_
        refine g_iload_n dX4_companions_34 rfl rfl ?_
        refine g_iload_n dX4_companions_35 rfl rfl ?_
        refine g_iload dX4_companions_36 rfl ?_
        refine g_ishr dX4_companions_38 ?_
        refine g_iconst dX4_companions_39 (by decide) ?_
        refine g_iand dX4_companions_40 ?_
        refine g_iload dX4_companions_41 rfl ?_
        refine g_ishl dX4_companions_43 ?_
        refine g_ior dX4_companions_44 ?_
        refine n_istore_n (fun x5 => [some (.inr (.inr pr0)), some (.inl a1), some (.inl x5), some (.inl v3), some (.inl r1), some (.inl r3)]) dX4_companions_45 rfl (Nat.le_of_ble_eq_true rfl) (fun _ => rfl) ?_
        intro x5
        refine g_iload_n dX4_companions_46 rfl rfl ?_
        refine g_iload_n dX4_companions_47 rfl rfl ?_
        refine g_iload dX4_companions_48 rfl ?_
        refine g_ishr dX4_companions_50 ?_
        refine g_iconst dX4_companions_51 (by decide) ?_
        refine g_iand dX4_companions_52 ?_
        refine g_iload dX4_companions_53 rfl ?_
        refine g_ishl dX4_companions_55 ?_
        refine g_ior dX4_companions_56 ?_
        refine n_istore_n (fun x6 => [some (.inr (.inr pr0)), some (.inl a1), some (.inl x6), some (.inl v3), some (.inl r1), some (.inl r3)]) dX4_companions_57 rfl (Nat.le_of_ble_eq_true rfl) (fun _ => rfl) ?_
        intro x6
        refine n_iinc (fun x7 => [some (.inr (.inr pr0)), some (.inl a1), some (.inl x6), some (.inl x7), some (.inl r1), some (.inl r3)]) dX4_companions_58 rfl (Nat.le_of_ble_eq_true rfl) (fun _ => rfl) ?_
        intro x7
        refine g_goto (tgt := 4) dX4_companions_61 (by decide) ?_
        exact (g_weak [true, true, true, true, false, false] (ih x6 x7 s4))
      · refine g_iload_n dX4_companions_64 rfl rfl ?_
        exact g_iret dX4_companions_65
    · refine g_iload_n dX4_companions_64 rfl rfl ?_
      exact g_iret dX4_companions_65
def Pr_companions (pr0 : Nat) (a1 : Int) (σ : Sg) : Rs := (Pr_companions_L4 pr0 a1 fu 0 0 σ)
theorem ok_Pr_companions (pr0 : Nat) (a1 : Int) (hpr0 : Kh[pr0]? = some (.inl 4)) (σ : Sg) : MC l Kh Ph yX4_companions cX4_companions 6 0 3 [.inr (.inr pr0), .inl a1] σ (Pr_companions pr0 a1 σ) := by
  refine mc_of (by decide) (Nat.le_of_ble_eq_true rfl) ?_
  change G l Kh Ph RX4 cX4_companions 6 0 3 0 [some (.inr (.inr pr0)), some (.inl a1), none, none, none, none] [] σ (Pr_companions pr0 a1 σ)
  unfold Pr_companions
  refine g_iconst dX4_companions_0 (by decide) ?_
  refine g_istore_n (lv' := [some (.inr (.inr pr0)), some (.inl a1), some (.inl 0), none, none, none]) dX4_companions_1 rfl (Nat.le_of_ble_eq_true rfl) rfl ?_
  refine g_iconst dX4_companions_2 (by decide) ?_
  refine g_istore_n (lv' := [some (.inr (.inr pr0)), some (.inl a1), some (.inl 0), some (.inl 0), none, none]) dX4_companions_3 rfl (Nat.le_of_ble_eq_true rfl) rfl ?_
  refine (ok_Pr_companions_L4 pr0 a1 hpr0 fu 0 0 σ)
theorem dX11_rumour_0 : decode cX11_rumour 0 = .ok (.aload_n 0, 1) := by decide +kernel
theorem dX11_rumour_1 : decode cX11_rumour 1 = .ok (.getfield 43, 3) := by decide +kernel
theorem dX11_rumour_4 : decode cX11_rumour 4 = .ok (.iload_n 1, 1) := by decide +kernel
theorem dX11_rumour_5 : decode cX11_rumour 5 = .ok (.invokevirtual 248, 3) := by decide +kernel
theorem dX11_rumour_8 : decode cX11_rumour 8 = .ok (.ifCond .eq 14, 3) := by decide +kernel
theorem dX11_rumour_11 : decode cX11_rumour 11 = .ok (.aload_n 0, 1) := by decide +kernel
theorem dX11_rumour_12 : decode cX11_rumour 12 = .ok (.getfield 43, 3) := by decide +kernel
theorem dX11_rumour_15 : decode cX11_rumour 15 = .ok (.iload_n 2, 1) := by decide +kernel
theorem dX11_rumour_16 : decode cX11_rumour 16 = .ok (.invokevirtual 266, 3) := by decide +kernel
theorem dX11_rumour_19 : decode cX11_rumour 19 = .ok (.ifCond .ne 9, 3) := by decide +kernel
theorem dX11_rumour_22 : decode cX11_rumour 22 = .ok (.aload_n 0, 1) := by decide +kernel
theorem dX11_rumour_23 : decode cX11_rumour 23 = .ok (.iconst 2, 1) := by decide +kernel
theorem dX11_rumour_24 : decode cX11_rumour 24 = .ok (.invokevirtual 147, 3) := by decide +kernel
theorem dX11_rumour_27 : decode cX11_rumour 27 = .ok (.ireturn, 1) := by decide +kernel
theorem dX11_rumour_28 : decode cX11_rumour 28 = .ok (.aload_n 0, 1) := by decide +kernel
theorem dX11_rumour_29 : decode cX11_rumour 29 = .ok (.getfield 43, 3) := by decide +kernel
theorem dX11_rumour_32 : decode cX11_rumour 32 = .ok (.iload_n 1, 1) := by decide +kernel
theorem dX11_rumour_33 : decode cX11_rumour 33 = .ok (.invokevirtual 257, 3) := by decide +kernel
theorem dX11_rumour_36 : decode cX11_rumour 36 = .ok (.istore_n 3, 1) := by decide +kernel
theorem dX11_rumour_37 : decode cX11_rumour 37 = .ok (.iconst 0, 1) := by decide +kernel
theorem dX11_rumour_38 : decode cX11_rumour 38 = .ok (.istore 4, 2) := by decide +kernel
theorem dX11_rumour_40 : decode cX11_rumour 40 = .ok (.iload 4, 2) := by decide +kernel
theorem dX11_rumour_42 : decode cX11_rumour 42 = .ok (.bipush 6, 2) := by decide +kernel
theorem dX11_rumour_44 : decode cX11_rumour 44 = .ok (.if_icmp .ge 36, 3) := by decide +kernel
theorem dX11_rumour_47 : decode cX11_rumour 47 = .ok (.iload_n 3, 1) := by decide +kernel
theorem dX11_rumour_48 : decode cX11_rumour 48 = .ok (.iload_n 2, 1) := by decide +kernel
theorem dX11_rumour_49 : decode cX11_rumour 49 = .ok (.ishr, 1) := by decide +kernel
theorem dX11_rumour_50 : decode cX11_rumour 50 = .ok (.iconst 1, 1) := by decide +kernel
theorem dX11_rumour_51 : decode cX11_rumour 51 = .ok (.iand, 1) := by decide +kernel
theorem dX11_rumour_52 : decode cX11_rumour 52 = .ok (.iconst 1, 1) := by decide +kernel
theorem dX11_rumour_53 : decode cX11_rumour 53 = .ok (.if_icmp .ne 10, 3) := by decide +kernel
theorem dX11_rumour_56 : decode cX11_rumour 56 = .ok (.aload_n 0, 1) := by decide +kernel
theorem dX11_rumour_57 : decode cX11_rumour 57 = .ok (.iload 4, 2) := by decide +kernel
theorem dX11_rumour_59 : decode cX11_rumour 59 = .ok (.invokevirtual 194, 3) := by decide +kernel
theorem dX11_rumour_62 : decode cX11_rumour 62 = .ok (.ireturn, 1) := by decide +kernel
theorem dX11_rumour_63 : decode cX11_rumour 63 = .ok (.iload_n 3, 1) := by decide +kernel
theorem dX11_rumour_64 : decode cX11_rumour 64 = .ok (.aload_n 0, 1) := by decide +kernel
theorem dX11_rumour_65 : decode cX11_rumour 65 = .ok (.getfield 43, 3) := by decide +kernel
theorem dX11_rumour_68 : decode cX11_rumour 68 = .ok (.iload_n 3, 1) := by decide +kernel
theorem dX11_rumour_69 : decode cX11_rumour 69 = .ok (.invokevirtual 405, 3) := by decide +kernel
theorem dX11_rumour_72 : decode cX11_rumour 72 = .ok (.ior, 1) := by decide +kernel
theorem dX11_rumour_73 : decode cX11_rumour 73 = .ok (.istore_n 3, 1) := by decide +kernel
theorem dX11_rumour_74 : decode cX11_rumour 74 = .ok (.iinc 4 1, 3) := by decide +kernel
theorem dX11_rumour_77 : decode cX11_rumour 77 = .ok (.goto (-37), 3) := by decide +kernel
theorem dX11_rumour_80 : decode cX11_rumour 80 = .ok (.aload_n 0, 1) := by decide +kernel
theorem dX11_rumour_81 : decode cX11_rumour 81 = .ok (.bipush 8, 2) := by decide +kernel
theorem dX11_rumour_83 : decode cX11_rumour 83 = .ok (.invokevirtual 147, 3) := by decide +kernel
theorem dX11_rumour_86 : decode cX11_rumour 86 = .ok (.ireturn, 1) := by decide +kernel
theorem mw_X11_rumour : MW yX11_rumour cX11_rumour 5 0 2 false := ⟨tm 1420 (by decide +kernel) rfl, tm 235 (by decide +kernel) rfl, by decide, by decide, (by rw [if_neg (by decide)]; exact ⟨tm 1418 (by decide +kernel) rfl, tm 1419 (by decide +kernel) rfl⟩)⟩
theorem lk_RX11_405 : LK RX11 405 yX4_companions := Or.inr ⟨"HairProvince", tm 1413 (by decide +kernel) rfl⟩
def H_rumour_L40 (a2 : Int) : Nat → Int → Int → Sg → Rs
  | 0, _, _, _ => none
  | n + 1, v3, v4, σ => (if v4 < 6 then (if (an32 (sr32 v3 a2) 1) = 1 then (bd (H_give v4 σ) (fun r11 s12 => (some (r11, s12)))) else (bd (Pr_companions 8 v3 σ) (fun r13 s14 => (nm (or32 v3 r13) (fun x15 => (nm (w32 (v4 + 1)) (fun x16 => (H_rumour_L40 a2 n x15 x16 s14)))))))) else (bd (H_fail 8 σ) (fun r17 s18 => (some (r17, s18)))))
theorem ok_H_rumour_L40 (a2 : Int) : ∀ (n : Nat) (v3 v4 : Int) (σ : Sg), G l Kh Ph RX11 cX11_rumour 5 0 4 40 [some (.inr (.inr 0)), none, some (.inl a2), some (.inl v3), some (.inl v4)] [] σ (H_rumour_L40 a2 n v3 v4 σ) := by
  intro n
  induction n with
  | zero => intros; exact G.none_
  | succ n ih =>
    intro v3 v4 σ
    rw [H_rumour_L40]
    refine g_iload dX11_rumour_40 rfl ?_
    refine g_bipush dX11_rumour_42 (by decide) ?_
    refine g_icmpge (tgt := 80) dX11_rumour_44 (by decide) ?_ ?_
    · refine g_iload_n dX11_rumour_47 rfl rfl ?_
      refine g_iload_n dX11_rumour_48 rfl rfl ?_
      refine g_ishr dX11_rumour_49 ?_
      refine g_iconst dX11_rumour_50 (by decide) ?_
      refine g_iand dX11_rumour_51 ?_
      refine g_iconst dX11_rumour_52 (by decide) ?_
      refine g_icmpne (tgt := 63) dX11_rumour_53 (by decide) ?_ ?_
      · refine g_aload_n dX11_rumour_56 rfl rfl ?_
        refine g_iload dX11_rumour_57 rfl ?_
        refine g_callv0 (st := []) 9 mw_X11_give lk_RX11_194 rfl kh_0 (ok_H_give v4 σ) (Nat.le_of_ble_eq_true rfl) rfl rfl (Nat.le_of_ble_eq_true rfl) dX11_rumour_59 ?_
        intro r11 s12
        exact g_iret dX11_rumour_62
      · refine g_iload_n dX11_rumour_63 rfl rfl ?_
        refine g_aload_n dX11_rumour_64 rfl rfl ?_
        refine g_getr' (q := 8) fl_RX11_43 kh_0 (by decide) rfl dX11_rumour_65 ?_
        refine g_iload_n dX11_rumour_68 rfl rfl ?_
        refine g_callv0 (st := [.inl v3]) 4 mw_X4_companions lk_RX11_405 rfl kh_8 (ok_Pr_companions 8 v3 kh_8 σ) (Nat.le_of_ble_eq_true rfl) rfl rfl (Nat.le_of_ble_eq_true rfl) dX11_rumour_69 ?_
        intro r13 s14
        refine g_ior dX11_rumour_72 ?_
        refine n_istore_n (fun x15 => [some (.inr (.inr 0)), none, some (.inl a2), some (.inl x15), some (.inl v4)]) dX11_rumour_73 rfl (Nat.le_of_ble_eq_true rfl) (fun _ => rfl) ?_
        intro x15
        refine n_iinc (fun x16 => [some (.inr (.inr 0)), none, some (.inl a2), some (.inl x15), some (.inl x16)]) dX11_rumour_74 rfl (Nat.le_of_ble_eq_true rfl) (fun _ => rfl) ?_
        intro x16
        refine g_goto (tgt := 40) dX11_rumour_77 (by decide) ?_
        exact (ih x15 x16 s14)
    · refine g_aload_n dX11_rumour_80 rfl rfl ?_
      refine g_bipush dX11_rumour_81 (by decide) ?_
      refine g_callv0 (st := []) 9 mw_X11_fail lk_RX11_147 rfl kh_0 (ok_H_fail 8 σ) (Nat.le_of_ble_eq_true rfl) rfl rfl (Nat.le_of_ble_eq_true rfl) dX11_rumour_83 ?_
      intro r17 s18
      exact g_iret dX11_rumour_86
def H_rumour (a1 : Int) (a2 : Int) (σ : Sg) : Rs := (bd (Pr_isWord 8 a1 σ) (fun r1 s2 => (if r1 = 0 then (bd (H_fail 2 s2) (fun r3 s4 => (some (r3, s4)))) else (bd (Pr_isPerson 8 a2 s2) (fun r5 s6 => (if r5 = 0 then (bd (H_fail 2 s6) (fun r7 s8 => (some (r7, s8)))) else (bd (Pr_knowersOf 8 a1 s6) (fun r9 s10 => (H_rumour_L40 a2 fu r9 0 s10)))))))))
theorem ok_H_rumour (a1 : Int) (a2 : Int) (σ : Sg) : MC l Kh Ph yX11_rumour cX11_rumour 5 0 4 [.inr (.inr 0), .inl a1, .inl a2] σ (H_rumour a1 a2 σ) := by
  refine mc_of (by decide) (Nat.le_of_ble_eq_true rfl) ?_
  change G l Kh Ph RX11 cX11_rumour 5 0 4 0 [some (.inr (.inr 0)), some (.inl a1), some (.inl a2), none, none] [] σ (H_rumour a1 a2 σ)
  unfold H_rumour
  refine g_aload_n dX11_rumour_0 rfl rfl ?_
  refine g_getr' (q := 8) fl_RX11_43 kh_0 (by decide) rfl dX11_rumour_1 ?_
  refine g_iload_n dX11_rumour_4 rfl rfl ?_
  refine g_callv3 (st := []) 4 mw_X4_isWord lk_RX11_248 rfl kh_8 (ok_Pr_isWord 8 a1 kh_8 σ) (Nat.le_of_ble_eq_true rfl) rfl rfl (Nat.le_of_ble_eq_true rfl) dX11_rumour_5 ?_
  intro r1 s2
  refine g_ifeq (tgt := 22) dX11_rumour_8 (by decide) ?_ ?_
  · refine g_aload_n dX11_rumour_22 rfl rfl ?_
    refine g_iconst dX11_rumour_23 (by decide) ?_
    refine g_callv0 (st := []) 9 mw_X11_fail lk_RX11_147 rfl kh_0 (ok_H_fail 2 s2) (Nat.le_of_ble_eq_true rfl) rfl rfl (Nat.le_of_ble_eq_true rfl) dX11_rumour_24 ?_
    intro r3 s4
    exact g_iret dX11_rumour_27
  · refine g_aload_n dX11_rumour_11 rfl rfl ?_
    refine g_getr' (q := 8) fl_RX11_43 kh_0 (by decide) rfl dX11_rumour_12 ?_
    refine g_iload_n dX11_rumour_15 rfl rfl ?_
    refine g_callv3 (st := []) 4 mw_X4_isPerson lk_RX11_266 rfl kh_8 (ok_Pr_isPerson 8 a2 kh_8 s2) (Nat.le_of_ble_eq_true rfl) rfl rfl (Nat.le_of_ble_eq_true rfl) dX11_rumour_16 ?_
    intro r5 s6
    refine g_ifne (tgt := 28) dX11_rumour_19 (by decide) ?_ ?_
    · refine g_aload_n dX11_rumour_22 rfl rfl ?_
      refine g_iconst dX11_rumour_23 (by decide) ?_
      refine g_callv0 (st := []) 9 mw_X11_fail lk_RX11_147 rfl kh_0 (ok_H_fail 2 s6) (Nat.le_of_ble_eq_true rfl) rfl rfl (Nat.le_of_ble_eq_true rfl) dX11_rumour_24 ?_
      intro r7 s8
      exact g_iret dX11_rumour_27
    · refine g_aload_n dX11_rumour_28 rfl rfl ?_
      refine g_getr' (q := 8) fl_RX11_43 kh_0 (by decide) rfl dX11_rumour_29 ?_
      refine g_iload_n dX11_rumour_32 rfl rfl ?_
      refine g_callv0 (st := []) 4 mw_X4_knowersOf lk_RX11_257 rfl kh_8 (ok_Pr_knowersOf 8 a1 kh_8 s6) (Nat.le_of_ble_eq_true rfl) rfl rfl (Nat.le_of_ble_eq_true rfl) dX11_rumour_33 ?_
      intro r9 s10
      refine g_istore_n (lv' := [some (.inr (.inr 0)), some (.inl a1), some (.inl a2), some (.inl r9), none]) dX11_rumour_36 rfl (Nat.le_of_ble_eq_true rfl) rfl ?_
      refine g_iconst dX11_rumour_37 (by decide) ?_
      refine g_istore (lv' := [some (.inr (.inr 0)), some (.inl a1), some (.inl a2), some (.inl r9), some (.inl 0)]) dX11_rumour_38 (Nat.le_of_ble_eq_true rfl) rfl ?_
      refine (g_weak [true, false, true, true, true] (ok_H_rumour_L40 a2 fu r9 0 s10))
theorem dX11_safe_0 : decode cX11_safe 0 = .ok (.aload_n 0, 1) := by decide +kernel
theorem dX11_safe_1 : decode cX11_safe 1 = .ok (.getfield 43, 3) := by decide +kernel
theorem dX11_safe_4 : decode cX11_safe 4 = .ok (.iload_n 1, 1) := by decide +kernel
theorem dX11_safe_5 : decode cX11_safe 5 = .ok (.invokevirtual 248, 3) := by decide +kernel
theorem dX11_safe_8 : decode cX11_safe 8 = .ok (.ifCond .ne 9, 3) := by decide +kernel
theorem dX11_safe_11 : decode cX11_safe 11 = .ok (.aload_n 0, 1) := by decide +kernel
theorem dX11_safe_12 : decode cX11_safe 12 = .ok (.iconst 2, 1) := by decide +kernel
theorem dX11_safe_13 : decode cX11_safe 13 = .ok (.invokevirtual 114, 3) := by decide +kernel
theorem dX11_safe_16 : decode cX11_safe 16 = .ok (.ireturn, 1) := by decide +kernel
theorem dX11_safe_17 : decode cX11_safe 17 = .ok (.iload_n 2, 1) := by decide +kernel
theorem dX11_safe_18 : decode cX11_safe 18 = .ok (.iconst 0, 1) := by decide +kernel
theorem dX11_safe_19 : decode cX11_safe 19 = .ok (.iconst 2, 1) := by decide +kernel
theorem dX11_safe_20 : decode cX11_safe 20 = .ok (.invokestatic 135, 3) := by decide +kernel
theorem dX11_safe_23 : decode cX11_safe 23 = .ok (.ifCond .ne 9, 3) := by decide +kernel
theorem dX11_safe_26 : decode cX11_safe 26 = .ok (.aload_n 0, 1) := by decide +kernel
theorem dX11_safe_27 : decode cX11_safe 27 = .ok (.iconst 5, 1) := by decide +kernel
theorem dX11_safe_28 : decode cX11_safe 28 = .ok (.invokevirtual 114, 3) := by decide +kernel
theorem dX11_safe_31 : decode cX11_safe 31 = .ok (.ireturn, 1) := by decide +kernel
theorem dX11_safe_32 : decode cX11_safe 32 = .ok (.iload_n 2, 1) := by decide +kernel
theorem dX11_safe_33 : decode cX11_safe 33 = .ok (.aload_n 0, 1) := by decide +kernel
theorem dX11_safe_34 : decode cX11_safe 34 = .ok (.getfield 43, 3) := by decide +kernel
theorem dX11_safe_37 : decode cX11_safe 37 = .ok (.iload_n 1, 1) := by decide +kernel
theorem dX11_safe_38 : decode cX11_safe 38 = .ok (.invokevirtual 260, 3) := by decide +kernel
theorem dX11_safe_41 : decode cX11_safe 41 = .ok (.invokestatic 316, 3) := by decide +kernel
theorem dX11_safe_44 : decode cX11_safe 44 = .ok (.imul, 1) := by decide +kernel
theorem dX11_safe_45 : decode cX11_safe 45 = .ok (.istore_n 3, 1) := by decide +kernel
theorem dX11_safe_46 : decode cX11_safe 46 = .ok (.aload_n 0, 1) := by decide +kernel
theorem dX11_safe_47 : decode cX11_safe 47 = .ok (.bipush 16, 2) := by decide +kernel
theorem dX11_safe_49 : decode cX11_safe 49 = .ok (.aload_n 0, 1) := by decide +kernel
theorem dX11_safe_50 : decode cX11_safe 50 = .ok (.getfield 43, 3) := by decide +kernel
theorem dX11_safe_53 : decode cX11_safe 53 = .ok (.getfield 229, 3) := by decide +kernel
theorem dX11_safe_56 : decode cX11_safe 56 = .ok (.isub, 1) := by decide +kernel
theorem dX11_safe_57 : decode cX11_safe 57 = .ok (.iload_n 3, 1) := by decide +kernel
theorem dX11_safe_58 : decode cX11_safe 58 = .ok (.invokestatic 419, 3) := by decide +kernel
theorem dX11_safe_61 : decode cX11_safe 61 = .ok (.bipush 16, 2) := by decide +kernel
theorem dX11_safe_63 : decode cX11_safe 63 = .ok (.iload_n 3, 1) := by decide +kernel
theorem dX11_safe_64 : decode cX11_safe 64 = .ok (.invokestatic 419, 3) := by decide +kernel
theorem dX11_safe_67 : decode cX11_safe 67 = .ok (.invokevirtual 422, 3) := by decide +kernel
theorem dX11_safe_70 : decode cX11_safe 70 = .ok (.aload_n 0, 1) := by decide +kernel
theorem dX11_safe_71 : decode cX11_safe 71 = .ok (.invokevirtual 121, 3) := by decide +kernel
theorem dX11_safe_74 : decode cX11_safe 74 = .ok (.ireturn, 1) := by decide +kernel
theorem mw_X11_safe : MW yX11_safe cX11_safe 4 3 2 false := ⟨tm 1470 (by decide +kernel) rfl, tm 235 (by decide +kernel) rfl, by decide, by decide, (by rw [if_neg (by decide)]; exact ⟨tm 1468 (by decide +kernel) rfl, tm 1469 (by decide +kernel) rfl⟩)⟩
def H_safe (a1 : Int) (a2 : Int) (σ : Sg) : Rs := (bd (Pr_isWord 8 a1 σ) (fun r1 s2 => (if r1 = 0 then (bd (H_refuse 2 s2) (fun r3 s4 => (zb r3 (some (r3, s4))))) else (bd (H_within a2 0 2 s2) (fun r5 s6 => (if r5 = 0 then (bd (H_refuse 5 s6) (fun r7 s8 => (zb r7 (some (r7, s8))))) else (bd (Pr_keepersOf 8 a1 s6) (fun r9 s10 => (bd (JI_bitCount r9 s10) (fun r11 s12 => (nm (w32 (a2 * r11)) (fun x13 => (bd (H_power (w32 (16 - (s12 8 15))) x13 s12) (fun r14 s15 => (bd (H_power 16 x13 s15) (fun r16 s17 => (bd (H_tell r14 r16 s17) (fun r18 s19 => (bd (H_agree s19) (fun r20 s21 => (zb r20 (some (r20, s21)))))))))))))))))))))))
theorem ok_H_safe (a1 : Int) (a2 : Int) (σ : Sg) : MC l Kh Ph yX11_safe cX11_safe 4 3 2 [.inr (.inr 0), .inl a1, .inl a2] σ (H_safe a1 a2 σ) := by
  refine mc_of (by decide) (Nat.le_of_ble_eq_true rfl) ?_
  change G l Kh Ph RX11 cX11_safe 4 3 2 0 [some (.inr (.inr 0)), some (.inl a1), some (.inl a2), none] [] σ (H_safe a1 a2 σ)
  unfold H_safe
  refine g_aload_n dX11_safe_0 rfl rfl ?_
  refine g_getr' (q := 8) fl_RX11_43 kh_0 (by decide) rfl dX11_safe_1 ?_
  refine g_iload_n dX11_safe_4 rfl rfl ?_
  refine g_callv3 (st := []) 4 mw_X4_isWord lk_RX11_248 rfl kh_8 (ok_Pr_isWord 8 a1 kh_8 σ) (Nat.le_of_ble_eq_true rfl) rfl rfl (Nat.le_of_ble_eq_true rfl) dX11_safe_5 ?_
  intro r1 s2
  refine g_ifne (tgt := 17) dX11_safe_8 (by decide) ?_ ?_
  · refine g_aload_n dX11_safe_11 rfl rfl ?_
    refine g_iconst dX11_safe_12 (by decide) ?_
    refine g_callv3 (st := []) 9 mw_X11_refuse lk_RX11_114 rfl kh_0 (ok_H_refuse 2 s2) (Nat.le_of_ble_eq_true rfl) rfl rfl (Nat.le_of_ble_eq_true rfl) dX11_safe_13 ?_
    intro r3 s4
    exact g_zret dX11_safe_16
  · refine g_iload_n dX11_safe_17 rfl rfl ?_
    refine g_iconst dX11_safe_18 (by decide) ?_
    refine g_iconst dX11_safe_19 (by decide) ?_
    refine g_calls3 (st := []) mw_X11_within lk_RX11_135 (ok_H_within a2 0 2 s2) (Nat.le_of_ble_eq_true rfl) rfl rfl (Nat.le_of_ble_eq_true rfl) dX11_safe_20 ?_
    intro r5 s6
    refine g_ifne (tgt := 32) dX11_safe_23 (by decide) ?_ ?_
    · refine g_aload_n dX11_safe_26 rfl rfl ?_
      refine g_iconst dX11_safe_27 (by decide) ?_
      refine g_callv3 (st := []) 9 mw_X11_refuse lk_RX11_114 rfl kh_0 (ok_H_refuse 5 s6) (Nat.le_of_ble_eq_true rfl) rfl rfl (Nat.le_of_ble_eq_true rfl) dX11_safe_28 ?_
      intro r7 s8
      exact g_zret dX11_safe_31
    · refine g_iload_n dX11_safe_32 rfl rfl ?_
      refine g_aload_n dX11_safe_33 rfl rfl ?_
      refine g_getr' (q := 8) fl_RX11_43 kh_0 (by decide) rfl dX11_safe_34 ?_
      refine g_iload_n dX11_safe_37 rfl rfl ?_
      refine g_callv0 (st := [.inl a2]) 4 mw_X4_keepersOf lk_RX11_260 rfl kh_8 (ok_Pr_keepersOf 8 a1 kh_8 s6) (Nat.le_of_ble_eq_true rfl) rfl rfl (Nat.le_of_ble_eq_true rfl) dX11_safe_38 ?_
      intro r9 s10
      refine g_calls0 (st := [.inl a2]) mw_J6_bitCount_0f7a4 lk_RX11_316 (ok_JI_bitCount r9 s10) (Nat.le_of_ble_eq_true rfl) rfl rfl (Nat.le_of_ble_eq_true rfl) dX11_safe_41 ?_
      intro r11 s12
      refine g_imul dX11_safe_44 ?_
      refine n_istore_n (fun x13 => [some (.inr (.inr 0)), some (.inl a1), some (.inl a2), some (.inl x13)]) dX11_safe_45 rfl (Nat.le_of_ble_eq_true rfl) (fun _ => rfl) ?_
      intro x13
      refine g_aload_n dX11_safe_46 rfl rfl ?_
      refine g_bipush dX11_safe_47 (by decide) ?_
      refine g_aload_n dX11_safe_49 rfl rfl ?_
      refine g_getr' (q := 8) fl_RX11_43 kh_0 (by decide) rfl dX11_safe_50 ?_
      refine g_geti fl_RX11_229 kh_8 (by decide) dX11_safe_53 ?_
      refine g_isub dX11_safe_56 ?_
      refine g_iload_n dX11_safe_57 rfl rfl ?_
      refine g_calls1 (st := [.inr (.inr 0)]) mw_X11_power lk_RX11_419 (ok_H_power (w32 (16 - (s12 8 15))) x13 s12) (Nat.le_of_ble_eq_true rfl) rfl rfl (Nat.le_of_ble_eq_true rfl) dX11_safe_58 ?_
      intro r14 s15
      refine g_bipush dX11_safe_61 (by decide) ?_
      refine g_iload_n dX11_safe_63 rfl rfl ?_
      refine g_calls1 (st := [.inr (.inl r14), .inr (.inr 0)]) mw_X11_power lk_RX11_419 (ok_H_power 16 x13 s15) (Nat.le_of_ble_eq_true rfl) rfl rfl (Nat.le_of_ble_eq_true rfl) dX11_safe_64 ?_
      intro r16 s17
      refine g_callv2 (st := []) 9 mw_X11_tell lk_RX11_422 rfl kh_0 (ok_H_tell r14 r16 s17) (Nat.le_of_ble_eq_true rfl) rfl rfl (Nat.le_of_ble_eq_true rfl) dX11_safe_67 ?_
      intro r18 s19
      refine g_aload_n dX11_safe_70 rfl rfl ?_
      refine g_callv3 (st := []) 9 mw_X11_agree lk_RX11_121 rfl kh_0 (ok_H_agree s19) (Nat.le_of_ble_eq_true rfl) rfl rfl (Nat.le_of_ble_eq_true rfl) dX11_safe_71 ?_
      intro r20 s21
      exact g_zret dX11_safe_74
theorem dX11_say_0 : decode cX11_say 0 = .ok (.aload_n 0, 1) := by decide +kernel
theorem dX11_say_1 : decode cX11_say 1 = .ok (.getfield 43, 3) := by decide +kernel
theorem dX11_say_4 : decode cX11_say 4 = .ok (.iload_n 1, 1) := by decide +kernel
theorem dX11_say_5 : decode cX11_say 5 = .ok (.invokevirtual 266, 3) := by decide +kernel
theorem dX11_say_8 : decode cX11_say 8 = .ok (.ifCond .eq 25, 3) := by decide +kernel
theorem dX11_say_11 : decode cX11_say 11 = .ok (.aload_n 0, 1) := by decide +kernel
theorem dX11_say_12 : decode cX11_say 12 = .ok (.getfield 43, 3) := by decide +kernel
theorem dX11_say_15 : decode cX11_say 15 = .ok (.iload_n 2, 1) := by decide +kernel
theorem dX11_say_16 : decode cX11_say 16 = .ok (.invokevirtual 248, 3) := by decide +kernel
theorem dX11_say_19 : decode cX11_say 19 = .ok (.ifCond .eq 14, 3) := by decide +kernel
theorem dX11_say_22 : decode cX11_say 22 = .ok (.aload_n 0, 1) := by decide +kernel
theorem dX11_say_23 : decode cX11_say 23 = .ok (.getfield 43, 3) := by decide +kernel
theorem dX11_say_26 : decode cX11_say 26 = .ok (.iload_n 3, 1) := by decide +kernel
theorem dX11_say_27 : decode cX11_say 27 = .ok (.invokevirtual 266, 3) := by decide +kernel
theorem dX11_say_30 : decode cX11_say 30 = .ok (.ifCond .ne 9, 3) := by decide +kernel
theorem dX11_say_33 : decode cX11_say 33 = .ok (.aload_n 0, 1) := by decide +kernel
theorem dX11_say_34 : decode cX11_say 34 = .ok (.iconst 2, 1) := by decide +kernel
theorem dX11_say_35 : decode cX11_say 35 = .ok (.invokevirtual 147, 3) := by decide +kernel
theorem dX11_say_38 : decode cX11_say 38 = .ok (.ireturn, 1) := by decide +kernel
theorem dX11_say_39 : decode cX11_say 39 = .ok (.aload_n 0, 1) := by decide +kernel
theorem dX11_say_40 : decode cX11_say 40 = .ok (.getfield 43, 3) := by decide +kernel
theorem dX11_say_43 : decode cX11_say 43 = .ok (.iload_n 1, 1) := by decide +kernel
theorem dX11_say_44 : decode cX11_say 44 = .ok (.iload_n 2, 1) := by decide +kernel
theorem dX11_say_45 : decode cX11_say 45 = .ok (.iload_n 3, 1) := by decide +kernel
theorem dX11_say_46 : decode cX11_say 46 = .ok (.invokevirtual 303, 3) := by decide +kernel
theorem dX11_say_49 : decode cX11_say 49 = .ok (.ifCond .ne 10, 3) := by decide +kernel
theorem dX11_say_52 : decode cX11_say 52 = .ok (.aload_n 0, 1) := by decide +kernel
theorem dX11_say_53 : decode cX11_say 53 = .ok (.bipush 9, 2) := by decide +kernel
theorem dX11_say_55 : decode cX11_say 55 = .ok (.invokevirtual 147, 3) := by decide +kernel
theorem dX11_say_58 : decode cX11_say 58 = .ok (.ireturn, 1) := by decide +kernel
theorem dX11_say_59 : decode cX11_say 59 = .ok (.aload_n 0, 1) := by decide +kernel
theorem dX11_say_60 : decode cX11_say 60 = .ok (.getfield 43, 3) := by decide +kernel
theorem dX11_say_63 : decode cX11_say 63 = .ok (.iload_n 1, 1) := by decide +kernel
theorem dX11_say_64 : decode cX11_say 64 = .ok (.iload_n 2, 1) := by decide +kernel
theorem dX11_say_65 : decode cX11_say 65 = .ok (.iload_n 3, 1) := by decide +kernel
theorem dX11_say_66 : decode cX11_say 66 = .ok (.invokevirtual 306, 3) := by decide +kernel
theorem dX11_say_69 : decode cX11_say 69 = .ok (.aload_n 0, 1) := by decide +kernel
theorem dX11_say_70 : decode cX11_say 70 = .ok (.aload_n 0, 1) := by decide +kernel
theorem dX11_say_71 : decode cX11_say 71 = .ok (.getfield 43, 3) := by decide +kernel
theorem dX11_say_74 : decode cX11_say 74 = .ok (.iload_n 1, 1) := by decide +kernel
theorem dX11_say_75 : decode cX11_say 75 = .ok (.invokevirtual 281, 3) := by decide +kernel
theorem dX11_say_78 : decode cX11_say 78 = .ok (.invokevirtual 194, 3) := by decide +kernel
theorem dX11_say_81 : decode cX11_say 81 = .ok (.ireturn, 1) := by decide +kernel
theorem mw_X11_say : MW yX11_say cX11_say 4 0 3 false := ⟨tm 1160 (by decide +kernel) rfl, tm 235 (by decide +kernel) rfl, by decide, by decide, (by rw [if_neg (by decide)]; exact ⟨tm 1158 (by decide +kernel) rfl, tm 1159 (by decide +kernel) rfl⟩)⟩
theorem lk_RX11_303 : LK RX11 303 yX4_canSpeak := Or.inr ⟨"HairProvince", tm 1161 (by decide +kernel) rfl⟩
theorem lk_RX11_306 : LK RX11 306 yX4_speak := Or.inr ⟨"HairProvince", tm 1169 (by decide +kernel) rfl⟩
def H_say (a1 : Int) (a2 : Int) (a3 : Int) (σ : Sg) : Rs := (bd (Pr_isPerson 8 a1 σ) (fun r1 s2 => (if r1 = 0 then (bd (H_fail 2 s2) (fun r3 s4 => (some (r3, s4)))) else (bd (Pr_isWord 8 a2 s2) (fun r5 s6 => (if r5 = 0 then (bd (H_fail 2 s6) (fun r7 s8 => (some (r7, s8)))) else (bd (Pr_isPerson 8 a3 s6) (fun r9 s10 => (if r9 = 0 then (bd (H_fail 2 s10) (fun r11 s12 => (some (r11, s12)))) else (bd (Pr_canSpeak 8 a1 a2 a3 s10) (fun r13 s14 => (if r13 = 0 then (bd (H_fail 9 s14) (fun r15 s16 => (some (r15, s16)))) else (bd (Pr_speak 8 a1 a2 a3 s14) (fun r17 s18 => (bd (Pr_hairOf 8 a1 s18) (fun r19 s20 => (bd (H_give r19 s20) (fun r21 s22 => (some (r21, s22))))))))))))))))))))
theorem ok_H_say (a1 : Int) (a2 : Int) (a3 : Int) (σ : Sg) : MC l Kh Ph yX11_say cX11_say 4 0 4 [.inr (.inr 0), .inl a1, .inl a2, .inl a3] σ (H_say a1 a2 a3 σ) := by
  refine mc_of (by decide) (Nat.le_of_ble_eq_true rfl) ?_
  change G l Kh Ph RX11 cX11_say 4 0 4 0 [some (.inr (.inr 0)), some (.inl a1), some (.inl a2), some (.inl a3)] [] σ (H_say a1 a2 a3 σ)
  unfold H_say
  refine g_aload_n dX11_say_0 rfl rfl ?_
  refine g_getr' (q := 8) fl_RX11_43 kh_0 (by decide) rfl dX11_say_1 ?_
  refine g_iload_n dX11_say_4 rfl rfl ?_
  refine g_callv3 (st := []) 4 mw_X4_isPerson lk_RX11_266 rfl kh_8 (ok_Pr_isPerson 8 a1 kh_8 σ) (Nat.le_of_ble_eq_true rfl) rfl rfl (Nat.le_of_ble_eq_true rfl) dX11_say_5 ?_
  intro r1 s2
  refine g_ifeq (tgt := 33) dX11_say_8 (by decide) ?_ ?_
  · refine g_aload_n dX11_say_33 rfl rfl ?_
    refine g_iconst dX11_say_34 (by decide) ?_
    refine g_callv0 (st := []) 9 mw_X11_fail lk_RX11_147 rfl kh_0 (ok_H_fail 2 s2) (Nat.le_of_ble_eq_true rfl) rfl rfl (Nat.le_of_ble_eq_true rfl) dX11_say_35 ?_
    intro r3 s4
    exact g_iret dX11_say_38
  · refine g_aload_n dX11_say_11 rfl rfl ?_
    refine g_getr' (q := 8) fl_RX11_43 kh_0 (by decide) rfl dX11_say_12 ?_
    refine g_iload_n dX11_say_15 rfl rfl ?_
    refine g_callv3 (st := []) 4 mw_X4_isWord lk_RX11_248 rfl kh_8 (ok_Pr_isWord 8 a2 kh_8 s2) (Nat.le_of_ble_eq_true rfl) rfl rfl (Nat.le_of_ble_eq_true rfl) dX11_say_16 ?_
    intro r5 s6
    refine g_ifeq (tgt := 33) dX11_say_19 (by decide) ?_ ?_
    · refine g_aload_n dX11_say_33 rfl rfl ?_
      refine g_iconst dX11_say_34 (by decide) ?_
      refine g_callv0 (st := []) 9 mw_X11_fail lk_RX11_147 rfl kh_0 (ok_H_fail 2 s6) (Nat.le_of_ble_eq_true rfl) rfl rfl (Nat.le_of_ble_eq_true rfl) dX11_say_35 ?_
      intro r7 s8
      exact g_iret dX11_say_38
    · refine g_aload_n dX11_say_22 rfl rfl ?_
      refine g_getr' (q := 8) fl_RX11_43 kh_0 (by decide) rfl dX11_say_23 ?_
      refine g_iload_n dX11_say_26 rfl rfl ?_
      refine g_callv3 (st := []) 4 mw_X4_isPerson lk_RX11_266 rfl kh_8 (ok_Pr_isPerson 8 a3 kh_8 s6) (Nat.le_of_ble_eq_true rfl) rfl rfl (Nat.le_of_ble_eq_true rfl) dX11_say_27 ?_
      intro r9 s10
      refine g_ifne (tgt := 39) dX11_say_30 (by decide) ?_ ?_
      · refine g_aload_n dX11_say_33 rfl rfl ?_
        refine g_iconst dX11_say_34 (by decide) ?_
        refine g_callv0 (st := []) 9 mw_X11_fail lk_RX11_147 rfl kh_0 (ok_H_fail 2 s10) (Nat.le_of_ble_eq_true rfl) rfl rfl (Nat.le_of_ble_eq_true rfl) dX11_say_35 ?_
        intro r11 s12
        exact g_iret dX11_say_38
      · refine g_aload_n dX11_say_39 rfl rfl ?_
        refine g_getr' (q := 8) fl_RX11_43 kh_0 (by decide) rfl dX11_say_40 ?_
        refine g_iload_n dX11_say_43 rfl rfl ?_
        refine g_iload_n dX11_say_44 rfl rfl ?_
        refine g_iload_n dX11_say_45 rfl rfl ?_
        refine g_callv3 (st := []) 4 mw_X4_canSpeak lk_RX11_303 rfl kh_8 (ok_Pr_canSpeak 8 a1 a2 a3 kh_8 s10) (Nat.le_of_ble_eq_true rfl) rfl rfl (Nat.le_of_ble_eq_true rfl) dX11_say_46 ?_
        intro r13 s14
        refine g_ifne (tgt := 59) dX11_say_49 (by decide) ?_ ?_
        · refine g_aload_n dX11_say_52 rfl rfl ?_
          refine g_bipush dX11_say_53 (by decide) ?_
          refine g_callv0 (st := []) 9 mw_X11_fail lk_RX11_147 rfl kh_0 (ok_H_fail 9 s14) (Nat.le_of_ble_eq_true rfl) rfl rfl (Nat.le_of_ble_eq_true rfl) dX11_say_55 ?_
          intro r15 s16
          exact g_iret dX11_say_58
        · refine g_aload_n dX11_say_59 rfl rfl ?_
          refine g_getr' (q := 8) fl_RX11_43 kh_0 (by decide) rfl dX11_say_60 ?_
          refine g_iload_n dX11_say_63 rfl rfl ?_
          refine g_iload_n dX11_say_64 rfl rfl ?_
          refine g_iload_n dX11_say_65 rfl rfl ?_
          refine g_callv2 (st := []) 4 mw_X4_speak lk_RX11_306 rfl kh_8 (ok_Pr_speak 8 a1 a2 a3 kh_8 s14) (Nat.le_of_ble_eq_true rfl) rfl rfl (Nat.le_of_ble_eq_true rfl) dX11_say_66 ?_
          intro r17 s18
          refine g_aload_n dX11_say_69 rfl rfl ?_
          refine g_aload_n dX11_say_70 rfl rfl ?_
          refine g_getr' (q := 8) fl_RX11_43 kh_0 (by decide) rfl dX11_say_71 ?_
          refine g_iload_n dX11_say_74 rfl rfl ?_
          refine g_callv0 (st := [.inr (.inr 0)]) 4 mw_X4_hairOf lk_RX11_281 rfl kh_8 (ok_Pr_hairOf 8 a1 kh_8 s18) (Nat.le_of_ble_eq_true rfl) rfl rfl (Nat.le_of_ble_eq_true rfl) dX11_say_75 ?_
          intro r19 s20
          refine g_callv0 (st := []) 9 mw_X11_give lk_RX11_194 rfl kh_0 (ok_H_give r19 s20) (Nat.le_of_ble_eq_true rfl) rfl rfl (Nat.le_of_ble_eq_true rfl) dX11_say_78 ?_
          intro r21 s22
          exact g_iret dX11_say_81
theorem dX11_status_0 : decode cX11_status 0 = .ok (.aload_n 0, 1) := by decide +kernel
theorem dX11_status_1 : decode cX11_status 1 = .ok (.getfield 9, 3) := by decide +kernel
theorem dX11_status_4 : decode cX11_status 4 = .ok (.ireturn, 1) := by decide +kernel
theorem mw_X11_status : MW yX11_status cX11_status 1 0 0 false := ⟨tm 686 (by decide +kernel) rfl, tm 235 (by decide +kernel) rfl, by decide, by decide, (by rw [if_neg (by decide)]; exact ⟨tm 684 (by decide +kernel) rfl, tm 685 (by decide +kernel) rfl⟩)⟩
def H_status  (σ : Sg) : Rs := (some ((σ 0 0), σ))
theorem ok_H_status (σ : Sg) : MC l Kh Ph yX11_status cX11_status 1 0 1 [.inr (.inr 0)] σ (H_status σ) := by
  refine mc_of (by decide) (Nat.le_of_ble_eq_true rfl) ?_
  change G l Kh Ph RX11 cX11_status 1 0 1 0 [some (.inr (.inr 0))] [] σ (H_status  σ)
  unfold H_status
  refine g_aload_n dX11_status_0 rfl rfl ?_
  refine g_geti fl_RX11_9 kh_0 (by decide) dX11_status_1 ?_
  exact g_iret dX11_status_4
theorem dX4_strandAge_0 : decode cX4_strandAge 0 = .ok (.aload_n 0, 1) := by decide +kernel
theorem dX4_strandAge_1 : decode cX4_strandAge 1 = .ok (.iload_n 1, 1) := by decide +kernel
theorem dX4_strandAge_2 : decode cX4_strandAge 2 = .ok (.iload_n 2, 1) := by decide +kernel
theorem dX4_strandAge_3 : decode cX4_strandAge 3 = .ok (.invokevirtual 90, 3) := by decide +kernel
theorem dX4_strandAge_6 : decode cX4_strandAge 6 = .ok (.ifCond .eq 28, 3) := by decide +kernel
theorem dX4_strandAge_9 : decode cX4_strandAge 9 = .ok (.aload_n 0, 1) := by decide +kernel
theorem dX4_strandAge_10 : decode cX4_strandAge 10 = .ok (.getfield 62, 3) := by decide +kernel
theorem dX4_strandAge_13 : decode cX4_strandAge 13 = .ok (.aload_n 0, 1) := by decide +kernel
theorem dX4_strandAge_14 : decode cX4_strandAge 14 = .ok (.getfield 34, 3) := by decide +kernel
theorem dX4_strandAge_17 : decode cX4_strandAge 17 = .ok (.iload_n 1, 1) := by decide +kernel
theorem dX4_strandAge_18 : decode cX4_strandAge 18 = .ok (.bipush 8, 2) := by decide +kernel
theorem dX4_strandAge_20 : decode cX4_strandAge 20 = .ok (.imul, 1) := by decide +kernel
theorem dX4_strandAge_21 : decode cX4_strandAge 21 = .ok (.iload_n 2, 1) := by decide +kernel
theorem dX4_strandAge_22 : decode cX4_strandAge 22 = .ok (.iadd, 1) := by decide +kernel
theorem dX4_strandAge_23 : decode cX4_strandAge 23 = .ok (.iaload, 1) := by decide +kernel
theorem dX4_strandAge_24 : decode cX4_strandAge 24 = .ok (.isub, 1) := by decide +kernel
theorem dX4_strandAge_25 : decode cX4_strandAge 25 = .ok (.sipush 999, 3) := by decide +kernel
theorem dX4_strandAge_28 : decode cX4_strandAge 28 = .ok (.invokestatic 98, 3) := by decide +kernel
theorem dX4_strandAge_31 : decode cX4_strandAge 31 = .ok (.goto 4, 3) := by decide +kernel
theorem dX4_strandAge_34 : decode cX4_strandAge 34 = .ok (.iconst 0, 1) := by decide +kernel
theorem dX4_strandAge_35 : decode cX4_strandAge 35 = .ok (.ireturn, 1) := by decide +kernel
theorem mw_X4_strandAge : MW yX4_strandAge cX4_strandAge 3 0 2 false := ⟨tm 1111 (by decide +kernel) rfl, tm 242 (by decide +kernel) rfl, by decide, by decide, (by rw [if_neg (by decide)]; exact ⟨tm 1110 (by decide +kernel) rfl, tm 63 (by decide +kernel) rfl⟩)⟩
theorem mx_RX4_98 : MX RX4 98 Lib.Math.min.name Lib.Math.min.code 2 (some .int) := ⟨tm 1112 (by decide +kernel) rfl, tm 800 (by decide +kernel) rfl, tm 251 (by decide +kernel) rfl, tm 801 (by decide +kernel) rfl⟩
def Pr_strandAge (pr0 : Nat) (a1 : Int) (a2 : Int) (σ : Sg) : Rs := (bd (Pr_isKept pr0 a1 a2 σ) (fun r1 s2 => (if r1 = 0 then (some (0, s2)) else (rd 48 (w32 ((w32 (a1 * 8)) + a2)) (s2 (pr0 + 8) (Int.toNat (w32 ((w32 (a1 * 8)) + a2)))) (fun x3 => (some ((min (w32 ((s2 pr0 16) - x3)) 999), s2)))))))
theorem ok_Pr_strandAge (pr0 : Nat) (a1 : Int) (a2 : Int) (hpr0 : Kh[pr0]? = some (.inl 4)) (σ : Sg) : MC l Kh Ph yX4_strandAge cX4_strandAge 3 0 2 [.inr (.inr pr0), .inl a1, .inl a2] σ (Pr_strandAge pr0 a1 a2 σ) := by
  refine mc_of (by decide) (Nat.le_of_ble_eq_true rfl) ?_
  change G l Kh Ph RX4 cX4_strandAge 3 0 2 0 [some (.inr (.inr pr0)), some (.inl a1), some (.inl a2)] [] σ (Pr_strandAge pr0 a1 a2 σ)
  unfold Pr_strandAge
  refine g_aload_n dX4_strandAge_0 rfl rfl ?_
  refine g_iload_n dX4_strandAge_1 rfl rfl ?_
  refine g_iload_n dX4_strandAge_2 rfl rfl ?_
  refine g_callv3 (st := []) 4 mw_X4_isKept lk_RX4_90 rfl hpr0 (ok_Pr_isKept pr0 a1 a2 hpr0 σ) (Nat.le_of_ble_eq_true rfl) rfl rfl (Nat.le_of_ble_eq_true rfl) dX4_strandAge_3 ?_
  intro r1 s2
  refine g_ifeq (tgt := 34) dX4_strandAge_6 (by decide) ?_ ?_
  · refine g_iconst dX4_strandAge_34 (by decide) ?_
    exact g_iret dX4_strandAge_35
  · refine g_aload_n dX4_strandAge_9 rfl rfl ?_
    refine g_geti fl_RX4_62 hpr0 (by decide) dX4_strandAge_10 ?_
    refine g_aload_n dX4_strandAge_13 rfl rfl ?_
    refine g_getr' (q := (pr0 + 8)) fl_RX4_34 hpr0 (by decide) (qp7 hpr0) dX4_strandAge_14 ?_
    refine g_iload_n dX4_strandAge_17 rfl rfl ?_
    refine g_bipush dX4_strandAge_18 (by decide) ?_
    refine g_imul dX4_strandAge_20 ?_
    refine g_iload_n dX4_strandAge_21 rfl rfl ?_
    refine g_iadd dX4_strandAge_22 ?_
    refine g_iald (kp7 hpr0) dX4_strandAge_23 ?_
    intro x3
    refine g_isub dX4_strandAge_24 ?_
    refine g_sipush dX4_strandAge_25 (by decide) ?_
    refine g_mmin mx_RX4_98 (Nat.le_of_ble_eq_true rfl) (Nat.le_of_ble_eq_true rfl) dX4_strandAge_28 ?_
    refine g_goto (tgt := 35) dX4_strandAge_31 (by decide) ?_
    exact g_iret dX4_strandAge_35
end WK
