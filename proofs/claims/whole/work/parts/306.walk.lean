section WK
variable {l : Launch}
theorem dX12_out_0 : decode cX12_out 0 = .ok (.aload_n 0, 1) := by decide +kernel
theorem dX12_out_1 : decode cX12_out 1 = .ok (.iconst 0, 1) := by decide +kernel
theorem dX12_out_2 : decode cX12_out 2 = .ok (.putfield 67, 3) := by decide +kernel
theorem dX12_out_5 : decode cX12_out 5 = .ok (.aload_n 0, 1) := by decide +kernel
theorem dX12_out_6 : decode cX12_out 6 = .ok (.iconst 0, 1) := by decide +kernel
theorem dX12_out_7 : decode cX12_out 7 = .ok (.putfield 70, 3) := by decide +kernel
theorem dX12_out_10 : decode cX12_out 10 = .ok (.aload_n 0, 1) := by decide +kernel
theorem dX12_out_11 : decode cX12_out 11 = .ok (.iload_n 1, 1) := by decide +kernel
theorem dX12_out_12 : decode cX12_out 12 = .ok (.i2l, 1) := by decide +kernel
theorem dX12_out_13 : decode cX12_out 13 = .ok (.invokevirtual 334, 3) := by decide +kernel
theorem dX12_out_16 : decode cX12_out 16 = .ok (.ifCond .ne 9, 3) := by decide +kernel
theorem dX12_out_19 : decode cX12_out 19 = .ok (.aload_n 0, 1) := by decide +kernel
theorem dX12_out_20 : decode cX12_out 20 = .ok (.iconst 2, 1) := by decide +kernel
theorem dX12_out_21 : decode cX12_out 21 = .ok (.invokevirtual 325, 3) := by decide +kernel
theorem dX12_out_24 : decode cX12_out 24 = .ok (.ireturn, 1) := by decide +kernel
theorem dX12_out_25 : decode cX12_out 25 = .ok (.aload_n 0, 1) := by decide +kernel
theorem dX12_out_26 : decode cX12_out 26 = .ok (.bipush 37, 2) := by decide +kernel
theorem dX12_out_28 : decode cX12_out 28 = .ok (.iload_n 1, 1) := by decide +kernel
theorem dX12_out_29 : decode cX12_out 29 = .ok (.invokevirtual 339, 3) := by decide +kernel
theorem dX12_out_32 : decode cX12_out 32 = .ok (.invokestatic 390, 3) := by decide +kernel
theorem dX12_out_35 : decode cX12_out 35 = .ok (.istore_n 2, 1) := by decide +kernel
theorem dX12_out_36 : decode cX12_out 36 = .ok (.iconst (-1), 1) := by decide +kernel
theorem dX12_out_37 : decode cX12_out 37 = .ok (.istore_n 3, 1) := by decide +kernel
theorem dX12_out_38 : decode cX12_out 38 = .ok (.aload_n 0, 1) := by decide +kernel
theorem dX12_out_39 : decode cX12_out 39 = .ok (.invokevirtual 406, 3) := by decide +kernel
theorem dX12_out_42 : decode cX12_out 42 = .ok (.iconst 1, 1) := by decide +kernel
theorem dX12_out_43 : decode cX12_out 43 = .ok (.istore 4, 2) := by decide +kernel
theorem dX12_out_45 : decode cX12_out 45 = .ok (.iload 4, 2) := by decide +kernel
theorem dX12_out_47 : decode cX12_out 47 = .ok (.sipush 200, 3) := by decide +kernel
theorem dX12_out_50 : decode cX12_out 50 = .ok (.if_icmp .gt 35, 3) := by decide +kernel
theorem dX12_out_53 : decode cX12_out 53 = .ok (.iload_n 3, 1) := by decide +kernel
theorem dX12_out_54 : decode cX12_out 54 = .ok (.ifCond .ge 31, 3) := by decide +kernel
theorem dX12_out_57 : decode cX12_out 57 = .ok (.aload_n 0, 1) := by decide +kernel
theorem dX12_out_58 : decode cX12_out 58 = .ok (.invokevirtual 381, 3) := by decide +kernel
theorem dX12_out_61 : decode cX12_out 61 = .ok (.pop, 1) := by decide +kernel
theorem dX12_out_62 : decode cX12_out 62 = .ok (.aload_n 0, 1) := by decide +kernel
theorem dX12_out_63 : decode cX12_out 63 = .ok (.bipush 37, 2) := by decide +kernel
theorem dX12_out_65 : decode cX12_out 65 = .ok (.iload_n 1, 1) := by decide +kernel
theorem dX12_out_66 : decode cX12_out 66 = .ok (.invokevirtual 339, 3) := by decide +kernel
theorem dX12_out_69 : decode cX12_out 69 = .ok (.invokestatic 390, 3) := by decide +kernel
theorem dX12_out_72 : decode cX12_out 72 = .ok (.iload_n 2, 1) := by decide +kernel
theorem dX12_out_73 : decode cX12_out 73 = .ok (.if_icmp .le 6, 3) := by decide +kernel
theorem dX12_out_76 : decode cX12_out 76 = .ok (.iload 4, 2) := by decide +kernel
theorem dX12_out_78 : decode cX12_out 78 = .ok (.istore_n 3, 1) := by decide +kernel
theorem dX12_out_79 : decode cX12_out 79 = .ok (.iinc 4 1, 3) := by decide +kernel
theorem dX12_out_82 : decode cX12_out 82 = .ok (.goto (-37), 3) := by decide +kernel
theorem dX12_out_85 : decode cX12_out 85 = .ok (.aload_n 0, 1) := by decide +kernel
theorem dX12_out_86 : decode cX12_out 86 = .ok (.invokevirtual 415, 3) := by decide +kernel
theorem dX12_out_89 : decode cX12_out 89 = .ok (.iload_n 3, 1) := by decide +kernel
theorem dX12_out_90 : decode cX12_out 90 = .ok (.ifCond .ge 12, 3) := by decide +kernel
theorem dX12_out_93 : decode cX12_out 93 = .ok (.aload_n 0, 1) := by decide +kernel
theorem dX12_out_94 : decode cX12_out 94 = .ok (.bipush 8, 2) := by decide +kernel
theorem dX12_out_96 : decode cX12_out 96 = .ok (.invokevirtual 325, 3) := by decide +kernel
theorem dX12_out_99 : decode cX12_out 99 = .ok (.goto 4, 3) := by decide +kernel
theorem dX12_out_102 : decode cX12_out 102 = .ok (.iload_n 3, 1) := by decide +kernel
theorem dX12_out_103 : decode cX12_out 103 = .ok (.ireturn, 1) := by decide +kernel
theorem mw_X12_out : MW yX12_out cX12_out 5 0 1 false := ⟨tm 2165 (by decide +kernel) rfl, tm 249 (by decide +kernel) rfl, by decide, by decide, (by rw [if_neg (by decide)]; exact ⟨tm 2163 (by decide +kernel) rfl, tm 2164 (by decide +kernel) rfl⟩)⟩
def M_out_L45 (a1 : Int) (v2 : Int) (k85 : Int → Sg → Rs) : Nat → Int → Int → Sg → Rs
  | 0, _, _, _ => none
  | n + 1, v3, v4, σ => (if 200 < v4 then (k85 v3 σ) else (if v3 < 0 then (bd (M_goesDay σ) (fun r13 s14 => (bd (M_peopleWith 37 a1 s14) (fun r15 s16 => (bd (M_sizeOf r15 s16) (fun r17 s18 => (if v2 < r17 then (nm (w32 (v4 + 1)) (fun x19 => (M_out_L45 a1 v2 k85 n v4 x19 s18))) else (nm (w32 (v4 + 1)) (fun x20 => (M_out_L45 a1 v2 k85 n v3 x20 s18)))))))))) else (k85 v3 σ)))
theorem ok_M_out_L45 (a1 : Int) (v2 : Int) (k85 : Int → Sg → Rs) (hk85 : ∀ (y3 : Int) (σ : Sg), G l Km Pm RX12 cX12_out 5 0 6 85 [some (.inr (.inr 0)), none, none, some (.inl y3), none] [] σ (k85 y3 σ)) : ∀ (n : Nat) (v3 v4 : Int) (σ : Sg), G l Km Pm RX12 cX12_out 5 0 6 45 [some (.inr (.inr 0)), some (.inl a1), some (.inl v2), some (.inl v3), some (.inl v4)] [] σ (M_out_L45 a1 v2 k85 n v3 v4 σ) := by
  intro n
  induction n with
  | zero => intros; exact G.none_
  | succ n ih =>
    intro v3 v4 σ
    rw [M_out_L45]
    refine g_iload dX12_out_45 rfl ?_
    refine g_sipush dX12_out_47 (by decide) ?_
    refine g_icmpgt (tgt := 85) dX12_out_50 (by decide) ?_ ?_
    · exact (g_weak [true, false, false, true, false] (hk85 v3 σ))
    · refine g_iload_n dX12_out_53 rfl rfl ?_
      refine g_ifge (tgt := 85) dX12_out_54 (by decide) ?_ ?_
      · refine g_aload_n dX12_out_57 rfl rfl ?_
        refine g_callv0 (st := []) 10 mw_X12_goesDay lk_RX12_381 rfl km_0 (ok_M_goesDay σ) (Nat.le_of_ble_eq_true rfl) rfl rfl (Nat.le_of_ble_eq_true rfl) dX12_out_58 ?_
        intro r13 s14
        refine g_pop dX12_out_61 rfl ?_
        refine g_aload_n dX12_out_62 rfl rfl ?_
        refine g_bipush dX12_out_63 (by decide) ?_
        refine g_iload_n dX12_out_65 rfl rfl ?_
        refine g_callv0 (st := []) 10 mw_X12_peopleWith lk_RX12_339 rfl km_0 (ok_M_peopleWith 37 a1 s14) (Nat.le_of_ble_eq_true rfl) rfl rfl (Nat.le_of_ble_eq_true rfl) dX12_out_66 ?_
        intro r15 s16
        refine g_calls0 (st := []) mw_X12_sizeOf lk_RX12_390 (ok_M_sizeOf r15 s16) (Nat.le_of_ble_eq_true rfl) rfl rfl (Nat.le_of_ble_eq_true rfl) dX12_out_69 ?_
        intro r17 s18
        refine g_iload_n dX12_out_72 rfl rfl ?_
        refine g_icmple (tgt := 79) dX12_out_73 (by decide) ?_ ?_
        · refine g_iload dX12_out_76 rfl ?_
          refine g_istore_n (lv' := [some (.inr (.inr 0)), some (.inl a1), some (.inl v2), some (.inl v4), some (.inl v4)]) dX12_out_78 rfl (Nat.le_of_ble_eq_true rfl) rfl ?_
          refine n_iinc (fun x19 => [some (.inr (.inr 0)), some (.inl a1), some (.inl v2), some (.inl v4), some (.inl x19)]) dX12_out_79 rfl (Nat.le_of_ble_eq_true rfl) (fun _ => rfl) ?_
          intro x19
          refine g_goto (tgt := 45) dX12_out_82 (by decide) ?_
          exact (ih v4 x19 s18)
        · refine n_iinc (fun x20 => [some (.inr (.inr 0)), some (.inl a1), some (.inl v2), some (.inl v3), some (.inl x20)]) dX12_out_79 rfl (Nat.le_of_ble_eq_true rfl) (fun _ => rfl) ?_
          intro x20
          refine g_goto (tgt := 45) dX12_out_82 (by decide) ?_
          exact (ih v3 x20 s18)
      · exact (g_weak [true, false, false, true, false] (hk85 v3 σ))
def M_out_J85 (v3 : Int) (σ : Sg) : Rs := (bd (M_gives σ) (fun r23 s24 => (if v3 < 0 then (bd (M_refuse 8 s24) (fun r25 s26 => (some (r25, s26)))) else (some (v3, s24)))))
theorem ok_M_out_J85 (v3 : Int) : ∀ (σ : Sg), G l Km Pm RX12 cX12_out 5 0 6 85 [some (.inr (.inr 0)), none, none, some (.inl v3), none] [] σ (M_out_J85 v3  σ) := by
  intro σ
  unfold M_out_J85
  refine g_aload_n dX12_out_85 rfl rfl ?_
  refine g_callv2 (st := []) 10 mw_X12_gives lk_RX12_415 rfl km_0 (ok_M_gives σ) (Nat.le_of_ble_eq_true rfl) rfl rfl (Nat.le_of_ble_eq_true rfl) dX12_out_86 ?_
  intro r23 s24
  refine g_iload_n dX12_out_89 rfl rfl ?_
  refine g_ifge (tgt := 102) dX12_out_90 (by decide) ?_ ?_
  · refine g_aload_n dX12_out_93 rfl rfl ?_
    refine g_bipush dX12_out_94 (by decide) ?_
    refine g_callv0 (st := []) 10 mw_X12_refuse lk_RX12_325 rfl km_0 (ok_M_refuse 8 s24) (Nat.le_of_ble_eq_true rfl) rfl rfl (Nat.le_of_ble_eq_true rfl) dX12_out_96 ?_
    intro r25 s26
    refine g_goto (tgt := 103) dX12_out_99 (by decide) ?_
    exact g_iret dX12_out_103
  · refine g_iload_n dX12_out_102 rfl rfl ?_
    exact g_iret dX12_out_103
def M_out (a1 : Int) (σ : Sg) : Rs := (nm (up_s σ 0 1 0) (fun s1 => (nm (up_s s1 0 0 0) (fun s2 => (bd (M_isWordAt a1 s2) (fun r3 s4 => (if r3 = 0 then (bd (M_refuse 2 s4) (fun r5 s6 => (some (r5, s6)))) else (bd (M_peopleWith 37 a1 s4) (fun r7 s8 => (bd (M_sizeOf r7 s8) (fun r9 s10 => (bd (M_puts s10) (fun r11 s12 => (M_out_L45 a1 r9 (fun x21 s22 => (M_out_J85 x21 s22)) fu (-1) 1 s12))))))))))))))
theorem ok_M_out (a1 : Int) (σ : Sg) : MC l Km Pm yX12_out cX12_out 5 0 6 [.inr (.inr 0), .inl a1] σ (M_out a1 σ) := by
  refine mc_of (by decide) (Nat.le_of_ble_eq_true rfl) ?_
  change G l Km Pm RX12 cX12_out 5 0 6 0 [some (.inr (.inr 0)), some (.inl a1), none, none, none] [] σ (M_out a1 σ)
  unfold M_out
  refine g_aload_n dX12_out_0 rfl rfl ?_
  refine g_iconst dX12_out_1 (by decide) ?_
  refine g_puti fl_RX12_67 km_0 (by decide) dX12_out_2 ?_
  intro s1
  refine g_aload_n dX12_out_5 rfl rfl ?_
  refine g_iconst dX12_out_6 (by decide) ?_
  refine g_puti fl_RX12_70 km_0 (by decide) dX12_out_7 ?_
  intro s2
  refine g_aload_n dX12_out_10 rfl rfl ?_
  refine g_iload_n dX12_out_11 rfl rfl ?_
  refine g_i2l dX12_out_12 ?_
  refine g_callv3 (st := []) 10 mw_X12_isWordAt lk_RX12_334 rfl km_0 (ok_M_isWordAt a1 s2) (Nat.le_of_ble_eq_true rfl) rfl rfl (Nat.le_of_ble_eq_true rfl) dX12_out_13 ?_
  intro r3 s4
  refine g_ifne (tgt := 25) dX12_out_16 (by decide) ?_ ?_
  · refine g_aload_n dX12_out_19 rfl rfl ?_
    refine g_iconst dX12_out_20 (by decide) ?_
    refine g_callv0 (st := []) 10 mw_X12_refuse lk_RX12_325 rfl km_0 (ok_M_refuse 2 s4) (Nat.le_of_ble_eq_true rfl) rfl rfl (Nat.le_of_ble_eq_true rfl) dX12_out_21 ?_
    intro r5 s6
    exact g_iret dX12_out_24
  · refine g_aload_n dX12_out_25 rfl rfl ?_
    refine g_bipush dX12_out_26 (by decide) ?_
    refine g_iload_n dX12_out_28 rfl rfl ?_
    refine g_callv0 (st := []) 10 mw_X12_peopleWith lk_RX12_339 rfl km_0 (ok_M_peopleWith 37 a1 s4) (Nat.le_of_ble_eq_true rfl) rfl rfl (Nat.le_of_ble_eq_true rfl) dX12_out_29 ?_
    intro r7 s8
    refine g_calls0 (st := []) mw_X12_sizeOf lk_RX12_390 (ok_M_sizeOf r7 s8) (Nat.le_of_ble_eq_true rfl) rfl rfl (Nat.le_of_ble_eq_true rfl) dX12_out_32 ?_
    intro r9 s10
    refine g_istore_n (lv' := [some (.inr (.inr 0)), some (.inl a1), some (.inl r9), none, none]) dX12_out_35 rfl (Nat.le_of_ble_eq_true rfl) rfl ?_
    refine g_iconst dX12_out_36 (by decide) ?_
    refine g_istore_n (lv' := [some (.inr (.inr 0)), some (.inl a1), some (.inl r9), some (.inl (-1)), none]) dX12_out_37 rfl (Nat.le_of_ble_eq_true rfl) rfl ?_
    refine g_aload_n dX12_out_38 rfl rfl ?_
    refine g_callv2 (st := []) 10 mw_X12_puts lk_RX12_406 rfl km_0 (ok_M_puts s10) (Nat.le_of_ble_eq_true rfl) rfl rfl (Nat.le_of_ble_eq_true rfl) dX12_out_39 ?_
    intro r11 s12
    refine g_iconst dX12_out_42 (by decide) ?_
    refine g_istore (lv' := [some (.inr (.inr 0)), some (.inl a1), some (.inl r9), some (.inl (-1)), some (.inl 1)]) dX12_out_43 (Nat.le_of_ble_eq_true rfl) rfl ?_
    refine (ok_M_out_L45 a1 r9 _ ?_ fu (-1) 1 s12)
    · intro x21 s22
      refine (ok_M_out_J85 x21 s22)
theorem dX12_perhaps_0 : decode cX12_perhaps 0 = .ok (.aload_n 0, 1) := by decide +kernel
theorem dX12_perhaps_1 : decode cX12_perhaps 1 = .ok (.getfield 211, 3) := by decide +kernel
theorem dX12_perhaps_4 : decode cX12_perhaps 4 = .ok (.ifCond .gt 7, 3) := by decide +kernel
theorem dX12_perhaps_7 : decode cX12_perhaps 7 = .ok (.iload_n 1, 1) := by decide +kernel
theorem dX12_perhaps_8 : decode cX12_perhaps 8 = .ok (.ifCond .ne 5, 3) := by decide +kernel
theorem dX12_perhaps_11 : decode cX12_perhaps 11 = .ok (.iconst 0, 1) := by decide +kernel
theorem dX12_perhaps_12 : decode cX12_perhaps 12 = .ok (.ireturn, 1) := by decide +kernel
theorem dX12_perhaps_13 : decode cX12_perhaps 13 = .ok (.aload_n 0, 1) := by decide +kernel
theorem dX12_perhaps_14 : decode cX12_perhaps 14 = .ok (.invokevirtual 221, 3) := by decide +kernel
theorem dX12_perhaps_17 : decode cX12_perhaps 17 = .ok (.iconst 1, 1) := by decide +kernel
theorem dX12_perhaps_18 : decode cX12_perhaps 18 = .ok (.ireturn, 1) := by decide +kernel
theorem mw_X12_perhaps : MW yX12_perhaps cX12_perhaps 2 3 1 false := ⟨tm 1910 (by decide +kernel) rfl, tm 249 (by decide +kernel) rfl, by decide, by decide, (by rw [if_neg (by decide)]; exact ⟨tm 1909 (by decide +kernel) rfl, tm 158 (by decide +kernel) rfl⟩)⟩
def M_perhaps (a1 : Int) (σ : Sg) : Rs := (if 0 < (σ 0 12) then (some (0, σ)) else (if a1 = 0 then (some (0, σ)) else (bd (M_advance σ) (fun r1 s2 => (some (1, s2))))))
theorem ok_M_perhaps (a1 : Int) (σ : Sg) : MC l Km Pm yX12_perhaps cX12_perhaps 2 3 3 [.inr (.inr 0), .inl a1] σ (M_perhaps a1 σ) := by
  refine mc_of (by decide) (Nat.le_of_ble_eq_true rfl) ?_
  change G l Km Pm RX12 cX12_perhaps 2 3 3 0 [some (.inr (.inr 0)), some (.inl a1)] [] σ (M_perhaps a1 σ)
  unfold M_perhaps
  refine g_aload_n dX12_perhaps_0 rfl rfl ?_
  refine g_geti fl_RX12_211 km_0 (by decide) dX12_perhaps_1 ?_
  refine g_ifgt (tgt := 11) dX12_perhaps_4 (by decide) ?_ ?_
  · refine g_iconst dX12_perhaps_11 (by decide) ?_
    exact g_zret0 dX12_perhaps_12
  · refine g_iload_n dX12_perhaps_7 rfl rfl ?_
    refine g_ifne (tgt := 13) dX12_perhaps_8 (by decide) ?_ ?_
    · refine g_iconst dX12_perhaps_11 (by decide) ?_
      exact g_zret0 dX12_perhaps_12
    · refine g_aload_n dX12_perhaps_13 rfl rfl ?_
      refine g_callv2 (st := []) 10 mw_X12_advance lk_RX12_221 rfl km_0 (ok_M_advance σ) (Nat.le_of_ble_eq_true rfl) rfl rfl (Nat.le_of_ble_eq_true rfl) dX12_perhaps_14 ?_
      intro r1 s2
      refine g_iconst dX12_perhaps_17 (by decide) ?_
      exact g_zret1 dX12_perhaps_18
theorem dX12_person_0 : decode cX12_person 0 = .ok (.aload_n 0, 1) := by decide +kernel
theorem dX12_person_1 : decode cX12_person 1 = .ok (.iconst 0, 1) := by decide +kernel
theorem dX12_person_2 : decode cX12_person 2 = .ok (.putfield 67, 3) := by decide +kernel
theorem dX12_person_5 : decode cX12_person 5 = .ok (.aload_n 0, 1) := by decide +kernel
theorem dX12_person_6 : decode cX12_person 6 = .ok (.iconst 0, 1) := by decide +kernel
theorem dX12_person_7 : decode cX12_person 7 = .ok (.putfield 70, 3) := by decide +kernel
theorem dX12_person_10 : decode cX12_person 10 = .ok (.aload_n 0, 1) := by decide +kernel
theorem dX12_person_11 : decode cX12_person 11 = .ok (.iload_n 1, 1) := by decide +kernel
theorem dX12_person_12 : decode cX12_person 12 = .ok (.invokevirtual 345, 3) := by decide +kernel
theorem dX12_person_15 : decode cX12_person 15 = .ok (.ifCond .ne 9, 3) := by decide +kernel
theorem dX12_person_18 : decode cX12_person 18 = .ok (.aload_n 0, 1) := by decide +kernel
theorem dX12_person_19 : decode cX12_person 19 = .ok (.iconst 2, 1) := by decide +kernel
theorem dX12_person_20 : decode cX12_person 20 = .ok (.invokevirtual 325, 3) := by decide +kernel
theorem dX12_person_23 : decode cX12_person 23 = .ok (.ireturn, 1) := by decide +kernel
theorem dX12_person_24 : decode cX12_person 24 = .ok (.iload_n 2, 1) := by decide +kernel
theorem dX12_person_25 : decode cX12_person 25 = .ok (.i2l, 1) := by decide +kernel
theorem dX12_person_26 : decode cX12_person 26 = .ok (.lconst 0, 1) := by decide +kernel
theorem dX12_person_27 : decode cX12_person 27 = .ok (.ldc2_w 337, 3) := by decide +kernel
theorem dX12_person_30 : decode cX12_person 30 = .ok (.invokestatic 102, 3) := by decide +kernel
theorem dX12_person_33 : decode cX12_person 33 = .ok (.ifCond .ne 9, 3) := by decide +kernel
theorem dX12_person_36 : decode cX12_person 36 = .ok (.aload_n 0, 1) := by decide +kernel
theorem dX12_person_37 : decode cX12_person 37 = .ok (.iconst 5, 1) := by decide +kernel
theorem dX12_person_38 : decode cX12_person 38 = .ok (.invokevirtual 325, 3) := by decide +kernel
theorem dX12_person_41 : decode cX12_person 41 = .ok (.ireturn, 1) := by decide +kernel
theorem dX12_person_42 : decode cX12_person 42 = .ok (.iload_n 2, 1) := by decide +kernel
theorem dX12_person_43 : decode cX12_person 43 = .ok (.iconst 4, 1) := by decide +kernel
theorem dX12_person_44 : decode cX12_person 44 = .ok (.if_icmp .ne 11, 3) := by decide +kernel
theorem dX12_person_47 : decode cX12_person 47 = .ok (.aload_n 0, 1) := by decide +kernel
theorem dX12_person_48 : decode cX12_person 48 = .ok (.iload_n 1, 1) := by decide +kernel
theorem dX12_person_49 : decode cX12_person 49 = .ok (.invokevirtual 320, 3) := by decide +kernel
theorem dX12_person_52 : decode cX12_person 52 = .ok (.goto 17, 3) := by decide +kernel
theorem dX12_person_55 : decode cX12_person 55 = .ok (.aload_n 0, 1) := by decide +kernel
theorem dX12_person_56 : decode cX12_person 56 = .ok (.getfield 35, 3) := by decide +kernel
theorem dX12_person_59 : decode cX12_person 59 = .ok (.bipush 25, 2) := by decide +kernel
theorem dX12_person_61 : decode cX12_person 61 = .ok (.bipush 6, 2) := by decide +kernel
theorem dX12_person_63 : decode cX12_person 63 = .ok (.iload_n 2, 1) := by decide +kernel
theorem dX12_person_64 : decode cX12_person 64 = .ok (.imul, 1) := by decide +kernel
theorem dX12_person_65 : decode cX12_person 65 = .ok (.iadd, 1) := by decide +kernel
theorem dX12_person_66 : decode cX12_person 66 = .ok (.iload_n 1, 1) := by decide +kernel
theorem dX12_person_67 : decode cX12_person 67 = .ok (.iadd, 1) := by decide +kernel
theorem dX12_person_68 : decode cX12_person 68 = .ok (.iaload, 1) := by decide +kernel
theorem dX12_person_69 : decode cX12_person 69 = .ok (.ireturn, 1) := by decide +kernel
theorem mw_X12_person : MW yX12_person cX12_person 3 0 2 false := ⟨tm 2021 (by decide +kernel) rfl, tm 249 (by decide +kernel) rfl, by decide, by decide, (by rw [if_neg (by decide)]; exact ⟨tm 2019 (by decide +kernel) rfl, tm 2020 (by decide +kernel) rfl⟩)⟩
def M_person (a1 : Int) (a2 : Int) (σ : Sg) : Rs := (nm (up_s σ 0 1 0) (fun s1 => (nm (up_s s1 0 0 0) (fun s2 => (bd (M_isPersonAt a1 s2) (fun r3 s4 => (if r3 = 0 then (bd (M_refuse 2 s4) (fun r5 s6 => (some (r5, s6)))) else (bd (M_isIn a2 0 4 s4) (fun r7 s8 => (if r7 = 0 then (bd (M_refuse 5 s8) (fun r9 s10 => (some (r9, s10)))) else (if a2 = 4 then (bd (M_hairOf a1 s8) (fun r11 s12 => (some (r11, s12)))) else (rd 2235 (w32 ((w32 (25 + (w32 (6 * a2)))) + a1)) (s8 5 (Int.toNat (w32 ((w32 (25 + (w32 (6 * a2)))) + a1)))) (fun x13 => (some (x13, s8)))))))))))))))
theorem ok_M_person (a1 : Int) (a2 : Int) (σ : Sg) : MC l Km Pm yX12_person cX12_person 3 0 4 [.inr (.inr 0), .inl a1, .inl a2] σ (M_person a1 a2 σ) := by
  refine mc_of (by decide) (Nat.le_of_ble_eq_true rfl) ?_
  change G l Km Pm RX12 cX12_person 3 0 4 0 [some (.inr (.inr 0)), some (.inl a1), some (.inl a2)] [] σ (M_person a1 a2 σ)
  unfold M_person
  refine g_aload_n dX12_person_0 rfl rfl ?_
  refine g_iconst dX12_person_1 (by decide) ?_
  refine g_puti fl_RX12_67 km_0 (by decide) dX12_person_2 ?_
  intro s1
  refine g_aload_n dX12_person_5 rfl rfl ?_
  refine g_iconst dX12_person_6 (by decide) ?_
  refine g_puti fl_RX12_70 km_0 (by decide) dX12_person_7 ?_
  intro s2
  refine g_aload_n dX12_person_10 rfl rfl ?_
  refine g_iload_n dX12_person_11 rfl rfl ?_
  refine g_callv3 (st := []) 10 mw_X12_isPersonAt lk_RX12_345 rfl km_0 (ok_M_isPersonAt a1 s2) (Nat.le_of_ble_eq_true rfl) rfl rfl (Nat.le_of_ble_eq_true rfl) dX12_person_12 ?_
  intro r3 s4
  refine g_ifne (tgt := 24) dX12_person_15 (by decide) ?_ ?_
  · refine g_aload_n dX12_person_18 rfl rfl ?_
    refine g_iconst dX12_person_19 (by decide) ?_
    refine g_callv0 (st := []) 10 mw_X12_refuse lk_RX12_325 rfl km_0 (ok_M_refuse 2 s4) (Nat.le_of_ble_eq_true rfl) rfl rfl (Nat.le_of_ble_eq_true rfl) dX12_person_20 ?_
    intro r5 s6
    exact g_iret dX12_person_23
  · refine g_iload_n dX12_person_24 rfl rfl ?_
    refine g_i2l dX12_person_25 ?_
    refine g_lconst (v := 0) dX12_person_26 (by decide) ?_
    refine g_ldc2 (n := 4) (tm 2009 (by decide +kernel) rfl) (by decide) dX12_person_27 ?_
    refine g_calls3 (st := []) mw_X12_isIn lk_RX12_102 (ok_M_isIn a2 0 4 s4) (Nat.le_of_ble_eq_true rfl) rfl rfl (Nat.le_of_ble_eq_true rfl) dX12_person_30 ?_
    intro r7 s8
    refine g_ifne (tgt := 42) dX12_person_33 (by decide) ?_ ?_
    · refine g_aload_n dX12_person_36 rfl rfl ?_
      refine g_iconst dX12_person_37 (by decide) ?_
      refine g_callv0 (st := []) 10 mw_X12_refuse lk_RX12_325 rfl km_0 (ok_M_refuse 5 s8) (Nat.le_of_ble_eq_true rfl) rfl rfl (Nat.le_of_ble_eq_true rfl) dX12_person_38 ?_
      intro r9 s10
      exact g_iret dX12_person_41
    · refine g_iload_n dX12_person_42 rfl rfl ?_
      refine g_iconst dX12_person_43 (by decide) ?_
      refine g_icmpne (tgt := 55) dX12_person_44 (by decide) ?_ ?_
      · refine g_aload_n dX12_person_47 rfl rfl ?_
        refine g_iload_n dX12_person_48 rfl rfl ?_
        refine g_callv0 (st := []) 10 mw_X12_hairOf lk_RX12_320 rfl km_0 (ok_M_hairOf a1 s8) (Nat.le_of_ble_eq_true rfl) rfl rfl (Nat.le_of_ble_eq_true rfl) dX12_person_49 ?_
        intro r11 s12
        refine g_goto (tgt := 69) dX12_person_52 (by decide) ?_
        exact g_iret dX12_person_69
      · refine g_aload_n dX12_person_55 rfl rfl ?_
        refine g_getr' (q := 5) fl_RX12_35 km_0 (by decide) rfl dX12_person_56 ?_
        refine g_bipush dX12_person_59 (by decide) ?_
        refine g_bipush dX12_person_61 (by decide) ?_
        refine g_iload_n dX12_person_63 rfl rfl ?_
        refine g_imul dX12_person_64 ?_
        refine g_iadd dX12_person_65 ?_
        refine g_iload_n dX12_person_66 rfl rfl ?_
        refine g_iadd dX12_person_67 ?_
        refine g_iald km_5 dX12_person_68 ?_
        intro x13
        exact g_iret dX12_person_69
theorem dX12_plaitsOf_0 : decode cX12_plaitsOf 0 = .ok (.iload_n 1, 1) := by decide +kernel
theorem dX12_plaitsOf_1 : decode cX12_plaitsOf 1 = .ok (.ifCond .ne 5, 3) := by decide +kernel
theorem dX12_plaitsOf_4 : decode cX12_plaitsOf 4 = .ok (.iconst 1, 1) := by decide +kernel
theorem dX12_plaitsOf_5 : decode cX12_plaitsOf 5 = .ok (.ireturn, 1) := by decide +kernel
theorem dX12_plaitsOf_6 : decode cX12_plaitsOf 6 = .ok (.iconst 0, 1) := by decide +kernel
theorem dX12_plaitsOf_7 : decode cX12_plaitsOf 7 = .ok (.istore 4, 2) := by decide +kernel
theorem dX12_plaitsOf_9 : decode cX12_plaitsOf 9 = .ok (.iconst 0, 1) := by decide +kernel
theorem dX12_plaitsOf_10 : decode cX12_plaitsOf 10 = .ok (.istore 5, 2) := by decide +kernel
theorem dX12_plaitsOf_12 : decode cX12_plaitsOf 12 = .ok (.iload 5, 2) := by decide +kernel
theorem dX12_plaitsOf_14 : decode cX12_plaitsOf 14 = .ok (.aload_n 0, 1) := by decide +kernel
theorem dX12_plaitsOf_15 : decode cX12_plaitsOf 15 = .ok (.getfield 35, 3) := by decide +kernel
theorem dX12_plaitsOf_18 : decode cX12_plaitsOf 18 = .ok (.iconst 0, 1) := by decide +kernel
theorem dX12_plaitsOf_19 : decode cX12_plaitsOf 19 = .ok (.iaload, 1) := by decide +kernel
theorem dX12_plaitsOf_20 : decode cX12_plaitsOf 20 = .ok (.if_icmp .ge 49, 3) := by decide +kernel
theorem dX12_plaitsOf_23 : decode cX12_plaitsOf 23 = .ok (.iload_n 1, 1) := by decide +kernel
theorem dX12_plaitsOf_24 : decode cX12_plaitsOf 24 = .ok (.iload 5, 2) := by decide +kernel
theorem dX12_plaitsOf_26 : decode cX12_plaitsOf 26 = .ok (.invokestatic 106, 3) := by decide +kernel
theorem dX12_plaitsOf_29 : decode cX12_plaitsOf 29 = .ok (.ifCond .eq 34, 3) := by decide +kernel
theorem dX12_plaitsOf_32 : decode cX12_plaitsOf 32 = .ok (.aload_n 0, 1) := by decide +kernel
theorem dX12_plaitsOf_33 : decode cX12_plaitsOf 33 = .ok (.iload 5, 2) := by decide +kernel
theorem dX12_plaitsOf_35 : decode cX12_plaitsOf 35 = .ok (.iload_n 1, 1) := by decide +kernel
theorem dX12_plaitsOf_36 : decode cX12_plaitsOf 36 = .ok (.iload_n 2, 1) := by decide +kernel
theorem dX12_plaitsOf_37 : decode cX12_plaitsOf 37 = .ok (.iload_n 3, 1) := by decide +kernel
theorem dX12_plaitsOf_38 : decode cX12_plaitsOf 38 = .ok (.invokevirtual 481, 3) := by decide +kernel
theorem dX12_plaitsOf_41 : decode cX12_plaitsOf 41 = .ok (.ifCond .eq 22, 3) := by decide +kernel
theorem dX12_plaitsOf_44 : decode cX12_plaitsOf 44 = .ok (.iload 4, 2) := by decide +kernel
theorem dX12_plaitsOf_46 : decode cX12_plaitsOf 46 = .ok (.aload_n 0, 1) := by decide +kernel
theorem dX12_plaitsOf_47 : decode cX12_plaitsOf 47 = .ok (.iload_n 1, 1) := by decide +kernel
theorem dX12_plaitsOf_48 : decode cX12_plaitsOf 48 = .ok (.iconst 1, 1) := by decide +kernel
theorem dX12_plaitsOf_49 : decode cX12_plaitsOf 49 = .ok (.iload 5, 2) := by decide +kernel
theorem dX12_plaitsOf_51 : decode cX12_plaitsOf 51 = .ok (.ishl, 1) := by decide +kernel
theorem dX12_plaitsOf_52 : decode cX12_plaitsOf 52 = .ok (.iconst (-1), 1) := by decide +kernel
theorem dX12_plaitsOf_53 : decode cX12_plaitsOf 53 = .ok (.ixor, 1) := by decide +kernel
theorem dX12_plaitsOf_54 : decode cX12_plaitsOf 54 = .ok (.iand, 1) := by decide +kernel
theorem dX12_plaitsOf_55 : decode cX12_plaitsOf 55 = .ok (.iload_n 2, 1) := by decide +kernel
theorem dX12_plaitsOf_56 : decode cX12_plaitsOf 56 = .ok (.iload_n 3, 1) := by decide +kernel
theorem dX12_plaitsOf_57 : decode cX12_plaitsOf 57 = .ok (.invokevirtual 485, 3) := by decide +kernel
theorem dX12_plaitsOf_60 : decode cX12_plaitsOf 60 = .ok (.iadd, 1) := by decide +kernel
theorem dX12_plaitsOf_61 : decode cX12_plaitsOf 61 = .ok (.istore 4, 2) := by decide +kernel
theorem dX12_plaitsOf_63 : decode cX12_plaitsOf 63 = .ok (.iinc 5 1, 3) := by decide +kernel
theorem dX12_plaitsOf_66 : decode cX12_plaitsOf 66 = .ok (.goto (-54), 3) := by decide +kernel
theorem dX12_plaitsOf_69 : decode cX12_plaitsOf 69 = .ok (.iload 4, 2) := by decide +kernel
theorem dX12_plaitsOf_71 : decode cX12_plaitsOf 71 = .ok (.ireturn, 1) := by decide +kernel
theorem mw_X12_plaitsOf : MW yX12_plaitsOf cX12_plaitsOf 6 0 3 false := ⟨tm 2295 (by decide +kernel) rfl, tm 249 (by decide +kernel) rfl, by decide, by decide, (by rw [if_neg (by decide)]; exact ⟨tm 2294 (by decide +kernel) rfl, tm 215 (by decide +kernel) rfl⟩)⟩
theorem lk_RX12_481 : LK RX12 481 yX12_isNext := Or.inl (tm 2296 (by decide +kernel) rfl)
theorem lk_RX12_485 : LK RX12 485 yX12_plaitsOf := Or.inl (tm 2292 (by decide +kernel) rfl)
def M_plaitsOf_L12 (rc : Int → Int → Int → Sg → Rs) (a1 : Int) (a2 : Int) (a3 : Int) : Nat → Int → Int → Sg → Rs
  | 0, _, _, _ => none
  | n + 1, v4, v5, σ => (rd 2235 0 (σ 5 (Int.toNat 0)) (fun x1 => (if v5 < x1 then (bd (M_has a1 v5 σ) (fun r2 s3 => (if r2 = 0 then (nm (w32 (v5 + 1)) (fun x4 => (M_plaitsOf_L12 rc a1 a2 a3 n v4 x4 s3))) else (bd (M_isNext v5 a1 a2 a3 s3) (fun r5 s6 => (if r5 = 0 then (nm (w32 (v5 + 1)) (fun x7 => (M_plaitsOf_L12 rc a1 a2 a3 n v4 x7 s6))) else (bd (rc (an32 a1 (xo32 (sl32 1 v5) (-1))) a2 a3 s6) (fun r8 s9 => (nm (w32 (v4 + r8)) (fun x10 => (nm (w32 (v5 + 1)) (fun x11 => (M_plaitsOf_L12 rc a1 a2 a3 n x10 x11 s9))))))))))))) else (some (v4, σ)))))
theorem ok_M_plaitsOf_L12 (rc : Int → Int → Int → Sg → Rs) (dr dd : Nat) (hrc : ∀ (a1 : Int) (a2 : Int) (a3 : Int) (σ : Sg), MC l Km Pm yX12_plaitsOf cX12_plaitsOf 6 0 dr [.inr (.inr 0), .inl a1, .inl a2, .inl a3] σ (rc a1 a2 a3 σ)) (hd : dr < dd) (hB : 3 ≤ dd) (a1 : Int) (a2 : Int) (a3 : Int) : ∀ (n : Nat) (v4 v5 : Int) (σ : Sg), G l Km Pm RX12 cX12_plaitsOf 6 0 dd 12 [some (.inr (.inr 0)), some (.inl a1), some (.inl a2), some (.inl a3), some (.inl v4), some (.inl v5)] [] σ (M_plaitsOf_L12 rc a1 a2 a3 n v4 v5 σ) := by
  intro n
  induction n with
  | zero => intros; exact G.none_
  | succ n ih =>
    intro v4 v5 σ
    rw [M_plaitsOf_L12]
    refine g_iload dX12_plaitsOf_12 rfl ?_
    refine g_aload_n dX12_plaitsOf_14 rfl rfl ?_
    refine g_getr' (q := 5) fl_RX12_35 km_0 (by decide) rfl dX12_plaitsOf_15 ?_
    refine g_iconst dX12_plaitsOf_18 (by decide) ?_
    refine g_iald km_5 dX12_plaitsOf_19 ?_
    intro x1
    refine g_icmpge (tgt := 69) dX12_plaitsOf_20 (by decide) ?_ ?_
    · refine g_iload_n dX12_plaitsOf_23 rfl rfl ?_
      refine g_iload dX12_plaitsOf_24 rfl ?_
      refine g_calls3 (st := []) mw_X12_has lk_RX12_106 (ok_M_has a1 v5 σ) (Nat.lt_of_lt_of_le (Nat.le_of_ble_eq_true rfl) hB) rfl rfl (Nat.le_of_ble_eq_true rfl) dX12_plaitsOf_26 ?_
      intro r2 s3
      refine g_ifeq (tgt := 63) dX12_plaitsOf_29 (by decide) ?_ ?_
      · refine n_iinc (fun x4 => [some (.inr (.inr 0)), some (.inl a1), some (.inl a2), some (.inl a3), some (.inl v4), some (.inl x4)]) dX12_plaitsOf_63 rfl (Nat.le_of_ble_eq_true rfl) (fun _ => rfl) ?_
        intro x4
        refine g_goto (tgt := 12) dX12_plaitsOf_66 (by decide) ?_
        exact (ih v4 x4 s3)
      · refine g_aload_n dX12_plaitsOf_32 rfl rfl ?_
        refine g_iload dX12_plaitsOf_33 rfl ?_
        refine g_iload_n dX12_plaitsOf_35 rfl rfl ?_
        refine g_iload_n dX12_plaitsOf_36 rfl rfl ?_
        refine g_iload_n dX12_plaitsOf_37 rfl rfl ?_
        refine g_callv3 (st := []) 10 mw_X12_isNext lk_RX12_481 rfl km_0 (ok_M_isNext v5 a1 a2 a3 s3) (Nat.lt_of_lt_of_le (Nat.le_of_ble_eq_true rfl) hB) rfl rfl (Nat.le_of_ble_eq_true rfl) dX12_plaitsOf_38 ?_
        intro r5 s6
        refine g_ifeq (tgt := 63) dX12_plaitsOf_41 (by decide) ?_ ?_
        · refine n_iinc (fun x7 => [some (.inr (.inr 0)), some (.inl a1), some (.inl a2), some (.inl a3), some (.inl v4), some (.inl x7)]) dX12_plaitsOf_63 rfl (Nat.le_of_ble_eq_true rfl) (fun _ => rfl) ?_
          intro x7
          refine g_goto (tgt := 12) dX12_plaitsOf_66 (by decide) ?_
          exact (ih v4 x7 s6)
        · refine g_iload dX12_plaitsOf_44 rfl ?_
          refine g_aload_n dX12_plaitsOf_46 rfl rfl ?_
          refine g_iload_n dX12_plaitsOf_47 rfl rfl ?_
          refine g_iconst dX12_plaitsOf_48 (by decide) ?_
          refine g_iload dX12_plaitsOf_49 rfl ?_
          refine g_ishl dX12_plaitsOf_51 ?_
          refine g_iconst dX12_plaitsOf_52 (by decide) ?_
          refine g_ixor dX12_plaitsOf_53 ?_
          refine g_iand dX12_plaitsOf_54 ?_
          refine g_iload_n dX12_plaitsOf_55 rfl rfl ?_
          refine g_iload_n dX12_plaitsOf_56 rfl rfl ?_
          refine g_callv0 (st := [.inl v4]) 10 mw_X12_plaitsOf lk_RX12_485 rfl km_0 (hrc (an32 a1 (xo32 (sl32 1 v5) (-1))) a2 a3 s6) hd rfl rfl (Nat.le_of_ble_eq_true rfl) dX12_plaitsOf_57 ?_
          intro r8 s9
          refine g_iadd dX12_plaitsOf_60 ?_
          refine n_istore (fun x10 => [some (.inr (.inr 0)), some (.inl a1), some (.inl a2), some (.inl a3), some (.inl x10), some (.inl v5)]) dX12_plaitsOf_61 (Nat.le_of_ble_eq_true rfl) (fun _ => rfl) ?_
          intro x10
          refine n_iinc (fun x11 => [some (.inr (.inr 0)), some (.inl a1), some (.inl a2), some (.inl a3), some (.inl x10), some (.inl x11)]) dX12_plaitsOf_63 rfl (Nat.le_of_ble_eq_true rfl) (fun _ => rfl) ?_
          intro x11
          refine g_goto (tgt := 12) dX12_plaitsOf_66 (by decide) ?_
          exact (ih x10 x11 s9)
    · refine g_iload dX12_plaitsOf_69 rfl ?_
      exact g_iret dX12_plaitsOf_71
def M_plaitsOf_B (rc : Int → Int → Int → Sg → Rs) (a1 : Int) (a2 : Int) (a3 : Int) (σ : Sg) : Rs := (if a1 = 0 then (some (1, σ)) else (M_plaitsOf_L12 rc a1 a2 a3 fu 0 0 σ))
theorem ok_M_plaitsOf_B (rc : Int → Int → Int → Sg → Rs) (dr dd : Nat) (hrc : ∀ (a1 : Int) (a2 : Int) (a3 : Int) (σ : Sg), MC l Km Pm yX12_plaitsOf cX12_plaitsOf 6 0 dr [.inr (.inr 0), .inl a1, .inl a2, .inl a3] σ (rc a1 a2 a3 σ)) (hd : dr < dd) (hB : 3 ≤ dd) (a1 : Int) (a2 : Int) (a3 : Int) (σ : Sg) : MC l Km Pm yX12_plaitsOf cX12_plaitsOf 6 0 dd [.inr (.inr 0), .inl a1, .inl a2, .inl a3] σ (M_plaitsOf_B rc a1 a2 a3 σ) := by
  refine mc_of (by decide) (Nat.le_of_ble_eq_true rfl) ?_
  change G l Km Pm RX12 cX12_plaitsOf 6 0 dd 0 [some (.inr (.inr 0)), some (.inl a1), some (.inl a2), some (.inl a3), none, none] [] σ (M_plaitsOf_B rc a1 a2 a3 σ)
  unfold M_plaitsOf_B
  refine g_iload_n dX12_plaitsOf_0 rfl rfl ?_
  refine g_ifne (tgt := 6) dX12_plaitsOf_1 (by decide) ?_ ?_
  · refine g_iconst dX12_plaitsOf_4 (by decide) ?_
    exact g_iret dX12_plaitsOf_5
  · refine g_iconst dX12_plaitsOf_6 (by decide) ?_
    refine g_istore (lv' := [some (.inr (.inr 0)), some (.inl a1), some (.inl a2), some (.inl a3), some (.inl 0), none]) dX12_plaitsOf_7 (Nat.le_of_ble_eq_true rfl) rfl ?_
    refine g_iconst dX12_plaitsOf_9 (by decide) ?_
    refine g_istore (lv' := [some (.inr (.inr 0)), some (.inl a1), some (.inl a2), some (.inl a3), some (.inl 0), some (.inl 0)]) dX12_plaitsOf_10 (Nat.le_of_ble_eq_true rfl) rfl ?_
    refine (ok_M_plaitsOf_L12 rc dr dd hrc hd hB a1 a2 a3 fu 0 0 σ)
def M_plaitsOf : Nat → Int → Int → Int → Sg → Rs
  | 0 => fun _ _ _ _ => none
  | n + 1 => M_plaitsOf_B (M_plaitsOf n)
theorem ok_M_plaitsOf : ∀ (n : Nat) (a1 : Int) (a2 : Int) (a3 : Int)  (σ : Sg), MC l Km Pm yX12_plaitsOf cX12_plaitsOf 6 0 (n + 3) [.inr (.inr 0), .inl a1, .inl a2, .inl a3] σ (M_plaitsOf n a1 a2 a3 σ) := by
  intro n
  induction n with
  | zero => intros; exact mc_none
  | succ n ih =>
    intro a1 a2 a3 σ
    exact ok_M_plaitsOf_B (M_plaitsOf n) (n + 3) ((n + 1) + 3) ih (by omega) (by omega)  a1 a2 a3 σ
theorem dX12_whyNoPlait_0 : decode cX12_whyNoPlait 0 = .ok (.aload_n 0, 1) := by decide +kernel
theorem dX12_whyNoPlait_1 : decode cX12_whyNoPlait 1 = .ok (.iload_n 2, 1) := by decide +kernel
theorem dX12_whyNoPlait_2 : decode cX12_whyNoPlait 2 = .ok (.iload_n 3, 1) := by decide +kernel
theorem dX12_whyNoPlait_3 : decode cX12_whyNoPlait 3 = .ok (.invokevirtual 436, 3) := by decide +kernel
theorem dX12_whyNoPlait_6 : decode cX12_whyNoPlait 6 = .ok (.istore 4, 2) := by decide +kernel
theorem dX12_whyNoPlait_8 : decode cX12_whyNoPlait 8 = .ok (.iload 4, 2) := by decide +kernel
theorem dX12_whyNoPlait_10 : decode cX12_whyNoPlait 10 = .ok (.ifCond .ne 14, 3) := by decide +kernel
theorem dX12_whyNoPlait_13 : decode cX12_whyNoPlait 13 = .ok (.aload_n 0, 1) := by decide +kernel
theorem dX12_whyNoPlait_14 : decode cX12_whyNoPlait 14 = .ok (.iload_n 1, 1) := by decide +kernel
theorem dX12_whyNoPlait_15 : decode cX12_whyNoPlait 15 = .ok (.invokevirtual 464, 3) := by decide +kernel
theorem dX12_whyNoPlait_18 : decode cX12_whyNoPlait 18 = .ok (.ifCond .ne 6, 3) := by decide +kernel
theorem dX12_whyNoPlait_21 : decode cX12_whyNoPlait 21 = .ok (.iconst 5, 1) := by decide +kernel
theorem dX12_whyNoPlait_22 : decode cX12_whyNoPlait 22 = .ok (.istore 4, 2) := by decide +kernel
theorem dX12_whyNoPlait_24 : decode cX12_whyNoPlait 24 = .ok (.iconst 0, 1) := by decide +kernel
theorem dX12_whyNoPlait_25 : decode cX12_whyNoPlait 25 = .ok (.istore 5, 2) := by decide +kernel
theorem dX12_whyNoPlait_27 : decode cX12_whyNoPlait 27 = .ok (.iload 5, 2) := by decide +kernel
theorem dX12_whyNoPlait_29 : decode cX12_whyNoPlait 29 = .ok (.iconst 2, 1) := by decide +kernel
theorem dX12_whyNoPlait_30 : decode cX12_whyNoPlait 30 = .ok (.iload_n 3, 1) := by decide +kernel
theorem dX12_whyNoPlait_31 : decode cX12_whyNoPlait 31 = .ok (.imul, 1) := by decide +kernel
theorem dX12_whyNoPlait_32 : decode cX12_whyNoPlait 32 = .ok (.if_icmp .ge 35, 3) := by decide +kernel
theorem dX12_whyNoPlait_35 : decode cX12_whyNoPlait 35 = .ok (.iload 4, 2) := by decide +kernel
theorem dX12_whyNoPlait_37 : decode cX12_whyNoPlait 37 = .ok (.ifCond .ne 30, 3) := by decide +kernel
theorem dX12_whyNoPlait_40 : decode cX12_whyNoPlait 40 = .ok (.aload_n 0, 1) := by decide +kernel
theorem dX12_whyNoPlait_41 : decode cX12_whyNoPlait 41 = .ok (.aload_n 0, 1) := by decide +kernel
theorem dX12_whyNoPlait_42 : decode cX12_whyNoPlait 42 = .ok (.iload_n 2, 1) := by decide +kernel
theorem dX12_whyNoPlait_43 : decode cX12_whyNoPlait 43 = .ok (.iload 5, 2) := by decide +kernel
theorem dX12_whyNoPlait_45 : decode cX12_whyNoPlait 45 = .ok (.invokevirtual 439, 3) := by decide +kernel
theorem dX12_whyNoPlait_48 : decode cX12_whyNoPlait 48 = .ok (.invokevirtual 334, 3) := by decide +kernel
theorem dX12_whyNoPlait_51 : decode cX12_whyNoPlait 51 = .ok (.ifCond .eq 7, 3) := by decide +kernel
theorem dX12_whyNoPlait_54 : decode cX12_whyNoPlait 54 = .ok (.iconst 0, 1) := by decide +kernel
theorem dX12_whyNoPlait_55 : decode cX12_whyNoPlait 55 = .ok (.goto 4, 3) := by decide +kernel
theorem dX12_whyNoPlait_58 : decode cX12_whyNoPlait 58 = .ok (.iconst 5, 1) := by decide +kernel
theorem dX12_whyNoPlait_59 : decode cX12_whyNoPlait 59 = .ok (.istore 4, 2) := by decide +kernel
theorem dX12_whyNoPlait_61 : decode cX12_whyNoPlait 61 = .ok (.iinc 5 1, 3) := by decide +kernel
theorem dX12_whyNoPlait_64 : decode cX12_whyNoPlait 64 = .ok (.goto (-37), 3) := by decide +kernel
theorem dX12_whyNoPlait_67 : decode cX12_whyNoPlait 67 = .ok (.iload 4, 2) := by decide +kernel
theorem dX12_whyNoPlait_69 : decode cX12_whyNoPlait 69 = .ok (.ireturn, 1) := by decide +kernel
theorem mw_X12_whyNoPlait : MW yX12_whyNoPlait cX12_whyNoPlait 6 0 3 false := ⟨tm 2291 (by decide +kernel) rfl, tm 249 (by decide +kernel) rfl, by decide, by decide, (by rw [if_neg (by decide)]; exact ⟨tm 2290 (by decide +kernel) rfl, tm 214 (by decide +kernel) rfl⟩)⟩
def M_whyNoPlait_L27 (a2 : Int) (a3 : Int) : Nat → Int → Int → Sg → Rs
  | 0, _, _, _ => none
  | n + 1, v4, v5, σ => (if v5 < (w32 (2 * a3)) then (if v4 = 0 then (bd (M_numberOf a2 v5 σ) (fun r5 s6 => (bd (M_isWordAt r5 s6) (fun r7 s8 => (if r7 = 0 then (nm (w32 (v5 + 1)) (fun x9 => (M_whyNoPlait_L27 a2 a3 n 5 x9 s8))) else (nm (w32 (v5 + 1)) (fun x10 => (M_whyNoPlait_L27 a2 a3 n 0 x10 s8)))))))) else (some (v4, σ))) else (some (v4, σ)))
theorem ok_M_whyNoPlait_L27 (a2 : Int) (a3 : Int) : ∀ (n : Nat) (v4 v5 : Int) (σ : Sg), G l Km Pm RX12 cX12_whyNoPlait 6 0 4 27 [some (.inr (.inr 0)), none, some (.inl a2), some (.inl a3), some (.inl v4), some (.inl v5)] [] σ (M_whyNoPlait_L27 a2 a3 n v4 v5 σ) := by
  intro n
  induction n with
  | zero => intros; exact G.none_
  | succ n ih =>
    intro v4 v5 σ
    rw [M_whyNoPlait_L27]
    refine g_iload dX12_whyNoPlait_27 rfl ?_
    refine g_iconst dX12_whyNoPlait_29 (by decide) ?_
    refine g_iload_n dX12_whyNoPlait_30 rfl rfl ?_
    refine g_imul dX12_whyNoPlait_31 ?_
    refine g_icmpge (tgt := 67) dX12_whyNoPlait_32 (by decide) ?_ ?_
    · refine g_iload dX12_whyNoPlait_35 rfl ?_
      refine g_ifne (tgt := 67) dX12_whyNoPlait_37 (by decide) ?_ ?_
      · refine g_aload_n dX12_whyNoPlait_40 rfl rfl ?_
        refine g_aload_n dX12_whyNoPlait_41 rfl rfl ?_
        refine g_iload_n dX12_whyNoPlait_42 rfl rfl ?_
        refine g_iload dX12_whyNoPlait_43 rfl ?_
        refine g_callv1 (st := [.inr (.inr 0)]) 10 mw_X12_numberOf lk_RX12_439 rfl km_0 (ok_M_numberOf a2 v5 σ) (Nat.le_of_ble_eq_true rfl) rfl rfl (Nat.le_of_ble_eq_true rfl) dX12_whyNoPlait_45 ?_
        intro r5 s6
        refine g_callv3 (st := []) 10 mw_X12_isWordAt lk_RX12_334 rfl km_0 (ok_M_isWordAt r5 s6) (Nat.le_of_ble_eq_true rfl) rfl rfl (Nat.le_of_ble_eq_true rfl) dX12_whyNoPlait_48 ?_
        intro r7 s8
        refine g_ifeq (tgt := 58) dX12_whyNoPlait_51 (by decide) ?_ ?_
        · refine g_iconst dX12_whyNoPlait_58 (by decide) ?_
          refine g_istore (lv' := [some (.inr (.inr 0)), none, some (.inl a2), some (.inl a3), some (.inl 5), some (.inl v5)]) dX12_whyNoPlait_59 (Nat.le_of_ble_eq_true rfl) rfl ?_
          refine n_iinc (fun x9 => [some (.inr (.inr 0)), none, some (.inl a2), some (.inl a3), some (.inl 5), some (.inl x9)]) dX12_whyNoPlait_61 rfl (Nat.le_of_ble_eq_true rfl) (fun _ => rfl) ?_
          intro x9
          refine g_goto (tgt := 27) dX12_whyNoPlait_64 (by decide) ?_
          exact (ih 5 x9 s8)
        · refine g_iconst dX12_whyNoPlait_54 (by decide) ?_
          refine g_goto (tgt := 59) dX12_whyNoPlait_55 (by decide) ?_
          refine g_istore (lv' := [some (.inr (.inr 0)), none, some (.inl a2), some (.inl a3), some (.inl 0), some (.inl v5)]) dX12_whyNoPlait_59 (Nat.le_of_ble_eq_true rfl) rfl ?_
          refine n_iinc (fun x10 => [some (.inr (.inr 0)), none, some (.inl a2), some (.inl a3), some (.inl 0), some (.inl x10)]) dX12_whyNoPlait_61 rfl (Nat.le_of_ble_eq_true rfl) (fun _ => rfl) ?_
          intro x10
          refine g_goto (tgt := 27) dX12_whyNoPlait_64 (by decide) ?_
          exact (ih 0 x10 s8)
      · refine g_iload dX12_whyNoPlait_67 rfl ?_
        exact g_iret dX12_whyNoPlait_69
    · refine g_iload dX12_whyNoPlait_67 rfl ?_
      exact g_iret dX12_whyNoPlait_69
def M_whyNoPlait (a1 : Int) (a2 : Int) (a3 : Int) (σ : Sg) : Rs := (bd (M_whyNoTwos a2 a3 σ) (fun r1 s2 => (if r1 = 0 then (bd (M_areWords a1 s2) (fun r3 s4 => (if r3 = 0 then (M_whyNoPlait_L27 a2 a3 fu 5 0 s4) else (M_whyNoPlait_L27 a2 a3 fu r1 0 s4)))) else (M_whyNoPlait_L27 a2 a3 fu r1 0 s2))))
theorem ok_M_whyNoPlait (a1 : Int) (a2 : Int) (a3 : Int) (σ : Sg) : MC l Km Pm yX12_whyNoPlait cX12_whyNoPlait 6 0 4 [.inr (.inr 0), .inl a1, .inl a2, .inl a3] σ (M_whyNoPlait a1 a2 a3 σ) := by
  refine mc_of (by decide) (Nat.le_of_ble_eq_true rfl) ?_
  change G l Km Pm RX12 cX12_whyNoPlait 6 0 4 0 [some (.inr (.inr 0)), some (.inl a1), some (.inl a2), some (.inl a3), none, none] [] σ (M_whyNoPlait a1 a2 a3 σ)
  unfold M_whyNoPlait
  refine g_aload_n dX12_whyNoPlait_0 rfl rfl ?_
  refine g_iload_n dX12_whyNoPlait_1 rfl rfl ?_
  refine g_iload_n dX12_whyNoPlait_2 rfl rfl ?_
  refine g_callv0 (st := []) 10 mw_X12_whyNoTwos lk_RX12_436 rfl km_0 (ok_M_whyNoTwos a2 a3 σ) (Nat.le_of_ble_eq_true rfl) rfl rfl (Nat.le_of_ble_eq_true rfl) dX12_whyNoPlait_3 ?_
  intro r1 s2
  refine g_istore (lv' := [some (.inr (.inr 0)), some (.inl a1), some (.inl a2), some (.inl a3), some (.inl r1), none]) dX12_whyNoPlait_6 (Nat.le_of_ble_eq_true rfl) rfl ?_
  refine g_iload dX12_whyNoPlait_8 rfl ?_
  refine g_ifne (tgt := 24) dX12_whyNoPlait_10 (by decide) ?_ ?_
  · refine g_aload_n dX12_whyNoPlait_13 rfl rfl ?_
    refine g_iload_n dX12_whyNoPlait_14 rfl rfl ?_
    refine g_callv3 (st := []) 10 mw_X12_areWords lk_RX12_464 rfl km_0 (ok_M_areWords a1 s2) (Nat.le_of_ble_eq_true rfl) rfl rfl (Nat.le_of_ble_eq_true rfl) dX12_whyNoPlait_15 ?_
    intro r3 s4
    refine g_ifne (tgt := 24) dX12_whyNoPlait_18 (by decide) ?_ ?_
    · refine g_iconst dX12_whyNoPlait_21 (by decide) ?_
      refine g_istore (lv' := [some (.inr (.inr 0)), some (.inl a1), some (.inl a2), some (.inl a3), some (.inl 5), none]) dX12_whyNoPlait_22 (Nat.le_of_ble_eq_true rfl) rfl ?_
      refine g_iconst dX12_whyNoPlait_24 (by decide) ?_
      refine g_istore (lv' := [some (.inr (.inr 0)), some (.inl a1), some (.inl a2), some (.inl a3), some (.inl 5), some (.inl 0)]) dX12_whyNoPlait_25 (Nat.le_of_ble_eq_true rfl) rfl ?_
      refine (g_weak [true, false, true, true, true, true] (ok_M_whyNoPlait_L27 a2 a3 fu 5 0 s4))
    · refine g_iconst dX12_whyNoPlait_24 (by decide) ?_
      refine g_istore (lv' := [some (.inr (.inr 0)), some (.inl a1), some (.inl a2), some (.inl a3), some (.inl r1), some (.inl 0)]) dX12_whyNoPlait_25 (Nat.le_of_ble_eq_true rfl) rfl ?_
      refine (g_weak [true, false, true, true, true, true] (ok_M_whyNoPlait_L27 a2 a3 fu r1 0 s4))
  · refine g_iconst dX12_whyNoPlait_24 (by decide) ?_
    refine g_istore (lv' := [some (.inr (.inr 0)), some (.inl a1), some (.inl a2), some (.inl a3), some (.inl r1), some (.inl 0)]) dX12_whyNoPlait_25 (Nat.le_of_ble_eq_true rfl) rfl ?_
    refine (g_weak [true, false, true, true, true, true] (ok_M_whyNoPlait_L27 a2 a3 fu r1 0 s2))
theorem dX12_plaitAt_0 : decode cX12_plaitAt 0 = .ok (.aload_n 0, 1) := by decide +kernel
theorem dX12_plaitAt_1 : decode cX12_plaitAt 1 = .ok (.iconst 0, 1) := by decide +kernel
theorem dX12_plaitAt_2 : decode cX12_plaitAt 2 = .ok (.putfield 67, 3) := by decide +kernel
theorem dX12_plaitAt_5 : decode cX12_plaitAt 5 = .ok (.aload_n 0, 1) := by decide +kernel
theorem dX12_plaitAt_6 : decode cX12_plaitAt 6 = .ok (.aload_n 0, 1) := by decide +kernel
theorem dX12_plaitAt_7 : decode cX12_plaitAt 7 = .ok (.iload_n 1, 1) := by decide +kernel
theorem dX12_plaitAt_8 : decode cX12_plaitAt 8 = .ok (.iload_n 2, 1) := by decide +kernel
theorem dX12_plaitAt_9 : decode cX12_plaitAt 9 = .ok (.iload_n 3, 1) := by decide +kernel
theorem dX12_plaitAt_10 : decode cX12_plaitAt 10 = .ok (.invokevirtual 488, 3) := by decide +kernel
theorem dX12_plaitAt_13 : decode cX12_plaitAt 13 = .ok (.putfield 70, 3) := by decide +kernel
theorem dX12_plaitAt_16 : decode cX12_plaitAt 16 = .ok (.aload_n 0, 1) := by decide +kernel
theorem dX12_plaitAt_17 : decode cX12_plaitAt 17 = .ok (.getfield 70, 3) := by decide +kernel
theorem dX12_plaitAt_20 : decode cX12_plaitAt 20 = .ok (.ifCond .le 5, 3) := by decide +kernel
theorem dX12_plaitAt_23 : decode cX12_plaitAt 23 = .ok (.iconst (-1), 1) := by decide +kernel
theorem dX12_plaitAt_24 : decode cX12_plaitAt 24 = .ok (.ireturn, 1) := by decide +kernel
theorem dX12_plaitAt_25 : decode cX12_plaitAt 25 = .ok (.iload 4, 2) := by decide +kernel
theorem dX12_plaitAt_27 : decode cX12_plaitAt 27 = .ok (.i2l, 1) := by decide +kernel
theorem dX12_plaitAt_28 : decode cX12_plaitAt 28 = .ok (.lconst 0, 1) := by decide +kernel
theorem dX12_plaitAt_29 : decode cX12_plaitAt 29 = .ok (.iload_n 1, 1) := by decide +kernel
theorem dX12_plaitAt_30 : decode cX12_plaitAt 30 = .ok (.invokestatic 390, 3) := by decide +kernel
theorem dX12_plaitAt_33 : decode cX12_plaitAt 33 = .ok (.iconst 1, 1) := by decide +kernel
theorem dX12_plaitAt_34 : decode cX12_plaitAt 34 = .ok (.isub, 1) := by decide +kernel
theorem dX12_plaitAt_35 : decode cX12_plaitAt 35 = .ok (.i2l, 1) := by decide +kernel
theorem dX12_plaitAt_36 : decode cX12_plaitAt 36 = .ok (.invokestatic 102, 3) := by decide +kernel
theorem dX12_plaitAt_39 : decode cX12_plaitAt 39 = .ok (.ifCond .eq 13, 3) := by decide +kernel
theorem dX12_plaitAt_42 : decode cX12_plaitAt 42 = .ok (.aload_n 0, 1) := by decide +kernel
theorem dX12_plaitAt_43 : decode cX12_plaitAt 43 = .ok (.iload_n 1, 1) := by decide +kernel
theorem dX12_plaitAt_44 : decode cX12_plaitAt 44 = .ok (.iload_n 2, 1) := by decide +kernel
theorem dX12_plaitAt_45 : decode cX12_plaitAt 45 = .ok (.iload_n 3, 1) := by decide +kernel
theorem dX12_plaitAt_46 : decode cX12_plaitAt 46 = .ok (.invokevirtual 485, 3) := by decide +kernel
theorem dX12_plaitAt_49 : decode cX12_plaitAt 49 = .ok (.ifCond .ne 10, 3) := by decide +kernel
theorem dX12_plaitAt_52 : decode cX12_plaitAt 52 = .ok (.aload_n 0, 1) := by decide +kernel
theorem dX12_plaitAt_53 : decode cX12_plaitAt 53 = .ok (.bipush 8, 2) := by decide +kernel
theorem dX12_plaitAt_55 : decode cX12_plaitAt 55 = .ok (.invokevirtual 325, 3) := by decide +kernel
theorem dX12_plaitAt_58 : decode cX12_plaitAt 58 = .ok (.ireturn, 1) := by decide +kernel
theorem dX12_plaitAt_59 : decode cX12_plaitAt 59 = .ok (.iload_n 1, 1) := by decide +kernel
theorem dX12_plaitAt_60 : decode cX12_plaitAt 60 = .ok (.istore 5, 2) := by decide +kernel
theorem dX12_plaitAt_62 : decode cX12_plaitAt 62 = .ok (.iconst (-1), 1) := by decide +kernel
theorem dX12_plaitAt_63 : decode cX12_plaitAt 63 = .ok (.istore 6, 2) := by decide +kernel
theorem dX12_plaitAt_65 : decode cX12_plaitAt 65 = .ok (.iconst 0, 1) := by decide +kernel
theorem dX12_plaitAt_66 : decode cX12_plaitAt 66 = .ok (.istore 7, 2) := by decide +kernel
theorem dX12_plaitAt_68 : decode cX12_plaitAt 68 = .ok (.iload 7, 2) := by decide +kernel
theorem dX12_plaitAt_70 : decode cX12_plaitAt 70 = .ok (.iload 4, 2) := by decide +kernel
theorem dX12_plaitAt_72 : decode cX12_plaitAt 72 = .ok (.if_icmp .gt 70, 3) := by decide +kernel
theorem dX12_plaitAt_75 : decode cX12_plaitAt 75 = .ok (.iconst 0, 1) := by decide +kernel
theorem dX12_plaitAt_76 : decode cX12_plaitAt 76 = .ok (.istore 6, 2) := by decide +kernel
theorem dX12_plaitAt_78 : decode cX12_plaitAt 78 = .ok (.iload 5, 2) := by decide +kernel
theorem dX12_plaitAt_80 : decode cX12_plaitAt 80 = .ok (.iload 6, 2) := by decide +kernel
theorem dX12_plaitAt_82 : decode cX12_plaitAt 82 = .ok (.invokestatic 106, 3) := by decide +kernel
theorem dX12_plaitAt_85 : decode cX12_plaitAt 85 = .ok (.ifCond .eq 34, 3) := by decide +kernel
theorem dX12_plaitAt_88 : decode cX12_plaitAt 88 = .ok (.aload_n 0, 1) := by decide +kernel
theorem dX12_plaitAt_89 : decode cX12_plaitAt 89 = .ok (.iload 6, 2) := by decide +kernel
theorem dX12_plaitAt_91 : decode cX12_plaitAt 91 = .ok (.iload 5, 2) := by decide +kernel
theorem dX12_plaitAt_93 : decode cX12_plaitAt 93 = .ok (.iload_n 2, 1) := by decide +kernel
theorem dX12_plaitAt_94 : decode cX12_plaitAt 94 = .ok (.iload_n 3, 1) := by decide +kernel
theorem dX12_plaitAt_95 : decode cX12_plaitAt 95 = .ok (.invokevirtual 481, 3) := by decide +kernel
theorem dX12_plaitAt_98 : decode cX12_plaitAt 98 = .ok (.ifCond .eq 21, 3) := by decide +kernel
theorem dX12_plaitAt_101 : decode cX12_plaitAt 101 = .ok (.aload_n 0, 1) := by decide +kernel
theorem dX12_plaitAt_102 : decode cX12_plaitAt 102 = .ok (.iload 5, 2) := by decide +kernel
theorem dX12_plaitAt_104 : decode cX12_plaitAt 104 = .ok (.iconst 1, 1) := by decide +kernel
theorem dX12_plaitAt_105 : decode cX12_plaitAt 105 = .ok (.iload 6, 2) := by decide +kernel
theorem dX12_plaitAt_107 : decode cX12_plaitAt 107 = .ok (.ishl, 1) := by decide +kernel
theorem dX12_plaitAt_108 : decode cX12_plaitAt 108 = .ok (.iconst (-1), 1) := by decide +kernel
theorem dX12_plaitAt_109 : decode cX12_plaitAt 109 = .ok (.ixor, 1) := by decide +kernel
theorem dX12_plaitAt_110 : decode cX12_plaitAt 110 = .ok (.iand, 1) := by decide +kernel
theorem dX12_plaitAt_111 : decode cX12_plaitAt 111 = .ok (.iload_n 2, 1) := by decide +kernel
theorem dX12_plaitAt_112 : decode cX12_plaitAt 112 = .ok (.iload_n 3, 1) := by decide +kernel
theorem dX12_plaitAt_113 : decode cX12_plaitAt 113 = .ok (.invokevirtual 485, 3) := by decide +kernel
theorem dX12_plaitAt_116 : decode cX12_plaitAt 116 = .ok (.ifCond .ne 9, 3) := by decide +kernel
theorem dX12_plaitAt_119 : decode cX12_plaitAt 119 = .ok (.iinc 6 1, 3) := by decide +kernel
theorem dX12_plaitAt_122 : decode cX12_plaitAt 122 = .ok (.goto (-44), 3) := by decide +kernel
theorem dX12_plaitAt_125 : decode cX12_plaitAt 125 = .ok (.iload 5, 2) := by decide +kernel
theorem dX12_plaitAt_127 : decode cX12_plaitAt 127 = .ok (.iconst 1, 1) := by decide +kernel
theorem dX12_plaitAt_128 : decode cX12_plaitAt 128 = .ok (.iload 6, 2) := by decide +kernel
theorem dX12_plaitAt_130 : decode cX12_plaitAt 130 = .ok (.ishl, 1) := by decide +kernel
theorem dX12_plaitAt_131 : decode cX12_plaitAt 131 = .ok (.iconst (-1), 1) := by decide +kernel
theorem dX12_plaitAt_132 : decode cX12_plaitAt 132 = .ok (.ixor, 1) := by decide +kernel
theorem dX12_plaitAt_133 : decode cX12_plaitAt 133 = .ok (.iand, 1) := by decide +kernel
theorem dX12_plaitAt_134 : decode cX12_plaitAt 134 = .ok (.istore 5, 2) := by decide +kernel
theorem dX12_plaitAt_136 : decode cX12_plaitAt 136 = .ok (.iinc 7 1, 3) := by decide +kernel
theorem dX12_plaitAt_139 : decode cX12_plaitAt 139 = .ok (.goto (-71), 3) := by decide +kernel
theorem dX12_plaitAt_142 : decode cX12_plaitAt 142 = .ok (.iload 6, 2) := by decide +kernel
theorem dX12_plaitAt_144 : decode cX12_plaitAt 144 = .ok (.ireturn, 1) := by decide +kernel
theorem mw_X12_plaitAt : MW yX12_plaitAt cX12_plaitAt 8 0 4 false := ⟨tm 2303 (by decide +kernel) rfl, tm 249 (by decide +kernel) rfl, by decide, by decide, (by rw [if_neg (by decide)]; exact ⟨tm 2301 (by decide +kernel) rfl, tm 2302 (by decide +kernel) rfl⟩)⟩
theorem lk_RX12_488 : LK RX12 488 yX12_whyNoPlait := Or.inl (tm 2288 (by decide +kernel) rfl)
def M_plaitAt_L78 (a2 : Int) (a3 : Int) (a4 : Int) (v5 : Int) (v7 : Int) (k68 : Int → Int → Int → Sg → Rs) : Nat → Int → Sg → Rs
  | 0, _, _ => none
  | n + 1, v6, σ => (bd (M_has v5 v6 σ) (fun r15 s16 => (if r15 = 0 then (nm (w32 (v6 + 1)) (fun x17 => (M_plaitAt_L78 a2 a3 a4 v5 v7 k68 n x17 s16))) else (bd (M_isNext v6 v5 a2 a3 s16) (fun r18 s19 => (if r18 = 0 then (nm (w32 (v6 + 1)) (fun x20 => (M_plaitAt_L78 a2 a3 a4 v5 v7 k68 n x20 s19))) else (bd (M_plaitsOf 20 (an32 v5 (xo32 (sl32 1 v6) (-1))) a2 a3 s19) (fun r21 s22 => (if r21 = 0 then (nm (w32 (v6 + 1)) (fun x23 => (M_plaitAt_L78 a2 a3 a4 v5 v7 k68 n x23 s22))) else (nm (an32 v5 (xo32 (sl32 1 v6) (-1))) (fun x24 => (nm (w32 (v7 + 1)) (fun x25 => (k68 x24 v6 x25 s22))))))))))))))
theorem ok_M_plaitAt_L78 (a2 : Int) (a3 : Int) (a4 : Int) (v5 : Int) (v7 : Int) (k68 : Int → Int → Int → Sg → Rs) (hk68 : ∀ (y5 y6 y7 : Int) (σ : Sg), G l Km Pm RX12 cX12_plaitAt 8 0 24 68 [some (.inr (.inr 0)), none, some (.inl a2), some (.inl a3), some (.inl a4), some (.inl y5), some (.inl y6), some (.inl y7)] [] σ (k68 y5 y6 y7 σ)) : ∀ (n : Nat) (v6 : Int) (σ : Sg), G l Km Pm RX12 cX12_plaitAt 8 0 24 78 [some (.inr (.inr 0)), none, some (.inl a2), some (.inl a3), some (.inl a4), some (.inl v5), some (.inl v6), some (.inl v7)] [] σ (M_plaitAt_L78 a2 a3 a4 v5 v7 k68 n v6 σ) := by
  intro n
  induction n with
  | zero => intros; exact G.none_
  | succ n ih =>
    intro v6 σ
    rw [M_plaitAt_L78]
    refine g_iload dX12_plaitAt_78 rfl ?_
    refine g_iload dX12_plaitAt_80 rfl ?_
    refine g_calls3 (st := []) mw_X12_has lk_RX12_106 (ok_M_has v5 v6 σ) (Nat.le_of_ble_eq_true rfl) rfl rfl (Nat.le_of_ble_eq_true rfl) dX12_plaitAt_82 ?_
    intro r15 s16
    refine g_ifeq (tgt := 119) dX12_plaitAt_85 (by decide) ?_ ?_
    · refine n_iinc (fun x17 => [some (.inr (.inr 0)), none, some (.inl a2), some (.inl a3), some (.inl a4), some (.inl v5), some (.inl x17), some (.inl v7)]) dX12_plaitAt_119 rfl (Nat.le_of_ble_eq_true rfl) (fun _ => rfl) ?_
      intro x17
      refine g_goto (tgt := 78) dX12_plaitAt_122 (by decide) ?_
      exact (ih x17 s16)
    · refine g_aload_n dX12_plaitAt_88 rfl rfl ?_
      refine g_iload dX12_plaitAt_89 rfl ?_
      refine g_iload dX12_plaitAt_91 rfl ?_
      refine g_iload_n dX12_plaitAt_93 rfl rfl ?_
      refine g_iload_n dX12_plaitAt_94 rfl rfl ?_
      refine g_callv3 (st := []) 10 mw_X12_isNext lk_RX12_481 rfl km_0 (ok_M_isNext v6 v5 a2 a3 s16) (Nat.le_of_ble_eq_true rfl) rfl rfl (Nat.le_of_ble_eq_true rfl) dX12_plaitAt_95 ?_
      intro r18 s19
      refine g_ifeq (tgt := 119) dX12_plaitAt_98 (by decide) ?_ ?_
      · refine n_iinc (fun x20 => [some (.inr (.inr 0)), none, some (.inl a2), some (.inl a3), some (.inl a4), some (.inl v5), some (.inl x20), some (.inl v7)]) dX12_plaitAt_119 rfl (Nat.le_of_ble_eq_true rfl) (fun _ => rfl) ?_
        intro x20
        refine g_goto (tgt := 78) dX12_plaitAt_122 (by decide) ?_
        exact (ih x20 s19)
      · refine g_aload_n dX12_plaitAt_101 rfl rfl ?_
        refine g_iload dX12_plaitAt_102 rfl ?_
        refine g_iconst dX12_plaitAt_104 (by decide) ?_
        refine g_iload dX12_plaitAt_105 rfl ?_
        refine g_ishl dX12_plaitAt_107 ?_
        refine g_iconst dX12_plaitAt_108 (by decide) ?_
        refine g_ixor dX12_plaitAt_109 ?_
        refine g_iand dX12_plaitAt_110 ?_
        refine g_iload_n dX12_plaitAt_111 rfl rfl ?_
        refine g_iload_n dX12_plaitAt_112 rfl rfl ?_
        refine g_callv0 (st := []) 10 mw_X12_plaitsOf lk_RX12_485 rfl km_0 (ok_M_plaitsOf 20 (an32 v5 (xo32 (sl32 1 v6) (-1))) a2 a3 s19) (Nat.le_of_ble_eq_true rfl) rfl rfl (Nat.le_of_ble_eq_true rfl) dX12_plaitAt_113 ?_
        intro r21 s22
        refine g_ifne (tgt := 125) dX12_plaitAt_116 (by decide) ?_ ?_
        · refine n_iinc (fun x23 => [some (.inr (.inr 0)), none, some (.inl a2), some (.inl a3), some (.inl a4), some (.inl v5), some (.inl x23), some (.inl v7)]) dX12_plaitAt_119 rfl (Nat.le_of_ble_eq_true rfl) (fun _ => rfl) ?_
          intro x23
          refine g_goto (tgt := 78) dX12_plaitAt_122 (by decide) ?_
          exact (ih x23 s22)
        · refine g_iload dX12_plaitAt_125 rfl ?_
          refine g_iconst dX12_plaitAt_127 (by decide) ?_
          refine g_iload dX12_plaitAt_128 rfl ?_
          refine g_ishl dX12_plaitAt_130 ?_
          refine g_iconst dX12_plaitAt_131 (by decide) ?_
          refine g_ixor dX12_plaitAt_132 ?_
          refine g_iand dX12_plaitAt_133 ?_
          refine n_istore (fun x24 => [some (.inr (.inr 0)), none, some (.inl a2), some (.inl a3), some (.inl a4), some (.inl x24), some (.inl v6), some (.inl v7)]) dX12_plaitAt_134 (Nat.le_of_ble_eq_true rfl) (fun _ => rfl) ?_
          intro x24
          refine n_iinc (fun x25 => [some (.inr (.inr 0)), none, some (.inl a2), some (.inl a3), some (.inl a4), some (.inl x24), some (.inl v6), some (.inl x25)]) dX12_plaitAt_136 rfl (Nat.le_of_ble_eq_true rfl) (fun _ => rfl) ?_
          intro x25
          refine g_goto (tgt := 68) dX12_plaitAt_139 (by decide) ?_
          exact (hk68 x24 v6 x25 s22)
def M_plaitAt_L68 (a2 : Int) (a3 : Int) (a4 : Int) : Nat → Int → Int → Int → Sg → Rs
  | 0, _, _, _, _ => none
  | n + 1, v5, v6, v7, σ => (if a4 < v7 then (some (v6, σ)) else (M_plaitAt_L78 a2 a3 a4 v5 v7 (fun x26 x27 x28 s29 => (M_plaitAt_L68 a2 a3 a4 n x26 x27 x28 s29)) fu 0 σ))
theorem ok_M_plaitAt_L68 (a2 : Int) (a3 : Int) (a4 : Int) : ∀ (n : Nat) (v5 v6 v7 : Int) (σ : Sg), G l Km Pm RX12 cX12_plaitAt 8 0 24 68 [some (.inr (.inr 0)), none, some (.inl a2), some (.inl a3), some (.inl a4), some (.inl v5), some (.inl v6), some (.inl v7)] [] σ (M_plaitAt_L68 a2 a3 a4 n v5 v6 v7 σ) := by
  intro n
  induction n with
  | zero => intros; exact G.none_
  | succ n ih =>
    intro v5 v6 v7 σ
    rw [M_plaitAt_L68]
    refine g_iload dX12_plaitAt_68 rfl ?_
    refine g_iload dX12_plaitAt_70 rfl ?_
    refine g_icmpgt (tgt := 142) dX12_plaitAt_72 (by decide) ?_ ?_
    · refine g_iload dX12_plaitAt_142 rfl ?_
      exact g_iret dX12_plaitAt_144
    · refine g_iconst dX12_plaitAt_75 (by decide) ?_
      refine g_istore (lv' := [some (.inr (.inr 0)), none, some (.inl a2), some (.inl a3), some (.inl a4), some (.inl v5), some (.inl 0), some (.inl v7)]) dX12_plaitAt_76 (Nat.le_of_ble_eq_true rfl) rfl ?_
      refine (ok_M_plaitAt_L78 a2 a3 a4 v5 v7 _ ?_ fu 0 σ)
      · intro x26 x27 x28 s29
        exact (ih x26 x27 x28 s29)
def M_plaitAt (a1 : Int) (a2 : Int) (a3 : Int) (a4 : Int) (σ : Sg) : Rs := (nm (up_s σ 0 1 0) (fun s1 => (bd (M_whyNoPlait a1 a2 a3 s1) (fun r2 s3 => (nm (up_s s3 0 0 r2) (fun s4 => (if 0 < (s4 0 0) then (some ((-1), s4)) else (bd (M_sizeOf a1 s4) (fun r5 s6 => (bd (M_isIn a4 0 (w32 (r5 - 1)) s6) (fun r7 s8 => (if r7 = 0 then (bd (M_refuse 8 s8) (fun r9 s10 => (some (r9, s10)))) else (bd (M_plaitsOf 20 a1 a2 a3 s8) (fun r11 s12 => (if r11 = 0 then (bd (M_refuse 8 s12) (fun r13 s14 => (some (r13, s14)))) else (M_plaitAt_L68 a2 a3 a4 fu a1 (-1) 0 s12))))))))))))))))
theorem ok_M_plaitAt (a1 : Int) (a2 : Int) (a3 : Int) (a4 : Int) (σ : Sg) : MC l Km Pm yX12_plaitAt cX12_plaitAt 8 0 24 [.inr (.inr 0), .inl a1, .inl a2, .inl a3, .inl a4] σ (M_plaitAt a1 a2 a3 a4 σ) := by
  refine mc_of (by decide) (Nat.le_of_ble_eq_true rfl) ?_
  change G l Km Pm RX12 cX12_plaitAt 8 0 24 0 [some (.inr (.inr 0)), some (.inl a1), some (.inl a2), some (.inl a3), some (.inl a4), none, none, none] [] σ (M_plaitAt a1 a2 a3 a4 σ)
  unfold M_plaitAt
  refine g_aload_n dX12_plaitAt_0 rfl rfl ?_
  refine g_iconst dX12_plaitAt_1 (by decide) ?_
  refine g_puti fl_RX12_67 km_0 (by decide) dX12_plaitAt_2 ?_
  intro s1
  refine g_aload_n dX12_plaitAt_5 rfl rfl ?_
  refine g_aload_n dX12_plaitAt_6 rfl rfl ?_
  refine g_iload_n dX12_plaitAt_7 rfl rfl ?_
  refine g_iload_n dX12_plaitAt_8 rfl rfl ?_
  refine g_iload_n dX12_plaitAt_9 rfl rfl ?_
  refine g_callv0 (st := [.inr (.inr 0)]) 10 mw_X12_whyNoPlait lk_RX12_488 rfl km_0 (ok_M_whyNoPlait a1 a2 a3 s1) (Nat.le_of_ble_eq_true rfl) rfl rfl (Nat.le_of_ble_eq_true rfl) dX12_plaitAt_10 ?_
  intro r2 s3
  refine g_puti fl_RX12_70 km_0 (by decide) dX12_plaitAt_13 ?_
  intro s4
  refine g_aload_n dX12_plaitAt_16 rfl rfl ?_
  refine g_geti fl_RX12_70 km_0 (by decide) dX12_plaitAt_17 ?_
  refine g_ifle (tgt := 25) dX12_plaitAt_20 (by decide) ?_ ?_
  · refine g_iconst dX12_plaitAt_23 (by decide) ?_
    exact g_iret dX12_plaitAt_24
  · refine g_iload dX12_plaitAt_25 rfl ?_
    refine g_i2l dX12_plaitAt_27 ?_
    refine g_lconst (v := 0) dX12_plaitAt_28 (by decide) ?_
    refine g_iload_n dX12_plaitAt_29 rfl rfl ?_
    refine g_calls0 (st := [.inr (.inl 0), .inr (.inl a4)]) mw_X12_sizeOf lk_RX12_390 (ok_M_sizeOf a1 s4) (Nat.le_of_ble_eq_true rfl) rfl rfl (Nat.le_of_ble_eq_true rfl) dX12_plaitAt_30 ?_
    intro r5 s6
    refine g_iconst dX12_plaitAt_33 (by decide) ?_
    refine g_isub dX12_plaitAt_34 ?_
    refine g_i2l dX12_plaitAt_35 ?_
    refine g_calls3 (st := []) mw_X12_isIn lk_RX12_102 (ok_M_isIn a4 0 (w32 (r5 - 1)) s6) (Nat.le_of_ble_eq_true rfl) rfl rfl (Nat.le_of_ble_eq_true rfl) dX12_plaitAt_36 ?_
    intro r7 s8
    refine g_ifeq (tgt := 52) dX12_plaitAt_39 (by decide) ?_ ?_
    · refine g_aload_n dX12_plaitAt_52 rfl rfl ?_
      refine g_bipush dX12_plaitAt_53 (by decide) ?_
      refine g_callv0 (st := []) 10 mw_X12_refuse lk_RX12_325 rfl km_0 (ok_M_refuse 8 s8) (Nat.le_of_ble_eq_true rfl) rfl rfl (Nat.le_of_ble_eq_true rfl) dX12_plaitAt_55 ?_
      intro r9 s10
      exact g_iret dX12_plaitAt_58
    · refine g_aload_n dX12_plaitAt_42 rfl rfl ?_
      refine g_iload_n dX12_plaitAt_43 rfl rfl ?_
      refine g_iload_n dX12_plaitAt_44 rfl rfl ?_
      refine g_iload_n dX12_plaitAt_45 rfl rfl ?_
      refine g_callv0 (st := []) 10 mw_X12_plaitsOf lk_RX12_485 rfl km_0 (ok_M_plaitsOf 20 a1 a2 a3 s8) (Nat.le_of_ble_eq_true rfl) rfl rfl (Nat.le_of_ble_eq_true rfl) dX12_plaitAt_46 ?_
      intro r11 s12
      refine g_ifne (tgt := 59) dX12_plaitAt_49 (by decide) ?_ ?_
      · refine g_aload_n dX12_plaitAt_52 rfl rfl ?_
        refine g_bipush dX12_plaitAt_53 (by decide) ?_
        refine g_callv0 (st := []) 10 mw_X12_refuse lk_RX12_325 rfl km_0 (ok_M_refuse 8 s12) (Nat.le_of_ble_eq_true rfl) rfl rfl (Nat.le_of_ble_eq_true rfl) dX12_plaitAt_55 ?_
        intro r13 s14
        exact g_iret dX12_plaitAt_58
      · refine g_iload_n dX12_plaitAt_59 rfl rfl ?_
        refine g_istore (lv' := [some (.inr (.inr 0)), some (.inl a1), some (.inl a2), some (.inl a3), some (.inl a4), some (.inl a1), none, none]) dX12_plaitAt_60 (Nat.le_of_ble_eq_true rfl) rfl ?_
        refine g_iconst dX12_plaitAt_62 (by decide) ?_
        refine g_istore (lv' := [some (.inr (.inr 0)), some (.inl a1), some (.inl a2), some (.inl a3), some (.inl a4), some (.inl a1), some (.inl (-1)), none]) dX12_plaitAt_63 (Nat.le_of_ble_eq_true rfl) rfl ?_
        refine g_iconst dX12_plaitAt_65 (by decide) ?_
        refine g_istore (lv' := [some (.inr (.inr 0)), some (.inl a1), some (.inl a2), some (.inl a3), some (.inl a4), some (.inl a1), some (.inl (-1)), some (.inl 0)]) dX12_plaitAt_66 (Nat.le_of_ble_eq_true rfl) rfl ?_
        refine (g_weak [true, false, true, true, true, true, true, true] (ok_M_plaitAt_L68 a2 a3 a4 fu a1 (-1) 0 s12))
theorem dX12_plaits_0 : decode cX12_plaits 0 = .ok (.aload_n 0, 1) := by decide +kernel
theorem dX12_plaits_1 : decode cX12_plaits 1 = .ok (.iconst 0, 1) := by decide +kernel
theorem dX12_plaits_2 : decode cX12_plaits 2 = .ok (.putfield 67, 3) := by decide +kernel
theorem dX12_plaits_5 : decode cX12_plaits 5 = .ok (.aload_n 0, 1) := by decide +kernel
theorem dX12_plaits_6 : decode cX12_plaits 6 = .ok (.aload_n 0, 1) := by decide +kernel
theorem dX12_plaits_7 : decode cX12_plaits 7 = .ok (.iload_n 1, 1) := by decide +kernel
theorem dX12_plaits_8 : decode cX12_plaits 8 = .ok (.iload_n 2, 1) := by decide +kernel
theorem dX12_plaits_9 : decode cX12_plaits 9 = .ok (.iload_n 3, 1) := by decide +kernel
theorem dX12_plaits_10 : decode cX12_plaits 10 = .ok (.invokevirtual 488, 3) := by decide +kernel
theorem dX12_plaits_13 : decode cX12_plaits 13 = .ok (.putfield 70, 3) := by decide +kernel
theorem dX12_plaits_16 : decode cX12_plaits 16 = .ok (.aload_n 0, 1) := by decide +kernel
theorem dX12_plaits_17 : decode cX12_plaits 17 = .ok (.getfield 70, 3) := by decide +kernel
theorem dX12_plaits_20 : decode cX12_plaits 20 = .ok (.ifCond .le 7, 3) := by decide +kernel
theorem dX12_plaits_23 : decode cX12_plaits 23 = .ok (.iconst (-1), 1) := by decide +kernel
theorem dX12_plaits_24 : decode cX12_plaits 24 = .ok (.goto 10, 3) := by decide +kernel
theorem dX12_plaits_27 : decode cX12_plaits 27 = .ok (.aload_n 0, 1) := by decide +kernel
theorem dX12_plaits_28 : decode cX12_plaits 28 = .ok (.iload_n 1, 1) := by decide +kernel
theorem dX12_plaits_29 : decode cX12_plaits 29 = .ok (.iload_n 2, 1) := by decide +kernel
theorem dX12_plaits_30 : decode cX12_plaits 30 = .ok (.iload_n 3, 1) := by decide +kernel
theorem dX12_plaits_31 : decode cX12_plaits 31 = .ok (.invokevirtual 485, 3) := by decide +kernel
theorem dX12_plaits_34 : decode cX12_plaits 34 = .ok (.ireturn, 1) := by decide +kernel
theorem mw_X12_plaits : MW yX12_plaits cX12_plaits 4 0 3 false := ⟨tm 2287 (by decide +kernel) rfl, tm 249 (by decide +kernel) rfl, by decide, by decide, (by rw [if_neg (by decide)]; exact ⟨tm 2285 (by decide +kernel) rfl, tm 2286 (by decide +kernel) rfl⟩)⟩
def M_plaits (a1 : Int) (a2 : Int) (a3 : Int) (σ : Sg) : Rs := (nm (up_s σ 0 1 0) (fun s1 => (bd (M_whyNoPlait a1 a2 a3 s1) (fun r2 s3 => (nm (up_s s3 0 0 r2) (fun s4 => (if 0 < (s4 0 0) then (some ((-1), s4)) else (bd (M_plaitsOf 20 a1 a2 a3 s4) (fun r5 s6 => (some (r5, s6)))))))))))
theorem ok_M_plaits (a1 : Int) (a2 : Int) (a3 : Int) (σ : Sg) : MC l Km Pm yX12_plaits cX12_plaits 4 0 24 [.inr (.inr 0), .inl a1, .inl a2, .inl a3] σ (M_plaits a1 a2 a3 σ) := by
  refine mc_of (by decide) (Nat.le_of_ble_eq_true rfl) ?_
  change G l Km Pm RX12 cX12_plaits 4 0 24 0 [some (.inr (.inr 0)), some (.inl a1), some (.inl a2), some (.inl a3)] [] σ (M_plaits a1 a2 a3 σ)
  unfold M_plaits
  refine g_aload_n dX12_plaits_0 rfl rfl ?_
  refine g_iconst dX12_plaits_1 (by decide) ?_
  refine g_puti fl_RX12_67 km_0 (by decide) dX12_plaits_2 ?_
  intro s1
  refine g_aload_n dX12_plaits_5 rfl rfl ?_
  refine g_aload_n dX12_plaits_6 rfl rfl ?_
  refine g_iload_n dX12_plaits_7 rfl rfl ?_
  refine g_iload_n dX12_plaits_8 rfl rfl ?_
  refine g_iload_n dX12_plaits_9 rfl rfl ?_
  refine g_callv0 (st := [.inr (.inr 0)]) 10 mw_X12_whyNoPlait lk_RX12_488 rfl km_0 (ok_M_whyNoPlait a1 a2 a3 s1) (Nat.le_of_ble_eq_true rfl) rfl rfl (Nat.le_of_ble_eq_true rfl) dX12_plaits_10 ?_
  intro r2 s3
  refine g_puti fl_RX12_70 km_0 (by decide) dX12_plaits_13 ?_
  intro s4
  refine g_aload_n dX12_plaits_16 rfl rfl ?_
  refine g_geti fl_RX12_70 km_0 (by decide) dX12_plaits_17 ?_
  refine g_ifle (tgt := 27) dX12_plaits_20 (by decide) ?_ ?_
  · refine g_iconst dX12_plaits_23 (by decide) ?_
    refine g_goto (tgt := 34) dX12_plaits_24 (by decide) ?_
    exact g_iret dX12_plaits_34
  · refine g_aload_n dX12_plaits_27 rfl rfl ?_
    refine g_iload_n dX12_plaits_28 rfl rfl ?_
    refine g_iload_n dX12_plaits_29 rfl rfl ?_
    refine g_iload_n dX12_plaits_30 rfl rfl ?_
    refine g_callv0 (st := []) 10 mw_X12_plaitsOf lk_RX12_485 rfl km_0 (ok_M_plaitsOf 20 a1 a2 a3 s4) (Nat.le_of_ble_eq_true rfl) rfl rfl (Nat.le_of_ble_eq_true rfl) dX12_plaits_31 ?_
    intro r5 s6
    exact g_iret dX12_plaits_34
theorem dX12_pour_0 : decode cX12_pour 0 = .ok (.aload_n 0, 1) := by decide +kernel
theorem dX12_pour_1 : decode cX12_pour 1 = .ok (.iconst 0, 1) := by decide +kernel
theorem dX12_pour_2 : decode cX12_pour 2 = .ok (.putfield 67, 3) := by decide +kernel
theorem dX12_pour_5 : decode cX12_pour 5 = .ok (.aload_n 0, 1) := by decide +kernel
theorem dX12_pour_6 : decode cX12_pour 6 = .ok (.iconst 0, 1) := by decide +kernel
theorem dX12_pour_7 : decode cX12_pour 7 = .ok (.putfield 70, 3) := by decide +kernel
theorem dX12_pour_10 : decode cX12_pour 10 = .ok (.iload_n 1, 1) := by decide +kernel
theorem dX12_pour_11 : decode cX12_pour 11 = .ok (.ifCond .lt 17, 3) := by decide +kernel
theorem dX12_pour_14 : decode cX12_pour 14 = .ok (.iload_n 1, 1) := by decide +kernel
theorem dX12_pour_15 : decode cX12_pour 15 = .ok (.iconst 4, 1) := by decide +kernel
theorem dX12_pour_16 : decode cX12_pour 16 = .ok (.if_icmp .ge 12, 3) := by decide +kernel
theorem dX12_pour_19 : decode cX12_pour 19 = .ok (.iload_n 3, 1) := by decide +kernel
theorem dX12_pour_20 : decode cX12_pour 20 = .ok (.ifCond .lt 8, 3) := by decide +kernel
theorem dX12_pour_23 : decode cX12_pour 23 = .ok (.iload_n 3, 1) := by decide +kernel
theorem dX12_pour_24 : decode cX12_pour 24 = .ok (.iconst 4, 1) := by decide +kernel
theorem dX12_pour_25 : decode cX12_pour 25 = .ok (.if_icmp .lt 9, 3) := by decide +kernel
theorem dX12_pour_28 : decode cX12_pour 28 = .ok (.aload_n 0, 1) := by decide +kernel
theorem dX12_pour_29 : decode cX12_pour 29 = .ok (.iconst 1, 1) := by decide +kernel
theorem dX12_pour_30 : decode cX12_pour 30 = .ok (.invokevirtual 82, 3) := by decide +kernel
theorem dX12_pour_33 : decode cX12_pour 33 = .ok (.ireturn, 1) := by decide +kernel
theorem dX12_pour_34 : decode cX12_pour 34 = .ok (.aload_n 0, 1) := by decide +kernel
theorem dX12_pour_35 : decode cX12_pour 35 = .ok (.getfield 17, 3) := by decide +kernel
theorem dX12_pour_38 : decode cX12_pour 38 = .ok (.iload_n 1, 1) := by decide +kernel
theorem dX12_pour_39 : decode cX12_pour 39 = .ok (.iaload, 1) := by decide +kernel
theorem dX12_pour_40 : decode cX12_pour 40 = .ok (.ifCond .lt 12, 3) := by decide +kernel
theorem dX12_pour_43 : decode cX12_pour 43 = .ok (.aload_n 0, 1) := by decide +kernel
theorem dX12_pour_44 : decode cX12_pour 44 = .ok (.getfield 17, 3) := by decide +kernel
theorem dX12_pour_47 : decode cX12_pour 47 = .ok (.iload_n 3, 1) := by decide +kernel
theorem dX12_pour_48 : decode cX12_pour 48 = .ok (.iaload, 1) := by decide +kernel
theorem dX12_pour_49 : decode cX12_pour 49 = .ok (.ifCond .ge 9, 3) := by decide +kernel
theorem dX12_pour_52 : decode cX12_pour 52 = .ok (.aload_n 0, 1) := by decide +kernel
theorem dX12_pour_53 : decode cX12_pour 53 = .ok (.iconst 3, 1) := by decide +kernel
theorem dX12_pour_54 : decode cX12_pour 54 = .ok (.invokevirtual 82, 3) := by decide +kernel
theorem dX12_pour_57 : decode cX12_pour 57 = .ok (.ireturn, 1) := by decide +kernel
theorem dX12_pour_58 : decode cX12_pour 58 = .ok (.aload_n 0, 1) := by decide +kernel
theorem dX12_pour_59 : decode cX12_pour 59 = .ok (.getfield 13, 3) := by decide +kernel
theorem dX12_pour_62 : decode cX12_pour 62 = .ok (.iload_n 1, 1) := by decide +kernel
theorem dX12_pour_63 : decode cX12_pour 63 = .ok (.iaload, 1) := by decide +kernel
theorem dX12_pour_64 : decode cX12_pour 64 = .ok (.aload_n 0, 1) := by decide +kernel
theorem dX12_pour_65 : decode cX12_pour 65 = .ok (.getfield 13, 3) := by decide +kernel
theorem dX12_pour_68 : decode cX12_pour 68 = .ok (.iload_n 3, 1) := by decide +kernel
theorem dX12_pour_69 : decode cX12_pour 69 = .ok (.iaload, 1) := by decide +kernel
theorem dX12_pour_70 : decode cX12_pour 70 = .ok (.if_icmp .eq 10, 3) := by decide +kernel
theorem dX12_pour_73 : decode cX12_pour 73 = .ok (.aload_n 0, 1) := by decide +kernel
theorem dX12_pour_74 : decode cX12_pour 74 = .ok (.bipush 11, 2) := by decide +kernel
theorem dX12_pour_76 : decode cX12_pour 76 = .ok (.invokevirtual 82, 3) := by decide +kernel
theorem dX12_pour_79 : decode cX12_pour 79 = .ok (.ireturn, 1) := by decide +kernel
theorem dX12_pour_80 : decode cX12_pour 80 = .ok (.iload 5, 2) := by decide +kernel
theorem dX12_pour_82 : decode cX12_pour 82 = .ok (.ifCond .ge 10, 3) := by decide +kernel
theorem dX12_pour_85 : decode cX12_pour 85 = .ok (.aload_n 0, 1) := by decide +kernel
theorem dX12_pour_86 : decode cX12_pour 86 = .ok (.bipush 6, 2) := by decide +kernel
theorem dX12_pour_88 : decode cX12_pour 88 = .ok (.invokevirtual 82, 3) := by decide +kernel
theorem dX12_pour_91 : decode cX12_pour 91 = .ok (.ireturn, 1) := by decide +kernel
theorem dX12_pour_92 : decode cX12_pour 92 = .ok (.iload_n 2, 1) := by decide +kernel
theorem dX12_pour_93 : decode cX12_pour 93 = .ok (.ifCond .lt 43, 3) := by decide +kernel
theorem dX12_pour_96 : decode cX12_pour 96 = .ok (.iload 4, 2) := by decide +kernel
theorem dX12_pour_98 : decode cX12_pour 98 = .ok (.ifCond .lt 38, 3) := by decide +kernel
theorem dX12_pour_101 : decode cX12_pour 101 = .ok (.iload_n 2, 1) := by decide +kernel
theorem dX12_pour_102 : decode cX12_pour 102 = .ok (.i2l, 1) := by decide +kernel
theorem dX12_pour_103 : decode cX12_pour 103 = .ok (.iload 5, 2) := by decide +kernel
theorem dX12_pour_105 : decode cX12_pour 105 = .ok (.i2l, 1) := by decide +kernel
theorem dX12_pour_106 : decode cX12_pour 106 = .ok (.ladd, 1) := by decide +kernel
theorem dX12_pour_107 : decode cX12_pour 107 = .ok (.aload_n 0, 1) := by decide +kernel
theorem dX12_pour_108 : decode cX12_pour 108 = .ok (.getfield 17, 3) := by decide +kernel
theorem dX12_pour_111 : decode cX12_pour 111 = .ok (.iload_n 1, 1) := by decide +kernel
theorem dX12_pour_112 : decode cX12_pour 112 = .ok (.iaload, 1) := by decide +kernel
theorem dX12_pour_113 : decode cX12_pour 113 = .ok (.i2l, 1) := by decide +kernel
theorem dX12_pour_114 : decode cX12_pour 114 = .ok (.lcmp, 1) := by decide +kernel
theorem dX12_pour_115 : decode cX12_pour 115 = .ok (.ifCond .gt 21, 3) := by decide +kernel
theorem dX12_pour_118 : decode cX12_pour 118 = .ok (.iload 4, 2) := by decide +kernel
theorem dX12_pour_120 : decode cX12_pour 120 = .ok (.i2l, 1) := by decide +kernel
theorem dX12_pour_121 : decode cX12_pour 121 = .ok (.iload 5, 2) := by decide +kernel
theorem dX12_pour_123 : decode cX12_pour 123 = .ok (.i2l, 1) := by decide +kernel
theorem dX12_pour_124 : decode cX12_pour 124 = .ok (.ladd, 1) := by decide +kernel
theorem dX12_pour_125 : decode cX12_pour 125 = .ok (.aload_n 0, 1) := by decide +kernel
theorem dX12_pour_126 : decode cX12_pour 126 = .ok (.getfield 17, 3) := by decide +kernel
theorem dX12_pour_129 : decode cX12_pour 129 = .ok (.iload_n 3, 1) := by decide +kernel
theorem dX12_pour_130 : decode cX12_pour 130 = .ok (.iaload, 1) := by decide +kernel
theorem dX12_pour_131 : decode cX12_pour 131 = .ok (.i2l, 1) := by decide +kernel
theorem dX12_pour_132 : decode cX12_pour 132 = .ok (.lcmp, 1) := by decide +kernel
theorem dX12_pour_133 : decode cX12_pour 133 = .ok (.ifCond .le 9, 3) := by decide +kernel
theorem dX12_pour_136 : decode cX12_pour 136 = .ok (.aload_n 0, 1) := by decide +kernel
theorem dX12_pour_137 : decode cX12_pour 137 = .ok (.iconst 4, 1) := by decide +kernel
theorem dX12_pour_138 : decode cX12_pour 138 = .ok (.invokevirtual 82, 3) := by decide +kernel
theorem dX12_pour_141 : decode cX12_pour 141 = .ok (.ireturn, 1) := by decide +kernel
theorem dX12_pour_142 : decode cX12_pour 142 = .ok (.iload_n 2, 1) := by decide +kernel
theorem dX12_pour_143 : decode cX12_pour 143 = .ok (.iload 4, 2) := by decide +kernel
theorem dX12_pour_145 : decode cX12_pour 145 = .ok (.if_icmp .ge 7, 3) := by decide +kernel
theorem dX12_pour_148 : decode cX12_pour 148 = .ok (.iconst 1, 1) := by decide +kernel
theorem dX12_pour_149 : decode cX12_pour 149 = .ok (.goto 4, 3) := by decide +kernel
theorem dX12_pour_152 : decode cX12_pour 152 = .ok (.iconst 0, 1) := by decide +kernel
theorem dX12_pour_153 : decode cX12_pour 153 = .ok (.istore 6, 2) := by decide +kernel
theorem dX12_pour_155 : decode cX12_pour 155 = .ok (.iconst 0, 1) := by decide +kernel
theorem dX12_pour_156 : decode cX12_pour 156 = .ok (.istore 7, 2) := by decide +kernel
theorem dX12_pour_158 : decode cX12_pour 158 = .ok (.iload 7, 2) := by decide +kernel
theorem dX12_pour_160 : decode cX12_pour 160 = .ok (.iload 5, 2) := by decide +kernel
theorem dX12_pour_162 : decode cX12_pour 162 = .ok (.if_icmp .ge 57, 3) := by decide +kernel
theorem dX12_pour_165 : decode cX12_pour 165 = .ok (.iload 6, 2) := by decide +kernel
theorem dX12_pour_167 : decode cX12_pour 167 = .ok (.ifCond .eq 13, 3) := by decide +kernel
theorem dX12_pour_170 : decode cX12_pour 170 = .ok (.iload 5, 2) := by decide +kernel
theorem dX12_pour_172 : decode cX12_pour 172 = .ok (.iconst 1, 1) := by decide +kernel
theorem dX12_pour_173 : decode cX12_pour 173 = .ok (.isub, 1) := by decide +kernel
theorem dX12_pour_174 : decode cX12_pour 174 = .ok (.iload 7, 2) := by decide +kernel
theorem dX12_pour_176 : decode cX12_pour 176 = .ok (.isub, 1) := by decide +kernel
theorem dX12_pour_177 : decode cX12_pour 177 = .ok (.goto 5, 3) := by decide +kernel
theorem dX12_pour_180 : decode cX12_pour 180 = .ok (.iload 7, 2) := by decide +kernel
theorem dX12_pour_182 : decode cX12_pour 182 = .ok (.istore 8, 2) := by decide +kernel
theorem dX12_pour_184 : decode cX12_pour 184 = .ok (.aload_n 0, 1) := by decide +kernel
theorem dX12_pour_185 : decode cX12_pour 185 = .ok (.getfield 20, 3) := by decide +kernel
theorem dX12_pour_188 : decode cX12_pour 188 = .ok (.bipush 60, 2) := by decide +kernel
theorem dX12_pour_190 : decode cX12_pour 190 = .ok (.iload_n 3, 1) := by decide +kernel
theorem dX12_pour_191 : decode cX12_pour 191 = .ok (.imul, 1) := by decide +kernel
theorem dX12_pour_192 : decode cX12_pour 192 = .ok (.iload 4, 2) := by decide +kernel
theorem dX12_pour_194 : decode cX12_pour 194 = .ok (.iadd, 1) := by decide +kernel
theorem dX12_pour_195 : decode cX12_pour 195 = .ok (.iload 8, 2) := by decide +kernel
theorem dX12_pour_197 : decode cX12_pour 197 = .ok (.iadd, 1) := by decide +kernel
theorem dX12_pour_198 : decode cX12_pour 198 = .ok (.aload_n 0, 1) := by decide +kernel
theorem dX12_pour_199 : decode cX12_pour 199 = .ok (.getfield 20, 3) := by decide +kernel
theorem dX12_pour_202 : decode cX12_pour 202 = .ok (.bipush 60, 2) := by decide +kernel
theorem dX12_pour_204 : decode cX12_pour 204 = .ok (.iload_n 1, 1) := by decide +kernel
theorem dX12_pour_205 : decode cX12_pour 205 = .ok (.imul, 1) := by decide +kernel
theorem dX12_pour_206 : decode cX12_pour 206 = .ok (.iload_n 2, 1) := by decide +kernel
theorem dX12_pour_207 : decode cX12_pour 207 = .ok (.iadd, 1) := by decide +kernel
theorem dX12_pour_208 : decode cX12_pour 208 = .ok (.iload 8, 2) := by decide +kernel
theorem dX12_pour_210 : decode cX12_pour 210 = .ok (.iadd, 1) := by decide +kernel
theorem dX12_pour_211 : decode cX12_pour 211 = .ok (.laload, 1) := by decide +kernel
theorem dX12_pour_212 : decode cX12_pour 212 = .ok (.lastore, 1) := by decide +kernel
theorem dX12_pour_213 : decode cX12_pour 213 = .ok (.iinc 7 1, 3) := by decide +kernel
theorem dX12_pour_216 : decode cX12_pour 216 = .ok (.goto (-58), 3) := by decide +kernel
theorem dX12_pour_219 : decode cX12_pour 219 = .ok (.iconst 1, 1) := by decide +kernel
theorem dX12_pour_220 : decode cX12_pour 220 = .ok (.ireturn, 1) := by decide +kernel
theorem mw_X12_pour : MW yX12_pour cX12_pour 9 3 5 false := ⟨tm 1745 (by decide +kernel) rfl, tm 249 (by decide +kernel) rfl, by decide, by decide, (by rw [if_neg (by decide)]; exact ⟨tm 1743 (by decide +kernel) rfl, tm 1744 (by decide +kernel) rfl⟩)⟩
def M_pour_J182 (a1 : Int) (a2 : Int) (a3 : Int) (a4 : Int) (a5 : Int) (v6 : Int) (v7 : Int) (k158 : Int → Sg → Rs) (t0 : Int) (σ : Sg) : Rs := (rd 240 (w32 ((w32 ((w32 (60 * a1)) + a2)) + t0)) (σ 3 (Int.toNat (w32 ((w32 ((w32 (60 * a1)) + a2)) + t0)))) (fun x27 => (wr 240 (w32 ((w32 ((w32 (60 * a3)) + a4)) + t0)) (up_s σ 3 (Int.toNat (w32 ((w32 ((w32 (60 * a3)) + a4)) + t0))) x27) (fun s28 => (nm (w32 (v7 + 1)) (fun x29 => (k158 x29 s28)))))))
theorem ok_M_pour_J182 (a1 : Int) (a2 : Int) (a3 : Int) (a4 : Int) (a5 : Int) (v6 : Int) (v7 : Int) (k158 : Int → Sg → Rs) (hk158 : ∀ (y7 : Int) (σ : Sg), G l Km Pm RX12 cX12_pour 9 3 2 158 [some (.inr (.inr 0)), some (.inl a1), some (.inl a2), some (.inl a3), some (.inl a4), some (.inl a5), some (.inl v6), some (.inl y7), none] [] σ (k158 y7 σ)) : ∀ (t0 : Int) (σ : Sg), G l Km Pm RX12 cX12_pour 9 3 2 182 [some (.inr (.inr 0)), some (.inl a1), some (.inl a2), some (.inl a3), some (.inl a4), some (.inl a5), some (.inl v6), some (.inl v7), none] [.inl t0] σ (M_pour_J182 a1 a2 a3 a4 a5 v6 v7 k158 t0 σ) := by
  intro t0 σ
  unfold M_pour_J182
  refine g_istore (lv' := [some (.inr (.inr 0)), some (.inl a1), some (.inl a2), some (.inl a3), some (.inl a4), some (.inl a5), some (.inl v6), some (.inl v7), some (.inl t0)]) dX12_pour_182 (Nat.le_of_ble_eq_true rfl) rfl ?_
  refine g_aload_n dX12_pour_184 rfl rfl ?_
  refine g_getr' (q := 3) fl_RX12_20 km_0 (by decide) rfl dX12_pour_185 ?_
  refine g_bipush dX12_pour_188 (by decide) ?_
  refine g_iload_n dX12_pour_190 rfl rfl ?_
  refine g_imul dX12_pour_191 ?_
  refine g_iload dX12_pour_192 rfl ?_
  refine g_iadd dX12_pour_194 ?_
  refine g_iload dX12_pour_195 rfl ?_
  refine g_iadd dX12_pour_197 ?_
  refine g_aload_n dX12_pour_198 rfl rfl ?_
  refine g_getr' (q := 3) fl_RX12_20 km_0 (by decide) rfl dX12_pour_199 ?_
  refine g_bipush dX12_pour_202 (by decide) ?_
  refine g_iload_n dX12_pour_204 rfl rfl ?_
  refine g_imul dX12_pour_205 ?_
  refine g_iload_n dX12_pour_206 rfl rfl ?_
  refine g_iadd dX12_pour_207 ?_
  refine g_iload dX12_pour_208 rfl ?_
  refine g_iadd dX12_pour_210 ?_
  refine g_lald km_3 dX12_pour_211 ?_
  intro x27
  refine g_last km_3 dX12_pour_212 ?_
  intro s28
  refine n_iinc (fun x29 => [some (.inr (.inr 0)), some (.inl a1), some (.inl a2), some (.inl a3), some (.inl a4), some (.inl a5), some (.inl v6), some (.inl x29), some (.inl t0)]) dX12_pour_213 rfl (Nat.le_of_ble_eq_true rfl) (fun _ => rfl) ?_
  intro x29
  refine g_goto (tgt := 158) dX12_pour_216 (by decide) ?_
  exact (g_weak [true, true, true, true, true, true, true, true, false] (hk158 x29 s28))
def M_pour_L158 (a1 : Int) (a2 : Int) (a3 : Int) (a4 : Int) (a5 : Int) (v6 : Int) : Nat → Int → Sg → Rs
  | 0, _, _ => none
  | n + 1, v7, σ => (if v7 < a5 then (if v6 = 0 then (M_pour_J182 a1 a2 a3 a4 a5 v6 v7 (fun x30 s31 => (M_pour_L158 a1 a2 a3 a4 a5 v6 n x30 s31)) v7 σ) else (M_pour_J182 a1 a2 a3 a4 a5 v6 v7 (fun x32 s33 => (M_pour_L158 a1 a2 a3 a4 a5 v6 n x32 s33)) (w32 ((w32 (a5 - 1)) - v7)) σ)) else (some (1, σ)))
theorem ok_M_pour_L158 (a1 : Int) (a2 : Int) (a3 : Int) (a4 : Int) (a5 : Int) (v6 : Int) : ∀ (n : Nat) (v7 : Int) (σ : Sg), G l Km Pm RX12 cX12_pour 9 3 2 158 [some (.inr (.inr 0)), some (.inl a1), some (.inl a2), some (.inl a3), some (.inl a4), some (.inl a5), some (.inl v6), some (.inl v7), none] [] σ (M_pour_L158 a1 a2 a3 a4 a5 v6 n v7 σ) := by
  intro n
  induction n with
  | zero => intros; exact G.none_
  | succ n ih =>
    intro v7 σ
    rw [M_pour_L158]
    refine g_iload dX12_pour_158 rfl ?_
    refine g_iload dX12_pour_160 rfl ?_
    refine g_icmpge (tgt := 219) dX12_pour_162 (by decide) ?_ ?_
    · refine g_iload dX12_pour_165 rfl ?_
      refine g_ifeq (tgt := 180) dX12_pour_167 (by decide) ?_ ?_
      · refine g_iload dX12_pour_180 rfl ?_
        refine (ok_M_pour_J182 a1 a2 a3 a4 a5 v6 v7 _ ?_ v7 σ)
        · intro x30 s31
          exact (ih x30 s31)
      · refine g_iload dX12_pour_170 rfl ?_
        refine g_iconst dX12_pour_172 (by decide) ?_
        refine g_isub dX12_pour_173 ?_
        refine g_iload dX12_pour_174 rfl ?_
        refine g_isub dX12_pour_176 ?_
        refine g_goto (tgt := 182) dX12_pour_177 (by decide) ?_
        refine (ok_M_pour_J182 a1 a2 a3 a4 a5 v6 v7 _ ?_ (w32 ((w32 (a5 - 1)) - v7)) σ)
        · intro x32 s33
          exact (ih x32 s33)
    · refine g_iconst dX12_pour_219 (by decide) ?_
      exact g_zret1 dX12_pour_220
def M_pour (a1 : Int) (a2 : Int) (a3 : Int) (a4 : Int) (a5 : Int) (σ : Sg) : Rs := (nm (up_s σ 0 1 0) (fun s1 => (nm (up_s s1 0 0 0) (fun s2 => (if a1 < 0 then (bd (M_no 1 s2) (fun r3 s4 => (zb r3 (some (r3, s4))))) else (if a1 < 4 then (if a3 < 0 then (bd (M_no 1 s2) (fun r5 s6 => (zb r5 (some (r5, s6))))) else (if a3 < 4 then (rd 4 a1 (s2 2 (Int.toNat a1)) (fun x7 => (if x7 < 0 then (bd (M_no 3 s2) (fun r8 s9 => (zb r8 (some (r8, s9))))) else (rd 4 a3 (s2 2 (Int.toNat a3)) (fun x10 => (if x10 < 0 then (bd (M_no 3 s2) (fun r11 s12 => (zb r11 (some (r11, s12))))) else (rd 4 a1 (s2 1 (Int.toNat a1)) (fun x13 => (rd 4 a3 (s2 1 (Int.toNat a3)) (fun x14 => (if x13 = x14 then (if a5 < 0 then (bd (M_no 6 s2) (fun r15 s16 => (zb r15 (some (r15, s16))))) else (if a2 < 0 then (bd (M_no 4 s2) (fun r17 s18 => (zb r17 (some (r17, s18))))) else (if a4 < 0 then (bd (M_no 4 s2) (fun r19 s20 => (zb r19 (some (r19, s20))))) else (rd 4 a1 (s2 2 (Int.toNat a1)) (fun x21 => (if x21 < (w64 (a2 + a5)) then (bd (M_no 4 s2) (fun r22 s23 => (zb r22 (some (r22, s23))))) else (rd 4 a3 (s2 2 (Int.toNat a3)) (fun x24 => (if x24 < (w64 (a4 + a5)) then (bd (M_no 4 s2) (fun r25 s26 => (zb r25 (some (r25, s26))))) else (if a2 < a4 then (M_pour_L158 a1 a2 a3 a4 a5 1 fu 0 s2) else (M_pour_L158 a1 a2 a3 a4 a5 0 fu 0 s2))))))))))) else (bd (M_no 11 s2) (fun r34 s35 => (zb r34 (some (r34, s35)))))))))))))))) else (bd (M_no 1 s2) (fun r36 s37 => (zb r36 (some (r36, s37))))))) else (bd (M_no 1 s2) (fun r38 s39 => (zb r38 (some (r38, s39)))))))))))
theorem ok_M_pour (a1 : Int) (a2 : Int) (a3 : Int) (a4 : Int) (a5 : Int) (σ : Sg) : MC l Km Pm yX12_pour cX12_pour 9 3 2 [.inr (.inr 0), .inl a1, .inl a2, .inl a3, .inl a4, .inl a5] σ (M_pour a1 a2 a3 a4 a5 σ) := by
  refine mc_of (by decide) (Nat.le_of_ble_eq_true rfl) ?_
  change G l Km Pm RX12 cX12_pour 9 3 2 0 [some (.inr (.inr 0)), some (.inl a1), some (.inl a2), some (.inl a3), some (.inl a4), some (.inl a5), none, none, none] [] σ (M_pour a1 a2 a3 a4 a5 σ)
  unfold M_pour
  refine g_aload_n dX12_pour_0 rfl rfl ?_
  refine g_iconst dX12_pour_1 (by decide) ?_
  refine g_puti fl_RX12_67 km_0 (by decide) dX12_pour_2 ?_
  intro s1
  refine g_aload_n dX12_pour_5 rfl rfl ?_
  refine g_iconst dX12_pour_6 (by decide) ?_
  refine g_puti fl_RX12_70 km_0 (by decide) dX12_pour_7 ?_
  intro s2
  refine g_iload_n dX12_pour_10 rfl rfl ?_
  refine g_iflt (tgt := 28) dX12_pour_11 (by decide) ?_ ?_
  · refine g_aload_n dX12_pour_28 rfl rfl ?_
    refine g_iconst dX12_pour_29 (by decide) ?_
    refine g_callv3 (st := []) 10 mw_X12_no lk_RX12_82 rfl km_0 (ok_M_no 1 s2) (Nat.le_of_ble_eq_true rfl) rfl rfl (Nat.le_of_ble_eq_true rfl) dX12_pour_30 ?_
    intro r3 s4
    exact g_zret dX12_pour_33
  · refine g_iload_n dX12_pour_14 rfl rfl ?_
    refine g_iconst dX12_pour_15 (by decide) ?_
    refine g_icmpge (tgt := 28) dX12_pour_16 (by decide) ?_ ?_
    · refine g_iload_n dX12_pour_19 rfl rfl ?_
      refine g_iflt (tgt := 28) dX12_pour_20 (by decide) ?_ ?_
      · refine g_aload_n dX12_pour_28 rfl rfl ?_
        refine g_iconst dX12_pour_29 (by decide) ?_
        refine g_callv3 (st := []) 10 mw_X12_no lk_RX12_82 rfl km_0 (ok_M_no 1 s2) (Nat.le_of_ble_eq_true rfl) rfl rfl (Nat.le_of_ble_eq_true rfl) dX12_pour_30 ?_
        intro r5 s6
        exact g_zret dX12_pour_33
      · refine g_iload_n dX12_pour_23 rfl rfl ?_
        refine g_iconst dX12_pour_24 (by decide) ?_
        refine g_icmplt (tgt := 34) dX12_pour_25 (by decide) ?_ ?_
        · refine g_aload_n dX12_pour_34 rfl rfl ?_
          refine g_getr' (q := 2) fl_RX12_17 km_0 (by decide) rfl dX12_pour_35 ?_
          refine g_iload_n dX12_pour_38 rfl rfl ?_
          refine g_iald km_2 dX12_pour_39 ?_
          intro x7
          refine g_iflt (tgt := 52) dX12_pour_40 (by decide) ?_ ?_
          · refine g_aload_n dX12_pour_52 rfl rfl ?_
            refine g_iconst dX12_pour_53 (by decide) ?_
            refine g_callv3 (st := []) 10 mw_X12_no lk_RX12_82 rfl km_0 (ok_M_no 3 s2) (Nat.le_of_ble_eq_true rfl) rfl rfl (Nat.le_of_ble_eq_true rfl) dX12_pour_54 ?_
            intro r8 s9
            exact g_zret dX12_pour_57
          · refine g_aload_n dX12_pour_43 rfl rfl ?_
            refine g_getr' (q := 2) fl_RX12_17 km_0 (by decide) rfl dX12_pour_44 ?_
            refine g_iload_n dX12_pour_47 rfl rfl ?_
            refine g_iald km_2 dX12_pour_48 ?_
            intro x10
            refine g_ifge (tgt := 58) dX12_pour_49 (by decide) ?_ ?_
            · refine g_aload_n dX12_pour_52 rfl rfl ?_
              refine g_iconst dX12_pour_53 (by decide) ?_
              refine g_callv3 (st := []) 10 mw_X12_no lk_RX12_82 rfl km_0 (ok_M_no 3 s2) (Nat.le_of_ble_eq_true rfl) rfl rfl (Nat.le_of_ble_eq_true rfl) dX12_pour_54 ?_
              intro r11 s12
              exact g_zret dX12_pour_57
            · refine g_aload_n dX12_pour_58 rfl rfl ?_
              refine g_getr' (q := 1) fl_RX12_13 km_0 (by decide) rfl dX12_pour_59 ?_
              refine g_iload_n dX12_pour_62 rfl rfl ?_
              refine g_iald km_1 dX12_pour_63 ?_
              intro x13
              refine g_aload_n dX12_pour_64 rfl rfl ?_
              refine g_getr' (q := 1) fl_RX12_13 km_0 (by decide) rfl dX12_pour_65 ?_
              refine g_iload_n dX12_pour_68 rfl rfl ?_
              refine g_iald km_1 dX12_pour_69 ?_
              intro x14
              refine g_icmpeq (tgt := 80) dX12_pour_70 (by decide) ?_ ?_
              · refine g_iload dX12_pour_80 rfl ?_
                refine g_ifge (tgt := 92) dX12_pour_82 (by decide) ?_ ?_
                · refine g_aload_n dX12_pour_85 rfl rfl ?_
                  refine g_bipush dX12_pour_86 (by decide) ?_
                  refine g_callv3 (st := []) 10 mw_X12_no lk_RX12_82 rfl km_0 (ok_M_no 6 s2) (Nat.le_of_ble_eq_true rfl) rfl rfl (Nat.le_of_ble_eq_true rfl) dX12_pour_88 ?_
                  intro r15 s16
                  exact g_zret dX12_pour_91
                · refine g_iload_n dX12_pour_92 rfl rfl ?_
                  refine g_iflt (tgt := 136) dX12_pour_93 (by decide) ?_ ?_
                  · refine g_aload_n dX12_pour_136 rfl rfl ?_
                    refine g_iconst dX12_pour_137 (by decide) ?_
                    refine g_callv3 (st := []) 10 mw_X12_no lk_RX12_82 rfl km_0 (ok_M_no 4 s2) (Nat.le_of_ble_eq_true rfl) rfl rfl (Nat.le_of_ble_eq_true rfl) dX12_pour_138 ?_
                    intro r17 s18
                    exact g_zret dX12_pour_141
                  · refine g_iload dX12_pour_96 rfl ?_
                    refine g_iflt (tgt := 136) dX12_pour_98 (by decide) ?_ ?_
                    · refine g_aload_n dX12_pour_136 rfl rfl ?_
                      refine g_iconst dX12_pour_137 (by decide) ?_
                      refine g_callv3 (st := []) 10 mw_X12_no lk_RX12_82 rfl km_0 (ok_M_no 4 s2) (Nat.le_of_ble_eq_true rfl) rfl rfl (Nat.le_of_ble_eq_true rfl) dX12_pour_138 ?_
                      intro r19 s20
                      exact g_zret dX12_pour_141
                    · refine g_iload_n dX12_pour_101 rfl rfl ?_
                      refine g_i2l dX12_pour_102 ?_
                      refine g_iload dX12_pour_103 rfl ?_
                      refine g_i2l dX12_pour_105 ?_
                      refine g_ladd dX12_pour_106 ?_
                      refine g_aload_n dX12_pour_107 rfl rfl ?_
                      refine g_getr' (q := 2) fl_RX12_17 km_0 (by decide) rfl dX12_pour_108 ?_
                      refine g_iload_n dX12_pour_111 rfl rfl ?_
                      refine g_iald km_2 dX12_pour_112 ?_
                      intro x21
                      refine g_i2l dX12_pour_113 ?_
                      refine g_lcmpgt (tgt := 136) dX12_pour_114 dX12_pour_115 (by decide) ?_ ?_
                      · refine g_aload_n dX12_pour_136 rfl rfl ?_
                        refine g_iconst dX12_pour_137 (by decide) ?_
                        refine g_callv3 (st := []) 10 mw_X12_no lk_RX12_82 rfl km_0 (ok_M_no 4 s2) (Nat.le_of_ble_eq_true rfl) rfl rfl (Nat.le_of_ble_eq_true rfl) dX12_pour_138 ?_
                        intro r22 s23
                        exact g_zret dX12_pour_141
                      · refine g_iload dX12_pour_118 rfl ?_
                        refine g_i2l dX12_pour_120 ?_
                        refine g_iload dX12_pour_121 rfl ?_
                        refine g_i2l dX12_pour_123 ?_
                        refine g_ladd dX12_pour_124 ?_
                        refine g_aload_n dX12_pour_125 rfl rfl ?_
                        refine g_getr' (q := 2) fl_RX12_17 km_0 (by decide) rfl dX12_pour_126 ?_
                        refine g_iload_n dX12_pour_129 rfl rfl ?_
                        refine g_iald km_2 dX12_pour_130 ?_
                        intro x24
                        refine g_i2l dX12_pour_131 ?_
                        refine g_lcmple (tgt := 142) dX12_pour_132 dX12_pour_133 (by decide) ?_ ?_
                        · refine g_aload_n dX12_pour_136 rfl rfl ?_
                          refine g_iconst dX12_pour_137 (by decide) ?_
                          refine g_callv3 (st := []) 10 mw_X12_no lk_RX12_82 rfl km_0 (ok_M_no 4 s2) (Nat.le_of_ble_eq_true rfl) rfl rfl (Nat.le_of_ble_eq_true rfl) dX12_pour_138 ?_
                          intro r25 s26
                          exact g_zret dX12_pour_141
                        · refine g_iload_n dX12_pour_142 rfl rfl ?_
                          refine g_iload dX12_pour_143 rfl ?_
                          refine g_icmpge (tgt := 152) dX12_pour_145 (by decide) ?_ ?_
                          · refine g_iconst dX12_pour_148 (by decide) ?_
                            refine g_goto (tgt := 153) dX12_pour_149 (by decide) ?_
                            refine g_istore (lv' := [some (.inr (.inr 0)), some (.inl a1), some (.inl a2), some (.inl a3), some (.inl a4), some (.inl a5), some (.inl 1), none, none]) dX12_pour_153 (Nat.le_of_ble_eq_true rfl) rfl ?_
                            refine g_iconst dX12_pour_155 (by decide) ?_
                            refine g_istore (lv' := [some (.inr (.inr 0)), some (.inl a1), some (.inl a2), some (.inl a3), some (.inl a4), some (.inl a5), some (.inl 1), some (.inl 0), none]) dX12_pour_156 (Nat.le_of_ble_eq_true rfl) rfl ?_
                            refine (ok_M_pour_L158 a1 a2 a3 a4 a5 1 fu 0 s2)
                          · refine g_iconst dX12_pour_152 (by decide) ?_
                            refine g_istore (lv' := [some (.inr (.inr 0)), some (.inl a1), some (.inl a2), some (.inl a3), some (.inl a4), some (.inl a5), some (.inl 0), none, none]) dX12_pour_153 (Nat.le_of_ble_eq_true rfl) rfl ?_
                            refine g_iconst dX12_pour_155 (by decide) ?_
                            refine g_istore (lv' := [some (.inr (.inr 0)), some (.inl a1), some (.inl a2), some (.inl a3), some (.inl a4), some (.inl a5), some (.inl 0), some (.inl 0), none]) dX12_pour_156 (Nat.le_of_ble_eq_true rfl) rfl ?_
                            refine (ok_M_pour_L158 a1 a2 a3 a4 a5 0 fu 0 s2)
              · refine g_aload_n dX12_pour_73 rfl rfl ?_
                refine g_bipush dX12_pour_74 (by decide) ?_
                refine g_callv3 (st := []) 10 mw_X12_no lk_RX12_82 rfl km_0 (ok_M_no 11 s2) (Nat.le_of_ble_eq_true rfl) rfl rfl (Nat.le_of_ble_eq_true rfl) dX12_pour_76 ?_
                intro r34 s35
                exact g_zret dX12_pour_79
        · refine g_aload_n dX12_pour_28 rfl rfl ?_
          refine g_iconst dX12_pour_29 (by decide) ?_
          refine g_callv3 (st := []) 10 mw_X12_no lk_RX12_82 rfl km_0 (ok_M_no 1 s2) (Nat.le_of_ble_eq_true rfl) rfl rfl (Nat.le_of_ble_eq_true rfl) dX12_pour_30 ?_
          intro r36 s37
          exact g_zret dX12_pour_33
    · refine g_aload_n dX12_pour_28 rfl rfl ?_
      refine g_iconst dX12_pour_29 (by decide) ?_
      refine g_callv3 (st := []) 10 mw_X12_no lk_RX12_82 rfl km_0 (ok_M_no 1 s2) (Nat.le_of_ble_eq_true rfl) rfl rfl (Nat.le_of_ble_eq_true rfl) dX12_pour_30 ?_
      intro r38 s39
      exact g_zret dX12_pour_33
theorem dX12_told_0 : decode cX12_told 0 = .ok (.aload_n 0, 1) := by decide +kernel
theorem dX12_told_1 : decode cX12_told 1 = .ok (.getfield 211, 3) := by decide +kernel
theorem dX12_told_4 : decode cX12_told 4 = .ok (.ifCond .ne 14, 3) := by decide +kernel
theorem dX12_told_7 : decode cX12_told 7 = .ok (.aload_n 0, 1) := by decide +kernel
theorem dX12_told_8 : decode cX12_told 8 = .ok (.invokevirtual 240, 3) := by decide +kernel
theorem dX12_told_11 : decode cX12_told 11 = .ok (.ifCond .ne 7, 3) := by decide +kernel
theorem dX12_told_14 : decode cX12_told 14 = .ok (.aload_n 0, 1) := by decide +kernel
theorem dX12_told_15 : decode cX12_told 15 = .ok (.invokevirtual 224, 3) := by decide +kernel
theorem dX12_told_18 : decode cX12_told 18 = .ok (.aload_n 0, 1) := by decide +kernel
theorem dX12_told_19 : decode cX12_told 19 = .ok (.getfield 211, 3) := by decide +kernel
theorem dX12_told_22 : decode cX12_told 22 = .ok (.ifCond .le 5, 3) := by decide +kernel
theorem dX12_told_25 : decode cX12_told 25 = .ok (.iconst 0, 1) := by decide +kernel
theorem dX12_told_26 : decode cX12_told 26 = .ok (.ireturn, 1) := by decide +kernel
theorem dX12_told_27 : decode cX12_told 27 = .ok (.aload_n 0, 1) := by decide +kernel
theorem dX12_told_28 : decode cX12_told 28 = .ok (.iload_n 1, 1) := by decide +kernel
theorem dX12_told_29 : decode cX12_told 29 = .ok (.iload_n 2, 1) := by decide +kernel
theorem dX12_told_30 : decode cX12_told 30 = .ok (.invokevirtual 243, 3) := by decide +kernel
theorem dX12_told_33 : decode cX12_told 33 = .ok (.istore_n 3, 1) := by decide +kernel
theorem dX12_told_34 : decode cX12_told 34 = .ok (.iload_n 3, 1) := by decide +kernel
theorem dX12_told_35 : decode cX12_told 35 = .ok (.ifCond .ge 12, 3) := by decide +kernel
theorem dX12_told_38 : decode cX12_told 38 = .ok (.aload_n 0, 1) := by decide +kernel
theorem dX12_told_39 : decode cX12_told 39 = .ok (.iconst 3, 1) := by decide +kernel
theorem dX12_told_40 : decode cX12_told 40 = .ok (.aload_n 0, 1) := by decide +kernel
theorem dX12_told_41 : decode cX12_told 41 = .ok (.getfield 116, 3) := by decide +kernel
theorem dX12_told_44 : decode cX12_told 44 = .ok (.invokevirtual 217, 3) := by decide +kernel
theorem dX12_told_47 : decode cX12_told 47 = .ok (.iconst 0, 1) := by decide +kernel
theorem dX12_told_48 : decode cX12_told 48 = .ok (.iload_n 3, 1) := by decide +kernel
theorem dX12_told_49 : decode cX12_told 49 = .ok (.invokestatic 246, 3) := by decide +kernel
theorem dX12_told_52 : decode cX12_told 52 = .ok (.ireturn, 1) := by decide +kernel
theorem mw_X12_told : MW yX12_told cX12_told 4 0 2 false := ⟨tm 1922 (by decide +kernel) rfl, tm 249 (by decide +kernel) rfl, by decide, by decide, (by rw [if_neg (by decide)]; exact ⟨tm 1921 (by decide +kernel) rfl, tm 161 (by decide +kernel) rfl⟩)⟩
theorem lk_RX12_240 : LK RX12 240 yX12_isName := Or.inl (tm 1839 (by decide +kernel) rfl)
theorem lk_RX12_243 : LK RX12 243 yX12_named := Or.inl (tm 1903 (by decide +kernel) rfl)
def M_told_J18 (a1 : Int) (a2 : Int) (σ : Sg) : Rs := (if 0 < (σ 0 12) then (some (0, σ)) else (bd (M_named a1 a2 σ) (fun r5 s6 => (if r5 < 0 then (bd (M_fail 3 (s6 0 15) s6) (fun r7 s8 => (some ((max 0 r5), s8)))) else (some ((max 0 r5), s6))))))
theorem ok_M_told_J18 (a1 : Int) (a2 : Int) : ∀ (σ : Sg), G l Km Pm RX12 cX12_told 4 0 5 18 [some (.inr (.inr 0)), some (.inl a1), some (.inl a2), none] [] σ (M_told_J18 a1 a2  σ) := by
  intro σ
  unfold M_told_J18
  refine g_aload_n dX12_told_18 rfl rfl ?_
  refine g_geti fl_RX12_211 km_0 (by decide) dX12_told_19 ?_
  refine g_ifle (tgt := 27) dX12_told_22 (by decide) ?_ ?_
  · refine g_iconst dX12_told_25 (by decide) ?_
    exact g_iret dX12_told_26
  · refine g_aload_n dX12_told_27 rfl rfl ?_
    refine g_iload_n dX12_told_28 rfl rfl ?_
    refine g_iload_n dX12_told_29 rfl rfl ?_
    refine g_callv0 (st := []) 10 mw_X12_named lk_RX12_243 rfl km_0 (ok_M_named a1 a2 σ) (Nat.le_of_ble_eq_true rfl) rfl rfl (Nat.le_of_ble_eq_true rfl) dX12_told_30 ?_
    intro r5 s6
    refine g_istore_n (lv' := [some (.inr (.inr 0)), some (.inl a1), some (.inl a2), some (.inl r5)]) dX12_told_33 rfl (Nat.le_of_ble_eq_true rfl) rfl ?_
    refine g_iload_n dX12_told_34 rfl rfl ?_
    refine g_ifge (tgt := 47) dX12_told_35 (by decide) ?_ ?_
    · refine g_aload_n dX12_told_38 rfl rfl ?_
      refine g_iconst dX12_told_39 (by decide) ?_
      refine g_aload_n dX12_told_40 rfl rfl ?_
      refine g_geti fl_RX12_116 km_0 (by decide) dX12_told_41 ?_
      refine g_callv2 (st := []) 10 mw_X12_fail lk_RX12_217 rfl km_0 (ok_M_fail 3 (s6 0 15) s6) (Nat.le_of_ble_eq_true rfl) rfl rfl (Nat.le_of_ble_eq_true rfl) dX12_told_44 ?_
      intro r7 s8
      refine g_iconst dX12_told_47 (by decide) ?_
      refine g_iload_n dX12_told_48 rfl rfl ?_
      refine g_mmax mx_RX12_246 (Nat.le_of_ble_eq_true rfl) (Nat.le_of_ble_eq_true rfl) dX12_told_49 ?_
      exact g_iret dX12_told_52
    · refine g_iconst dX12_told_47 (by decide) ?_
      refine g_iload_n dX12_told_48 rfl rfl ?_
      refine g_mmax mx_RX12_246 (Nat.le_of_ble_eq_true rfl) (Nat.le_of_ble_eq_true rfl) dX12_told_49 ?_
      exact g_iret dX12_told_52
def M_told (a1 : Int) (a2 : Int) (σ : Sg) : Rs := (if (σ 0 12) = 0 then (bd (M_isName σ) (fun r1 s2 => (if r1 = 0 then (bd (M_amiss s2) (fun r3 s4 => (M_told_J18 a1 a2 s4))) else (M_told_J18 a1 a2 s2)))) else (M_told_J18 a1 a2 σ))
theorem ok_M_told (a1 : Int) (a2 : Int) (σ : Sg) : MC l Km Pm yX12_told cX12_told 4 0 5 [.inr (.inr 0), .inl a1, .inl a2] σ (M_told a1 a2 σ) := by
  refine mc_of (by decide) (Nat.le_of_ble_eq_true rfl) ?_
  change G l Km Pm RX12 cX12_told 4 0 5 0 [some (.inr (.inr 0)), some (.inl a1), some (.inl a2), none] [] σ (M_told a1 a2 σ)
  unfold M_told
  refine g_aload_n dX12_told_0 rfl rfl ?_
  refine g_geti fl_RX12_211 km_0 (by decide) dX12_told_1 ?_
  refine g_ifne (tgt := 18) dX12_told_4 (by decide) ?_ ?_
  · refine g_aload_n dX12_told_7 rfl rfl ?_
    refine g_callv3 (st := []) 10 mw_X12_isName lk_RX12_240 rfl km_0 (ok_M_isName σ) (Nat.le_of_ble_eq_true rfl) rfl rfl (Nat.le_of_ble_eq_true rfl) dX12_told_8 ?_
    intro r1 s2
    refine g_ifne (tgt := 18) dX12_told_11 (by decide) ?_ ?_
    · refine g_aload_n dX12_told_14 rfl rfl ?_
      refine g_callv2 (st := []) 10 mw_X12_amiss lk_RX12_224 rfl km_0 (ok_M_amiss s2) (Nat.le_of_ble_eq_true rfl) rfl rfl (Nat.le_of_ble_eq_true rfl) dX12_told_15 ?_
      intro r3 s4
      refine (ok_M_told_J18 a1 a2 s4)
    · refine (ok_M_told_J18 a1 a2 s2)
  · refine (ok_M_told_J18 a1 a2 σ)
theorem dX12_readOther_0 : decode cX12_readOther 0 = .ok (.aload_n 0, 1) := by decide +kernel
theorem dX12_readOther_1 : decode cX12_readOther 1 = .ok (.iconst 4, 1) := by decide +kernel
theorem dX12_readOther_2 : decode cX12_readOther 2 = .ok (.iload_n 1, 1) := by decide +kernel
theorem dX12_readOther_3 : decode cX12_readOther 3 = .ok (.invokevirtual 249, 3) := by decide +kernel
theorem dX12_readOther_6 : decode cX12_readOther 6 = .ok (.istore_n 3, 1) := by decide +kernel
theorem dX12_readOther_7 : decode cX12_readOther 7 = .ok (.aload_n 0, 1) := by decide +kernel
theorem dX12_readOther_8 : decode cX12_readOther 8 = .ok (.getfield 211, 3) := by decide +kernel
theorem dX12_readOther_11 : decode cX12_readOther 11 = .ok (.ifCond .ne 17, 3) := by decide +kernel
theorem dX12_readOther_14 : decode cX12_readOther 14 = .ok (.iload_n 3, 1) := by decide +kernel
theorem dX12_readOther_15 : decode cX12_readOther 15 = .ok (.iload_n 2, 1) := by decide +kernel
theorem dX12_readOther_16 : decode cX12_readOther 16 = .ok (.if_icmp .ne 12, 3) := by decide +kernel
theorem dX12_readOther_19 : decode cX12_readOther 19 = .ok (.aload_n 0, 1) := by decide +kernel
theorem dX12_readOther_20 : decode cX12_readOther 20 = .ok (.iconst 5, 1) := by decide +kernel
theorem dX12_readOther_21 : decode cX12_readOther 21 = .ok (.aload_n 0, 1) := by decide +kernel
theorem dX12_readOther_22 : decode cX12_readOther 22 = .ok (.getfield 116, 3) := by decide +kernel
theorem dX12_readOther_25 : decode cX12_readOther 25 = .ok (.invokevirtual 217, 3) := by decide +kernel
theorem dX12_readOther_28 : decode cX12_readOther 28 = .ok (.aload_n 0, 1) := by decide +kernel
theorem dX12_readOther_29 : decode cX12_readOther 29 = .ok (.iconst 1, 1) := by decide +kernel
theorem dX12_readOther_30 : decode cX12_readOther 30 = .ok (.invokevirtual 227, 3) := by decide +kernel
theorem dX12_readOther_33 : decode cX12_readOther 33 = .ok (.iload_n 3, 1) := by decide +kernel
theorem dX12_readOther_34 : decode cX12_readOther 34 = .ok (.ireturn, 1) := by decide +kernel
theorem mw_X12_readOther : MW yX12_readOther cX12_readOther 4 0 2 false := ⟨tm 1939 (by decide +kernel) rfl, tm 249 (by decide +kernel) rfl, by decide, by decide, (by rw [if_neg (by decide)]; exact ⟨tm 1938 (by decide +kernel) rfl, tm 165 (by decide +kernel) rfl⟩)⟩
theorem lk_RX12_249 : LK RX12 249 yX12_told := Or.inl (tm 1919 (by decide +kernel) rfl)
def M_readOther (a1 : Int) (a2 : Int) (σ : Sg) : Rs := (bd (M_told 4 a1 σ) (fun r1 s2 => (if (s2 0 12) = 0 then (if r1 = a2 then (bd (M_fail 5 (s2 0 15) s2) (fun r3 s4 => (bd (M_must 1 s4) (fun r5 s6 => (some (r1, s6)))))) else (bd (M_must 1 s2) (fun r7 s8 => (some (r1, s8))))) else (bd (M_must 1 s2) (fun r9 s10 => (some (r1, s10)))))))
theorem ok_M_readOther (a1 : Int) (a2 : Int) (σ : Sg) : MC l Km Pm yX12_readOther cX12_readOther 4 0 6 [.inr (.inr 0), .inl a1, .inl a2] σ (M_readOther a1 a2 σ) := by
  refine mc_of (by decide) (Nat.le_of_ble_eq_true rfl) ?_
  change G l Km Pm RX12 cX12_readOther 4 0 6 0 [some (.inr (.inr 0)), some (.inl a1), some (.inl a2), none] [] σ (M_readOther a1 a2 σ)
  unfold M_readOther
  refine g_aload_n dX12_readOther_0 rfl rfl ?_
  refine g_iconst dX12_readOther_1 (by decide) ?_
  refine g_iload_n dX12_readOther_2 rfl rfl ?_
  refine g_callv0 (st := []) 10 mw_X12_told lk_RX12_249 rfl km_0 (ok_M_told 4 a1 σ) (Nat.le_of_ble_eq_true rfl) rfl rfl (Nat.le_of_ble_eq_true rfl) dX12_readOther_3 ?_
  intro r1 s2
  refine g_istore_n (lv' := [some (.inr (.inr 0)), some (.inl a1), some (.inl a2), some (.inl r1)]) dX12_readOther_6 rfl (Nat.le_of_ble_eq_true rfl) rfl ?_
  refine g_aload_n dX12_readOther_7 rfl rfl ?_
  refine g_geti fl_RX12_211 km_0 (by decide) dX12_readOther_8 ?_
  refine g_ifne (tgt := 28) dX12_readOther_11 (by decide) ?_ ?_
  · refine g_iload_n dX12_readOther_14 rfl rfl ?_
    refine g_iload_n dX12_readOther_15 rfl rfl ?_
    refine g_icmpne (tgt := 28) dX12_readOther_16 (by decide) ?_ ?_
    · refine g_aload_n dX12_readOther_19 rfl rfl ?_
      refine g_iconst dX12_readOther_20 (by decide) ?_
      refine g_aload_n dX12_readOther_21 rfl rfl ?_
      refine g_geti fl_RX12_116 km_0 (by decide) dX12_readOther_22 ?_
      refine g_callv2 (st := []) 10 mw_X12_fail lk_RX12_217 rfl km_0 (ok_M_fail 5 (s2 0 15) s2) (Nat.le_of_ble_eq_true rfl) rfl rfl (Nat.le_of_ble_eq_true rfl) dX12_readOther_25 ?_
      intro r3 s4
      refine g_aload_n dX12_readOther_28 rfl rfl ?_
      refine g_iconst dX12_readOther_29 (by decide) ?_
      refine g_callv2 (st := []) 10 mw_X12_must lk_RX12_227 rfl km_0 (ok_M_must 1 s4) (Nat.le_of_ble_eq_true rfl) rfl rfl (Nat.le_of_ble_eq_true rfl) dX12_readOther_30 ?_
      intro r5 s6
      refine g_iload_n dX12_readOther_33 rfl rfl ?_
      exact g_iret dX12_readOther_34
    · refine g_aload_n dX12_readOther_28 rfl rfl ?_
      refine g_iconst dX12_readOther_29 (by decide) ?_
      refine g_callv2 (st := []) 10 mw_X12_must lk_RX12_227 rfl km_0 (ok_M_must 1 s2) (Nat.le_of_ble_eq_true rfl) rfl rfl (Nat.le_of_ble_eq_true rfl) dX12_readOther_30 ?_
      intro r7 s8
      refine g_iload_n dX12_readOther_33 rfl rfl ?_
      exact g_iret dX12_readOther_34
  · refine g_aload_n dX12_readOther_28 rfl rfl ?_
    refine g_iconst dX12_readOther_29 (by decide) ?_
    refine g_callv2 (st := []) 10 mw_X12_must lk_RX12_227 rfl km_0 (ok_M_must 1 s2) (Nat.le_of_ble_eq_true rfl) rfl rfl (Nat.le_of_ble_eq_true rfl) dX12_readOther_30 ?_
    intro r9 s10
    refine g_iload_n dX12_readOther_33 rfl rfl ?_
    exact g_iret dX12_readOther_34
theorem dX12_readTold_0 : decode cX12_readTold 0 = .ok (.aload_n 0, 1) := by decide +kernel
theorem dX12_readTold_1 : decode cX12_readTold 1 = .ok (.iload_n 1, 1) := by decide +kernel
theorem dX12_readTold_2 : decode cX12_readTold 2 = .ok (.iload_n 2, 1) := by decide +kernel
theorem dX12_readTold_3 : decode cX12_readTold 3 = .ok (.invokevirtual 249, 3) := by decide +kernel
theorem dX12_readTold_6 : decode cX12_readTold 6 = .ok (.istore_n 3, 1) := by decide +kernel
theorem dX12_readTold_7 : decode cX12_readTold 7 = .ok (.aload_n 0, 1) := by decide +kernel
theorem dX12_readTold_8 : decode cX12_readTold 8 = .ok (.iconst 1, 1) := by decide +kernel
theorem dX12_readTold_9 : decode cX12_readTold 9 = .ok (.invokevirtual 227, 3) := by decide +kernel
theorem dX12_readTold_12 : decode cX12_readTold 12 = .ok (.iload_n 3, 1) := by decide +kernel
theorem dX12_readTold_13 : decode cX12_readTold 13 = .ok (.ireturn, 1) := by decide +kernel
theorem mw_X12_readTold : MW yX12_readTold cX12_readTold 4 0 2 false := ⟨tm 1935 (by decide +kernel) rfl, tm 249 (by decide +kernel) rfl, by decide, by decide, (by rw [if_neg (by decide)]; exact ⟨tm 1934 (by decide +kernel) rfl, tm 164 (by decide +kernel) rfl⟩)⟩
def M_readTold (a1 : Int) (a2 : Int) (σ : Sg) : Rs := (bd (M_told a1 a2 σ) (fun r1 s2 => (bd (M_must 1 s2) (fun r3 s4 => (some (r1, s4))))))
theorem ok_M_readTold (a1 : Int) (a2 : Int) (σ : Sg) : MC l Km Pm yX12_readTold cX12_readTold 4 0 6 [.inr (.inr 0), .inl a1, .inl a2] σ (M_readTold a1 a2 σ) := by
  refine mc_of (by decide) (Nat.le_of_ble_eq_true rfl) ?_
  change G l Km Pm RX12 cX12_readTold 4 0 6 0 [some (.inr (.inr 0)), some (.inl a1), some (.inl a2), none] [] σ (M_readTold a1 a2 σ)
  unfold M_readTold
  refine g_aload_n dX12_readTold_0 rfl rfl ?_
  refine g_iload_n dX12_readTold_1 rfl rfl ?_
  refine g_iload_n dX12_readTold_2 rfl rfl ?_
  refine g_callv0 (st := []) 10 mw_X12_told lk_RX12_249 rfl km_0 (ok_M_told a1 a2 σ) (Nat.le_of_ble_eq_true rfl) rfl rfl (Nat.le_of_ble_eq_true rfl) dX12_readTold_3 ?_
  intro r1 s2
  refine g_istore_n (lv' := [some (.inr (.inr 0)), some (.inl a1), some (.inl a2), some (.inl r1)]) dX12_readTold_6 rfl (Nat.le_of_ble_eq_true rfl) rfl ?_
  refine g_aload_n dX12_readTold_7 rfl rfl ?_
  refine g_iconst dX12_readTold_8 (by decide) ?_
  refine g_callv2 (st := []) 10 mw_X12_must lk_RX12_227 rfl km_0 (ok_M_must 1 s2) (Nat.le_of_ble_eq_true rfl) rfl rfl (Nat.le_of_ble_eq_true rfl) dX12_readTold_9 ?_
  intro r3 s4
  refine g_iload_n dX12_readTold_12 rfl rfl ?_
  exact g_iret dX12_readTold_13
theorem dX12_readDinner_0 : decode cX12_readDinner 0 = .ok (.aload_n 0, 1) := by decide +kernel
theorem dX12_readDinner_1 : decode cX12_readDinner 1 = .ok (.getfield 35, 3) := by decide +kernel
theorem dX12_readDinner_4 : decode cX12_readDinner 4 = .ok (.sipush 1790, 3) := by decide +kernel
theorem dX12_readDinner_7 : decode cX12_readDinner 7 = .ok (.iaload, 1) := by decide +kernel
theorem dX12_readDinner_8 : decode cX12_readDinner 8 = .ok (.istore_n 1, 1) := by decide +kernel
theorem dX12_readDinner_9 : decode cX12_readDinner 9 = .ok (.iload_n 1, 1) := by decide +kernel
theorem dX12_readDinner_10 : decode cX12_readDinner 10 = .ok (.bipush 6, 2) := by decide +kernel
theorem dX12_readDinner_12 : decode cX12_readDinner 12 = .ok (.if_icmp .ne 13, 3) := by decide +kernel
theorem dX12_readDinner_15 : decode cX12_readDinner 15 = .ok (.aload_n 0, 1) := by decide +kernel
theorem dX12_readDinner_16 : decode cX12_readDinner 16 = .ok (.bipush 6, 2) := by decide +kernel
theorem dX12_readDinner_18 : decode cX12_readDinner 18 = .ok (.aload_n 0, 1) := by decide +kernel
theorem dX12_readDinner_19 : decode cX12_readDinner 19 = .ok (.getfield 116, 3) := by decide +kernel
theorem dX12_readDinner_22 : decode cX12_readDinner 22 = .ok (.invokevirtual 217, 3) := by decide +kernel
theorem dX12_readDinner_25 : decode cX12_readDinner 25 = .ok (.aload_n 0, 1) := by decide +kernel
theorem dX12_readDinner_26 : decode cX12_readDinner 26 = .ok (.getfield 211, 3) := by decide +kernel
theorem dX12_readDinner_29 : decode cX12_readDinner 29 = .ok (.ifCond .le 4, 3) := by decide +kernel
theorem dX12_readDinner_32 : decode cX12_readDinner 32 = .ok (.return_, 1) := by decide +kernel
theorem dX12_readDinner_33 : decode cX12_readDinner 33 = .ok (.aload_n 0, 1) := by decide +kernel
theorem dX12_readDinner_34 : decode cX12_readDinner 34 = .ok (.invokevirtual 221, 3) := by decide +kernel
theorem dX12_readDinner_37 : decode cX12_readDinner 37 = .ok (.aload_n 0, 1) := by decide +kernel
theorem dX12_readDinner_38 : decode cX12_readDinner 38 = .ok (.iconst 4, 1) := by decide +kernel
theorem dX12_readDinner_39 : decode cX12_readDinner 39 = .ok (.iconst 1, 1) := by decide +kernel
theorem dX12_readDinner_40 : decode cX12_readDinner 40 = .ok (.invokevirtual 265, 3) := by decide +kernel
theorem dX12_readDinner_43 : decode cX12_readDinner 43 = .ok (.istore_n 2, 1) := by decide +kernel
theorem dX12_readDinner_44 : decode cX12_readDinner 44 = .ok (.aload_n 0, 1) := by decide +kernel
theorem dX12_readDinner_45 : decode cX12_readDinner 45 = .ok (.iconst 1, 1) := by decide +kernel
theorem dX12_readDinner_46 : decode cX12_readDinner 46 = .ok (.iload_n 2, 1) := by decide +kernel
theorem dX12_readDinner_47 : decode cX12_readDinner 47 = .ok (.invokevirtual 268, 3) := by decide +kernel
theorem dX12_readDinner_50 : decode cX12_readDinner 50 = .ok (.istore_n 3, 1) := by decide +kernel
theorem dX12_readDinner_51 : decode cX12_readDinner 51 = .ok (.aload_n 0, 1) := by decide +kernel
theorem dX12_readDinner_52 : decode cX12_readDinner 52 = .ok (.aload_n 0, 1) := by decide +kernel
theorem dX12_readDinner_53 : decode cX12_readDinner 53 = .ok (.invokevirtual 186, 3) := by decide +kernel
theorem dX12_readDinner_56 : decode cX12_readDinner 56 = .ok (.iconst 1, 1) := by decide +kernel
theorem dX12_readDinner_57 : decode cX12_readDinner 57 = .ok (.bipush 30, 2) := by decide +kernel
theorem dX12_readDinner_59 : decode cX12_readDinner 59 = .ok (.invokevirtual 271, 3) := by decide +kernel
theorem dX12_readDinner_62 : decode cX12_readDinner 62 = .ok (.istore 4, 2) := by decide +kernel
theorem dX12_readDinner_64 : decode cX12_readDinner 64 = .ok (.aload_n 0, 1) := by decide +kernel
theorem dX12_readDinner_65 : decode cX12_readDinner 65 = .ok (.getfield 211, 3) := by decide +kernel
theorem dX12_readDinner_68 : decode cX12_readDinner 68 = .ok (.ifCond .le 4, 3) := by decide +kernel
theorem dX12_readDinner_71 : decode cX12_readDinner 71 = .ok (.return_, 1) := by decide +kernel
theorem dX12_readDinner_72 : decode cX12_readDinner 72 = .ok (.aload_n 0, 1) := by decide +kernel
theorem dX12_readDinner_73 : decode cX12_readDinner 73 = .ok (.getfield 35, 3) := by decide +kernel
theorem dX12_readDinner_76 : decode cX12_readDinner 76 = .ok (.sipush 1933, 3) := by decide +kernel
theorem dX12_readDinner_79 : decode cX12_readDinner 79 = .ok (.iload_n 1, 1) := by decide +kernel
theorem dX12_readDinner_80 : decode cX12_readDinner 80 = .ok (.iadd, 1) := by decide +kernel
theorem dX12_readDinner_81 : decode cX12_readDinner 81 = .ok (.iload_n 2, 1) := by decide +kernel
theorem dX12_readDinner_82 : decode cX12_readDinner 82 = .ok (.iastore, 1) := by decide +kernel
theorem dX12_readDinner_83 : decode cX12_readDinner 83 = .ok (.aload_n 0, 1) := by decide +kernel
theorem dX12_readDinner_84 : decode cX12_readDinner 84 = .ok (.getfield 35, 3) := by decide +kernel
theorem dX12_readDinner_87 : decode cX12_readDinner 87 = .ok (.sipush 1939, 3) := by decide +kernel
theorem dX12_readDinner_90 : decode cX12_readDinner 90 = .ok (.iload_n 1, 1) := by decide +kernel
theorem dX12_readDinner_91 : decode cX12_readDinner 91 = .ok (.iadd, 1) := by decide +kernel
theorem dX12_readDinner_92 : decode cX12_readDinner 92 = .ok (.iload_n 3, 1) := by decide +kernel
theorem dX12_readDinner_93 : decode cX12_readDinner 93 = .ok (.iastore, 1) := by decide +kernel
theorem dX12_readDinner_94 : decode cX12_readDinner 94 = .ok (.aload_n 0, 1) := by decide +kernel
theorem dX12_readDinner_95 : decode cX12_readDinner 95 = .ok (.getfield 35, 3) := by decide +kernel
theorem dX12_readDinner_98 : decode cX12_readDinner 98 = .ok (.sipush 1945, 3) := by decide +kernel
theorem dX12_readDinner_101 : decode cX12_readDinner 101 = .ok (.iload_n 1, 1) := by decide +kernel
theorem dX12_readDinner_102 : decode cX12_readDinner 102 = .ok (.iadd, 1) := by decide +kernel
theorem dX12_readDinner_103 : decode cX12_readDinner 103 = .ok (.iload 4, 2) := by decide +kernel
theorem dX12_readDinner_105 : decode cX12_readDinner 105 = .ok (.iastore, 1) := by decide +kernel
theorem dX12_readDinner_106 : decode cX12_readDinner 106 = .ok (.aload_n 0, 1) := by decide +kernel
theorem dX12_readDinner_107 : decode cX12_readDinner 107 = .ok (.getfield 35, 3) := by decide +kernel
theorem dX12_readDinner_110 : decode cX12_readDinner 110 = .ok (.sipush 1790, 3) := by decide +kernel
theorem dX12_readDinner_113 : decode cX12_readDinner 113 = .ok (.dup2, 1) := by decide +kernel
theorem dX12_readDinner_114 : decode cX12_readDinner 114 = .ok (.iaload, 1) := by decide +kernel
theorem dX12_readDinner_115 : decode cX12_readDinner 115 = .ok (.iconst 1, 1) := by decide +kernel
theorem dX12_readDinner_116 : decode cX12_readDinner 116 = .ok (.iadd, 1) := by decide +kernel
theorem dX12_readDinner_117 : decode cX12_readDinner 117 = .ok (.iastore, 1) := by decide +kernel
theorem dX12_readDinner_118 : decode cX12_readDinner 118 = .ok (.return_, 1) := by decide +kernel
theorem mw_X12_readDinner : MW yX12_readDinner cX12_readDinner 5 2 0 false := ⟨tm 1931 (by decide +kernel) rfl, tm 249 (by decide +kernel) rfl, by decide, by decide, (by rw [if_neg (by decide)]; exact ⟨tm 1930 (by decide +kernel) rfl, tm 163 (by decide +kernel) rfl⟩)⟩
theorem lk_RX12_265 : LK RX12 265 yX12_readTold := Or.inl (tm 1932 (by decide +kernel) rfl)
theorem lk_RX12_268 : LK RX12 268 yX12_readOther := Or.inl (tm 1936 (by decide +kernel) rfl)
theorem lk_RX12_271 : LK RX12 271 yX12_behindWord := Or.inl (tm 1940 (by decide +kernel) rfl)
def M_readDinner_J25 (v1 : Int) (σ : Sg) : Rs := (if 0 < (σ 0 12) then (some (0, σ)) else (bd (M_advance σ) (fun r4 s5 => (bd (M_readTold 4 1 s5) (fun r6 s7 => (bd (M_readOther 1 r6 s7) (fun r8 s9 => (bd (M_isEvery s9) (fun r10 s11 => (bd (M_behindWord r10 1 30 s11) (fun r12 s13 => (if 0 < (s13 0 12) then (some (0, s13)) else (wr 2235 (w32 (1933 + v1)) (up_s s13 5 (Int.toNat (w32 (1933 + v1))) r6) (fun s14 => (wr 2235 (w32 (1939 + v1)) (up_s s14 5 (Int.toNat (w32 (1939 + v1))) r8) (fun s15 => (wr 2235 (w32 (1945 + v1)) (up_s s15 5 (Int.toNat (w32 (1945 + v1))) r12) (fun s16 => (rd 2235 1790 (s16 5 (Int.toNat 1790)) (fun x17 => (wr 2235 1790 (up_s s16 5 (Int.toNat 1790) (w32 (x17 + 1))) (fun s18 => (some (0, s18))))))))))))))))))))))))
theorem ok_M_readDinner_J25 (v1 : Int) : ∀ (σ : Sg), G l Km Pm RX12 cX12_readDinner 5 2 7 25 [some (.inr (.inr 0)), some (.inl v1), none, none, none] [] σ (M_readDinner_J25 v1  σ) := by
  intro σ
  unfold M_readDinner_J25
  refine g_aload_n dX12_readDinner_25 rfl rfl ?_
  refine g_geti fl_RX12_211 km_0 (by decide) dX12_readDinner_26 ?_
  refine g_ifle (tgt := 33) dX12_readDinner_29 (by decide) ?_ ?_
  · exact g_vret dX12_readDinner_32
  · refine g_aload_n dX12_readDinner_33 rfl rfl ?_
    refine g_callv2 (st := []) 10 mw_X12_advance lk_RX12_221 rfl km_0 (ok_M_advance σ) (Nat.le_of_ble_eq_true rfl) rfl rfl (Nat.le_of_ble_eq_true rfl) dX12_readDinner_34 ?_
    intro r4 s5
    refine g_aload_n dX12_readDinner_37 rfl rfl ?_
    refine g_iconst dX12_readDinner_38 (by decide) ?_
    refine g_iconst dX12_readDinner_39 (by decide) ?_
    refine g_callv0 (st := []) 10 mw_X12_readTold lk_RX12_265 rfl km_0 (ok_M_readTold 4 1 s5) (Nat.le_of_ble_eq_true rfl) rfl rfl (Nat.le_of_ble_eq_true rfl) dX12_readDinner_40 ?_
    intro r6 s7
    refine g_istore_n (lv' := [some (.inr (.inr 0)), some (.inl v1), some (.inl r6), none, none]) dX12_readDinner_43 rfl (Nat.le_of_ble_eq_true rfl) rfl ?_
    refine g_aload_n dX12_readDinner_44 rfl rfl ?_
    refine g_iconst dX12_readDinner_45 (by decide) ?_
    refine g_iload_n dX12_readDinner_46 rfl rfl ?_
    refine g_callv0 (st := []) 10 mw_X12_readOther lk_RX12_268 rfl km_0 (ok_M_readOther 1 r6 s7) (Nat.le_of_ble_eq_true rfl) rfl rfl (Nat.le_of_ble_eq_true rfl) dX12_readDinner_47 ?_
    intro r8 s9
    refine g_istore_n (lv' := [some (.inr (.inr 0)), some (.inl v1), some (.inl r6), some (.inl r8), none]) dX12_readDinner_50 rfl (Nat.le_of_ble_eq_true rfl) rfl ?_
    refine g_aload_n dX12_readDinner_51 rfl rfl ?_
    refine g_aload_n dX12_readDinner_52 rfl rfl ?_
    refine g_callv3 (st := [.inr (.inr 0)]) 10 mw_X12_isEvery lk_RX12_186 rfl km_0 (ok_M_isEvery s9) (Nat.le_of_ble_eq_true rfl) rfl rfl (Nat.le_of_ble_eq_true rfl) dX12_readDinner_53 ?_
    intro r10 s11
    refine g_iconst dX12_readDinner_56 (by decide) ?_
    refine g_bipush dX12_readDinner_57 (by decide) ?_
    refine g_callv0 (st := []) 10 mw_X12_behindWord lk_RX12_271 rfl km_0 (ok_M_behindWord r10 1 30 s11) (Nat.le_of_ble_eq_true rfl) rfl rfl (Nat.le_of_ble_eq_true rfl) dX12_readDinner_59 ?_
    intro r12 s13
    refine g_istore (lv' := [some (.inr (.inr 0)), some (.inl v1), some (.inl r6), some (.inl r8), some (.inl r12)]) dX12_readDinner_62 (Nat.le_of_ble_eq_true rfl) rfl ?_
    refine g_aload_n dX12_readDinner_64 rfl rfl ?_
    refine g_geti fl_RX12_211 km_0 (by decide) dX12_readDinner_65 ?_
    refine g_ifle (tgt := 72) dX12_readDinner_68 (by decide) ?_ ?_
    · exact g_vret dX12_readDinner_71
    · refine g_aload_n dX12_readDinner_72 rfl rfl ?_
      refine g_getr' (q := 5) fl_RX12_35 km_0 (by decide) rfl dX12_readDinner_73 ?_
      refine g_sipush dX12_readDinner_76 (by decide) ?_
      refine g_iload_n dX12_readDinner_79 rfl rfl ?_
      refine g_iadd dX12_readDinner_80 ?_
      refine g_iload_n dX12_readDinner_81 rfl rfl ?_
      refine g_iast km_5 dX12_readDinner_82 ?_
      intro s14
      refine g_aload_n dX12_readDinner_83 rfl rfl ?_
      refine g_getr' (q := 5) fl_RX12_35 km_0 (by decide) rfl dX12_readDinner_84 ?_
      refine g_sipush dX12_readDinner_87 (by decide) ?_
      refine g_iload_n dX12_readDinner_90 rfl rfl ?_
      refine g_iadd dX12_readDinner_91 ?_
      refine g_iload_n dX12_readDinner_92 rfl rfl ?_
      refine g_iast km_5 dX12_readDinner_93 ?_
      intro s15
      refine g_aload_n dX12_readDinner_94 rfl rfl ?_
      refine g_getr' (q := 5) fl_RX12_35 km_0 (by decide) rfl dX12_readDinner_95 ?_
      refine g_sipush dX12_readDinner_98 (by decide) ?_
      refine g_iload_n dX12_readDinner_101 rfl rfl ?_
      refine g_iadd dX12_readDinner_102 ?_
      refine g_iload dX12_readDinner_103 rfl ?_
      refine g_iast km_5 dX12_readDinner_105 ?_
      intro s16
      refine g_aload_n dX12_readDinner_106 rfl rfl ?_
      refine g_getr' (q := 5) fl_RX12_35 km_0 (by decide) rfl dX12_readDinner_107 ?_
      refine g_sipush dX12_readDinner_110 (by decide) ?_
      refine g_dup2 dX12_readDinner_113 rfl rfl ?_
      refine g_iald km_5 dX12_readDinner_114 ?_
      intro x17
      refine g_iconst dX12_readDinner_115 (by decide) ?_
      refine g_iadd dX12_readDinner_116 ?_
      refine g_iast km_5 dX12_readDinner_117 ?_
      intro s18
      exact g_vret dX12_readDinner_118
def M_readDinner  (σ : Sg) : Rs := (rd 2235 1790 (σ 5 (Int.toNat 1790)) (fun x1 => (if x1 = 6 then (bd (M_fail 6 (σ 0 15) σ) (fun r2 s3 => (M_readDinner_J25 x1 s3))) else (M_readDinner_J25 x1 σ))))
theorem ok_M_readDinner (σ : Sg) : MC l Km Pm yX12_readDinner cX12_readDinner 5 2 7 [.inr (.inr 0)] σ (M_readDinner σ) := by
  refine mc_of (by decide) (Nat.le_of_ble_eq_true rfl) ?_
  change G l Km Pm RX12 cX12_readDinner 5 2 7 0 [some (.inr (.inr 0)), none, none, none, none] [] σ (M_readDinner  σ)
  unfold M_readDinner
  refine g_aload_n dX12_readDinner_0 rfl rfl ?_
  refine g_getr' (q := 5) fl_RX12_35 km_0 (by decide) rfl dX12_readDinner_1 ?_
  refine g_sipush dX12_readDinner_4 (by decide) ?_
  refine g_iald km_5 dX12_readDinner_7 ?_
  intro x1
  refine g_istore_n (lv' := [some (.inr (.inr 0)), some (.inl x1), none, none, none]) dX12_readDinner_8 rfl (Nat.le_of_ble_eq_true rfl) rfl ?_
  refine g_iload_n dX12_readDinner_9 rfl rfl ?_
  refine g_bipush dX12_readDinner_10 (by decide) ?_
  refine g_icmpne (tgt := 25) dX12_readDinner_12 (by decide) ?_ ?_
  · refine g_aload_n dX12_readDinner_15 rfl rfl ?_
    refine g_bipush dX12_readDinner_16 (by decide) ?_
    refine g_aload_n dX12_readDinner_18 rfl rfl ?_
    refine g_geti fl_RX12_116 km_0 (by decide) dX12_readDinner_19 ?_
    refine g_callv2 (st := []) 10 mw_X12_fail lk_RX12_217 rfl km_0 (ok_M_fail 6 (σ 0 15) σ) (Nat.le_of_ble_eq_true rfl) rfl rfl (Nat.le_of_ble_eq_true rfl) dX12_readDinner_22 ?_
    intro r2 s3
    refine (ok_M_readDinner_J25 x1 s3)
  · refine (ok_M_readDinner_J25 x1 σ)
theorem dX12_readHalves_0 : decode cX12_readHalves 0 = .ok (.aload_n 0, 1) := by decide +kernel
theorem dX12_readHalves_1 : decode cX12_readHalves 1 = .ok (.getfield 35, 3) := by decide +kernel
theorem dX12_readHalves_4 : decode cX12_readHalves 4 = .ok (.sipush 1791, 3) := by decide +kernel
theorem dX12_readHalves_7 : decode cX12_readHalves 7 = .ok (.iaload, 1) := by decide +kernel
theorem dX12_readHalves_8 : decode cX12_readHalves 8 = .ok (.istore_n 1, 1) := by decide +kernel
theorem dX12_readHalves_9 : decode cX12_readHalves 9 = .ok (.iload_n 1, 1) := by decide +kernel
theorem dX12_readHalves_10 : decode cX12_readHalves 10 = .ok (.bipush 6, 2) := by decide +kernel
theorem dX12_readHalves_12 : decode cX12_readHalves 12 = .ok (.if_icmp .ne 13, 3) := by decide +kernel
theorem dX12_readHalves_15 : decode cX12_readHalves 15 = .ok (.aload_n 0, 1) := by decide +kernel
theorem dX12_readHalves_16 : decode cX12_readHalves 16 = .ok (.bipush 6, 2) := by decide +kernel
theorem dX12_readHalves_18 : decode cX12_readHalves 18 = .ok (.aload_n 0, 1) := by decide +kernel
theorem dX12_readHalves_19 : decode cX12_readHalves 19 = .ok (.getfield 116, 3) := by decide +kernel
theorem dX12_readHalves_22 : decode cX12_readHalves 22 = .ok (.invokevirtual 217, 3) := by decide +kernel
theorem dX12_readHalves_25 : decode cX12_readHalves 25 = .ok (.aload_n 0, 1) := by decide +kernel
theorem dX12_readHalves_26 : decode cX12_readHalves 26 = .ok (.getfield 211, 3) := by decide +kernel
theorem dX12_readHalves_29 : decode cX12_readHalves 29 = .ok (.ifCond .le 4, 3) := by decide +kernel
theorem dX12_readHalves_32 : decode cX12_readHalves 32 = .ok (.return_, 1) := by decide +kernel
theorem dX12_readHalves_33 : decode cX12_readHalves 33 = .ok (.aload_n 0, 1) := by decide +kernel
theorem dX12_readHalves_34 : decode cX12_readHalves 34 = .ok (.invokevirtual 221, 3) := by decide +kernel
theorem dX12_readHalves_37 : decode cX12_readHalves 37 = .ok (.aload_n 0, 1) := by decide +kernel
theorem dX12_readHalves_38 : decode cX12_readHalves 38 = .ok (.getfield 35, 3) := by decide +kernel
theorem dX12_readHalves_41 : decode cX12_readHalves 41 = .ok (.sipush 1951, 3) := by decide +kernel
theorem dX12_readHalves_44 : decode cX12_readHalves 44 = .ok (.iload_n 1, 1) := by decide +kernel
theorem dX12_readHalves_45 : decode cX12_readHalves 45 = .ok (.iadd, 1) := by decide +kernel
theorem dX12_readHalves_46 : decode cX12_readHalves 46 = .ok (.aload_n 0, 1) := by decide +kernel
theorem dX12_readHalves_47 : decode cX12_readHalves 47 = .ok (.iconst 4, 1) := by decide +kernel
theorem dX12_readHalves_48 : decode cX12_readHalves 48 = .ok (.iconst 0, 1) := by decide +kernel
theorem dX12_readHalves_49 : decode cX12_readHalves 49 = .ok (.invokevirtual 265, 3) := by decide +kernel
theorem dX12_readHalves_52 : decode cX12_readHalves 52 = .ok (.iastore, 1) := by decide +kernel
theorem dX12_readHalves_53 : decode cX12_readHalves 53 = .ok (.aload_n 0, 1) := by decide +kernel
theorem dX12_readHalves_54 : decode cX12_readHalves 54 = .ok (.getfield 35, 3) := by decide +kernel
theorem dX12_readHalves_57 : decode cX12_readHalves 57 = .ok (.sipush 1957, 3) := by decide +kernel
theorem dX12_readHalves_60 : decode cX12_readHalves 60 = .ok (.iload_n 1, 1) := by decide +kernel
theorem dX12_readHalves_61 : decode cX12_readHalves 61 = .ok (.iadd, 1) := by decide +kernel
theorem dX12_readHalves_62 : decode cX12_readHalves 62 = .ok (.aload_n 0, 1) := by decide +kernel
theorem dX12_readHalves_63 : decode cX12_readHalves 63 = .ok (.iconst 0, 1) := by decide +kernel
theorem dX12_readHalves_64 : decode cX12_readHalves 64 = .ok (.aload_n 0, 1) := by decide +kernel
theorem dX12_readHalves_65 : decode cX12_readHalves 65 = .ok (.getfield 35, 3) := by decide +kernel
theorem dX12_readHalves_68 : decode cX12_readHalves 68 = .ok (.sipush 1951, 3) := by decide +kernel
theorem dX12_readHalves_71 : decode cX12_readHalves 71 = .ok (.iload_n 1, 1) := by decide +kernel
theorem dX12_readHalves_72 : decode cX12_readHalves 72 = .ok (.iadd, 1) := by decide +kernel
theorem dX12_readHalves_73 : decode cX12_readHalves 73 = .ok (.iaload, 1) := by decide +kernel
theorem dX12_readHalves_74 : decode cX12_readHalves 74 = .ok (.invokevirtual 268, 3) := by decide +kernel
theorem dX12_readHalves_77 : decode cX12_readHalves 77 = .ok (.iastore, 1) := by decide +kernel
theorem dX12_readHalves_78 : decode cX12_readHalves 78 = .ok (.aload_n 0, 1) := by decide +kernel
theorem dX12_readHalves_79 : decode cX12_readHalves 79 = .ok (.getfield 211, 3) := by decide +kernel
theorem dX12_readHalves_82 : decode cX12_readHalves 82 = .ok (.ifCond .ne 15, 3) := by decide +kernel
theorem dX12_readHalves_85 : decode cX12_readHalves 85 = .ok (.aload_n 0, 1) := by decide +kernel
theorem dX12_readHalves_86 : decode cX12_readHalves 86 = .ok (.getfield 35, 3) := by decide +kernel
theorem dX12_readHalves_89 : decode cX12_readHalves 89 = .ok (.sipush 1791, 3) := by decide +kernel
theorem dX12_readHalves_92 : decode cX12_readHalves 92 = .ok (.dup2, 1) := by decide +kernel
theorem dX12_readHalves_93 : decode cX12_readHalves 93 = .ok (.iaload, 1) := by decide +kernel
theorem dX12_readHalves_94 : decode cX12_readHalves 94 = .ok (.iconst 1, 1) := by decide +kernel
theorem dX12_readHalves_95 : decode cX12_readHalves 95 = .ok (.iadd, 1) := by decide +kernel
theorem dX12_readHalves_96 : decode cX12_readHalves 96 = .ok (.iastore, 1) := by decide +kernel
theorem dX12_readHalves_97 : decode cX12_readHalves 97 = .ok (.return_, 1) := by decide +kernel
theorem mw_X12_readHalves : MW yX12_readHalves cX12_readHalves 2 2 0 false := ⟨tm 1947 (by decide +kernel) rfl, tm 249 (by decide +kernel) rfl, by decide, by decide, (by rw [if_neg (by decide)]; exact ⟨tm 1946 (by decide +kernel) rfl, tm 167 (by decide +kernel) rfl⟩)⟩
def M_readHalves_J25 (v1 : Int) (σ : Sg) : Rs := (if 0 < (σ 0 12) then (some (0, σ)) else (bd (M_advance σ) (fun r4 s5 => (bd (M_readTold 4 0 s5) (fun r6 s7 => (wr 2235 (w32 (1951 + v1)) (up_s s7 5 (Int.toNat (w32 (1951 + v1))) r6) (fun s8 => (rd 2235 (w32 (1951 + v1)) (s8 5 (Int.toNat (w32 (1951 + v1)))) (fun x9 => (bd (M_readOther 0 x9 s8) (fun r10 s11 => (wr 2235 (w32 (1957 + v1)) (up_s s11 5 (Int.toNat (w32 (1957 + v1))) r10) (fun s12 => (if (s12 0 12) = 0 then (rd 2235 1791 (s12 5 (Int.toNat 1791)) (fun x13 => (wr 2235 1791 (up_s s12 5 (Int.toNat 1791) (w32 (x13 + 1))) (fun s14 => (some (0, s14)))))) else (some (0, s12))))))))))))))))
theorem ok_M_readHalves_J25 (v1 : Int) : ∀ (σ : Sg), G l Km Pm RX12 cX12_readHalves 2 2 7 25 [some (.inr (.inr 0)), some (.inl v1)] [] σ (M_readHalves_J25 v1  σ) := by
  intro σ
  unfold M_readHalves_J25
  refine g_aload_n dX12_readHalves_25 rfl rfl ?_
  refine g_geti fl_RX12_211 km_0 (by decide) dX12_readHalves_26 ?_
  refine g_ifle (tgt := 33) dX12_readHalves_29 (by decide) ?_ ?_
  · exact g_vret dX12_readHalves_32
  · refine g_aload_n dX12_readHalves_33 rfl rfl ?_
    refine g_callv2 (st := []) 10 mw_X12_advance lk_RX12_221 rfl km_0 (ok_M_advance σ) (Nat.le_of_ble_eq_true rfl) rfl rfl (Nat.le_of_ble_eq_true rfl) dX12_readHalves_34 ?_
    intro r4 s5
    refine g_aload_n dX12_readHalves_37 rfl rfl ?_
    refine g_getr' (q := 5) fl_RX12_35 km_0 (by decide) rfl dX12_readHalves_38 ?_
    refine g_sipush dX12_readHalves_41 (by decide) ?_
    refine g_iload_n dX12_readHalves_44 rfl rfl ?_
    refine g_iadd dX12_readHalves_45 ?_
    refine g_aload_n dX12_readHalves_46 rfl rfl ?_
    refine g_iconst dX12_readHalves_47 (by decide) ?_
    refine g_iconst dX12_readHalves_48 (by decide) ?_
    refine g_callv0 (st := [.inl (w32 (1951 + v1)), .inr (.inr 5)]) 10 mw_X12_readTold lk_RX12_265 rfl km_0 (ok_M_readTold 4 0 s5) (Nat.le_of_ble_eq_true rfl) rfl rfl (Nat.le_of_ble_eq_true rfl) dX12_readHalves_49 ?_
    intro r6 s7
    refine g_iast km_5 dX12_readHalves_52 ?_
    intro s8
    refine g_aload_n dX12_readHalves_53 rfl rfl ?_
    refine g_getr' (q := 5) fl_RX12_35 km_0 (by decide) rfl dX12_readHalves_54 ?_
    refine g_sipush dX12_readHalves_57 (by decide) ?_
    refine g_iload_n dX12_readHalves_60 rfl rfl ?_
    refine g_iadd dX12_readHalves_61 ?_
    refine g_aload_n dX12_readHalves_62 rfl rfl ?_
    refine g_iconst dX12_readHalves_63 (by decide) ?_
    refine g_aload_n dX12_readHalves_64 rfl rfl ?_
    refine g_getr' (q := 5) fl_RX12_35 km_0 (by decide) rfl dX12_readHalves_65 ?_
    refine g_sipush dX12_readHalves_68 (by decide) ?_
    refine g_iload_n dX12_readHalves_71 rfl rfl ?_
    refine g_iadd dX12_readHalves_72 ?_
    refine g_iald km_5 dX12_readHalves_73 ?_
    intro x9
    refine g_callv0 (st := [.inl (w32 (1957 + v1)), .inr (.inr 5)]) 10 mw_X12_readOther lk_RX12_268 rfl km_0 (ok_M_readOther 0 x9 s8) (Nat.le_of_ble_eq_true rfl) rfl rfl (Nat.le_of_ble_eq_true rfl) dX12_readHalves_74 ?_
    intro r10 s11
    refine g_iast km_5 dX12_readHalves_77 ?_
    intro s12
    refine g_aload_n dX12_readHalves_78 rfl rfl ?_
    refine g_geti fl_RX12_211 km_0 (by decide) dX12_readHalves_79 ?_
    refine g_ifne (tgt := 97) dX12_readHalves_82 (by decide) ?_ ?_
    · refine g_aload_n dX12_readHalves_85 rfl rfl ?_
      refine g_getr' (q := 5) fl_RX12_35 km_0 (by decide) rfl dX12_readHalves_86 ?_
      refine g_sipush dX12_readHalves_89 (by decide) ?_
      refine g_dup2 dX12_readHalves_92 rfl rfl ?_
      refine g_iald km_5 dX12_readHalves_93 ?_
      intro x13
      refine g_iconst dX12_readHalves_94 (by decide) ?_
      refine g_iadd dX12_readHalves_95 ?_
      refine g_iast km_5 dX12_readHalves_96 ?_
      intro s14
      exact g_vret dX12_readHalves_97
    · exact g_vret dX12_readHalves_97
def M_readHalves  (σ : Sg) : Rs := (rd 2235 1791 (σ 5 (Int.toNat 1791)) (fun x1 => (if x1 = 6 then (bd (M_fail 6 (σ 0 15) σ) (fun r2 s3 => (M_readHalves_J25 x1 s3))) else (M_readHalves_J25 x1 σ))))
theorem ok_M_readHalves (σ : Sg) : MC l Km Pm yX12_readHalves cX12_readHalves 2 2 7 [.inr (.inr 0)] σ (M_readHalves σ) := by
  refine mc_of (by decide) (Nat.le_of_ble_eq_true rfl) ?_
  change G l Km Pm RX12 cX12_readHalves 2 2 7 0 [some (.inr (.inr 0)), none] [] σ (M_readHalves  σ)
  unfold M_readHalves
  refine g_aload_n dX12_readHalves_0 rfl rfl ?_
  refine g_getr' (q := 5) fl_RX12_35 km_0 (by decide) rfl dX12_readHalves_1 ?_
  refine g_sipush dX12_readHalves_4 (by decide) ?_
  refine g_iald km_5 dX12_readHalves_7 ?_
  intro x1
  refine g_istore_n (lv' := [some (.inr (.inr 0)), some (.inl x1)]) dX12_readHalves_8 rfl (Nat.le_of_ble_eq_true rfl) rfl ?_
  refine g_iload_n dX12_readHalves_9 rfl rfl ?_
  refine g_bipush dX12_readHalves_10 (by decide) ?_
  refine g_icmpne (tgt := 25) dX12_readHalves_12 (by decide) ?_ ?_
  · refine g_aload_n dX12_readHalves_15 rfl rfl ?_
    refine g_bipush dX12_readHalves_16 (by decide) ?_
    refine g_aload_n dX12_readHalves_18 rfl rfl ?_
    refine g_geti fl_RX12_116 km_0 (by decide) dX12_readHalves_19 ?_
    refine g_callv2 (st := []) 10 mw_X12_fail lk_RX12_217 rfl km_0 (ok_M_fail 6 (σ 0 15) σ) (Nat.le_of_ble_eq_true rfl) rfl rfl (Nat.le_of_ble_eq_true rfl) dX12_readHalves_22 ?_
    intro r2 s3
    refine (ok_M_readHalves_J25 x1 s3)
  · refine (ok_M_readHalves_J25 x1 σ)
theorem dX12_readOnce_0 : decode cX12_readOnce 0 = .ok (.aload_n 0, 1) := by decide +kernel
theorem dX12_readOnce_1 : decode cX12_readOnce 1 = .ok (.getfield 252, 3) := by decide +kernel
theorem dX12_readOnce_4 : decode cX12_readOnce 4 = .ok (.iload_n 1, 1) := by decide +kernel
theorem dX12_readOnce_5 : decode cX12_readOnce 5 = .ok (.invokestatic 106, 3) := by decide +kernel
theorem dX12_readOnce_8 : decode cX12_readOnce 8 = .ok (.ifCond .eq 12, 3) := by decide +kernel
theorem dX12_readOnce_11 : decode cX12_readOnce 11 = .ok (.aload_n 0, 1) := by decide +kernel
theorem dX12_readOnce_12 : decode cX12_readOnce 12 = .ok (.iconst 5, 1) := by decide +kernel
theorem dX12_readOnce_13 : decode cX12_readOnce 13 = .ok (.aload_n 0, 1) := by decide +kernel
theorem dX12_readOnce_14 : decode cX12_readOnce 14 = .ok (.getfield 116, 3) := by decide +kernel
theorem dX12_readOnce_17 : decode cX12_readOnce 17 = .ok (.invokevirtual 217, 3) := by decide +kernel
theorem dX12_readOnce_20 : decode cX12_readOnce 20 = .ok (.aload_n 0, 1) := by decide +kernel
theorem dX12_readOnce_21 : decode cX12_readOnce 21 = .ok (.getfield 211, 3) := by decide +kernel
theorem dX12_readOnce_24 : decode cX12_readOnce 24 = .ok (.ifCond .le 4, 3) := by decide +kernel
theorem dX12_readOnce_27 : decode cX12_readOnce 27 = .ok (.return_, 1) := by decide +kernel
theorem dX12_readOnce_28 : decode cX12_readOnce 28 = .ok (.aload_n 0, 1) := by decide +kernel
theorem dX12_readOnce_29 : decode cX12_readOnce 29 = .ok (.dup, 1) := by decide +kernel
theorem dX12_readOnce_30 : decode cX12_readOnce 30 = .ok (.getfield 252, 3) := by decide +kernel
theorem dX12_readOnce_33 : decode cX12_readOnce 33 = .ok (.iconst 1, 1) := by decide +kernel
theorem dX12_readOnce_34 : decode cX12_readOnce 34 = .ok (.iload_n 1, 1) := by decide +kernel
theorem dX12_readOnce_35 : decode cX12_readOnce 35 = .ok (.ishl, 1) := by decide +kernel
theorem dX12_readOnce_36 : decode cX12_readOnce 36 = .ok (.ior, 1) := by decide +kernel
theorem dX12_readOnce_37 : decode cX12_readOnce 37 = .ok (.putfield 252, 3) := by decide +kernel
theorem dX12_readOnce_40 : decode cX12_readOnce 40 = .ok (.aload_n 0, 1) := by decide +kernel
theorem dX12_readOnce_41 : decode cX12_readOnce 41 = .ok (.invokevirtual 221, 3) := by decide +kernel
theorem dX12_readOnce_44 : decode cX12_readOnce 44 = .ok (.aload_n 0, 1) := by decide +kernel
theorem dX12_readOnce_45 : decode cX12_readOnce 45 = .ok (.getfield 35, 3) := by decide +kernel
theorem dX12_readOnce_48 : decode cX12_readOnce 48 = .ok (.sipush 1792, 3) := by decide +kernel
theorem dX12_readOnce_51 : decode cX12_readOnce 51 = .ok (.iload_n 1, 1) := by decide +kernel
theorem dX12_readOnce_52 : decode cX12_readOnce 52 = .ok (.iadd, 1) := by decide +kernel
theorem dX12_readOnce_53 : decode cX12_readOnce 53 = .ok (.aload_n 0, 1) := by decide +kernel
theorem dX12_readOnce_54 : decode cX12_readOnce 54 = .ok (.iconst 0, 1) := by decide +kernel
theorem dX12_readOnce_55 : decode cX12_readOnce 55 = .ok (.iload_n 2, 1) := by decide +kernel
theorem dX12_readOnce_56 : decode cX12_readOnce 56 = .ok (.invokevirtual 231, 3) := by decide +kernel
theorem dX12_readOnce_59 : decode cX12_readOnce 59 = .ok (.iastore, 1) := by decide +kernel
theorem dX12_readOnce_60 : decode cX12_readOnce 60 = .ok (.return_, 1) := by decide +kernel
theorem mw_X12_readOnce : MW yX12_readOnce cX12_readOnce 3 2 2 false := ⟨tm 1804 (by decide +kernel) rfl, tm 249 (by decide +kernel) rfl, by decide, by decide, (by rw [if_neg (by decide)]; exact ⟨tm 1803 (by decide +kernel) rfl, tm 133 (by decide +kernel) rfl⟩)⟩
theorem fl_RX12_252 : FL RX12 252 10 25 := ⟨_, _, _, _, cw_10, by decide, Or.inl (by decide), Or.inr (by decide), Or.inl (tm 1593 (by decide +kernel) rfl)⟩
def M_readOnce_J20 (a1 : Int) (a2 : Int) (σ : Sg) : Rs := (if 0 < (σ 0 12) then (some (0, σ)) else (nm (up_s σ 0 25 (or32 (σ 0 25) (sl32 1 a1))) (fun s3 => (bd (M_advance s3) (fun r4 s5 => (bd (M_count 0 a2 s5) (fun r6 s7 => (wr 2235 (w32 (1792 + a1)) (up_s s7 5 (Int.toNat (w32 (1792 + a1))) r6) (fun s8 => (some (0, s8)))))))))))
theorem ok_M_readOnce_J20 (a1 : Int) (a2 : Int) : ∀ (σ : Sg), G l Km Pm RX12 cX12_readOnce 3 2 4 20 [some (.inr (.inr 0)), some (.inl a1), some (.inl a2)] [] σ (M_readOnce_J20 a1 a2  σ) := by
  intro σ
  unfold M_readOnce_J20
  refine g_aload_n dX12_readOnce_20 rfl rfl ?_
  refine g_geti fl_RX12_211 km_0 (by decide) dX12_readOnce_21 ?_
  refine g_ifle (tgt := 28) dX12_readOnce_24 (by decide) ?_ ?_
  · exact g_vret dX12_readOnce_27
  · refine g_aload_n dX12_readOnce_28 rfl rfl ?_
    refine g_dup dX12_readOnce_29 rfl ?_
    refine g_geti fl_RX12_252 km_0 (by decide) dX12_readOnce_30 ?_
    refine g_iconst dX12_readOnce_33 (by decide) ?_
    refine g_iload_n dX12_readOnce_34 rfl rfl ?_
    refine g_ishl dX12_readOnce_35 ?_
    refine g_ior dX12_readOnce_36 ?_
    refine g_puti fl_RX12_252 km_0 (by decide) dX12_readOnce_37 ?_
    intro s3
    refine g_aload_n dX12_readOnce_40 rfl rfl ?_
    refine g_callv2 (st := []) 10 mw_X12_advance lk_RX12_221 rfl km_0 (ok_M_advance s3) (Nat.le_of_ble_eq_true rfl) rfl rfl (Nat.le_of_ble_eq_true rfl) dX12_readOnce_41 ?_
    intro r4 s5
    refine g_aload_n dX12_readOnce_44 rfl rfl ?_
    refine g_getr' (q := 5) fl_RX12_35 km_0 (by decide) rfl dX12_readOnce_45 ?_
    refine g_sipush dX12_readOnce_48 (by decide) ?_
    refine g_iload_n dX12_readOnce_51 rfl rfl ?_
    refine g_iadd dX12_readOnce_52 ?_
    refine g_aload_n dX12_readOnce_53 rfl rfl ?_
    refine g_iconst dX12_readOnce_54 (by decide) ?_
    refine g_iload_n dX12_readOnce_55 rfl rfl ?_
    refine g_callv0 (st := [.inl (w32 (1792 + a1)), .inr (.inr 5)]) 10 mw_X12_count lk_RX12_231 rfl km_0 (ok_M_count 0 a2 s5) (Nat.le_of_ble_eq_true rfl) rfl rfl (Nat.le_of_ble_eq_true rfl) dX12_readOnce_56 ?_
    intro r6 s7
    refine g_iast km_5 dX12_readOnce_59 ?_
    intro s8
    exact g_vret dX12_readOnce_60
def M_readOnce (a1 : Int) (a2 : Int) (σ : Sg) : Rs := (bd (M_has (σ 0 25) a1 σ) (fun r1 s2 => (if r1 = 0 then (M_readOnce_J20 a1 a2 s2) else (bd (M_fail 5 (s2 0 15) s2) (fun r9 s10 => (M_readOnce_J20 a1 a2 s10))))))
theorem ok_M_readOnce (a1 : Int) (a2 : Int) (σ : Sg) : MC l Km Pm yX12_readOnce cX12_readOnce 3 2 4 [.inr (.inr 0), .inl a1, .inl a2] σ (M_readOnce a1 a2 σ) := by
  refine mc_of (by decide) (Nat.le_of_ble_eq_true rfl) ?_
  change G l Km Pm RX12 cX12_readOnce 3 2 4 0 [some (.inr (.inr 0)), some (.inl a1), some (.inl a2)] [] σ (M_readOnce a1 a2 σ)
  unfold M_readOnce
  refine g_aload_n dX12_readOnce_0 rfl rfl ?_
  refine g_geti fl_RX12_252 km_0 (by decide) dX12_readOnce_1 ?_
  refine g_iload_n dX12_readOnce_4 rfl rfl ?_
  refine g_calls3 (st := []) mw_X12_has lk_RX12_106 (ok_M_has (σ 0 25) a1 σ) (Nat.le_of_ble_eq_true rfl) rfl rfl (Nat.le_of_ble_eq_true rfl) dX12_readOnce_5 ?_
  intro r1 s2
  refine g_ifeq (tgt := 20) dX12_readOnce_8 (by decide) ?_ ?_
  · refine (ok_M_readOnce_J20 a1 a2 s2)
  · refine g_aload_n dX12_readOnce_11 rfl rfl ?_
    refine g_iconst dX12_readOnce_12 (by decide) ?_
    refine g_aload_n dX12_readOnce_13 rfl rfl ?_
    refine g_geti fl_RX12_116 km_0 (by decide) dX12_readOnce_14 ?_
    refine g_callv2 (st := []) 10 mw_X12_fail lk_RX12_217 rfl km_0 (ok_M_fail 5 (s2 0 15) s2) (Nat.le_of_ble_eq_true rfl) rfl rfl (Nat.le_of_ble_eq_true rfl) dX12_readOnce_17 ?_
    intro r9 s10
    refine (ok_M_readOnce_J20 a1 a2 s10)
end WK
