section WK
variable {l : Launch}
theorem dX12_isIn_0 : decode cX12_isIn 0 = .ok (.lload_n 0, 1) := by decide +kernel
theorem dX12_isIn_1 : decode cX12_isIn 1 = .ok (.lload_n 2, 1) := by decide +kernel
theorem dX12_isIn_2 : decode cX12_isIn 2 = .ok (.lcmp, 1) := by decide +kernel
theorem dX12_isIn_3 : decode cX12_isIn 3 = .ok (.ifCond .lt 14, 3) := by decide +kernel
theorem dX12_isIn_6 : decode cX12_isIn 6 = .ok (.lload_n 0, 1) := by decide +kernel
theorem dX12_isIn_7 : decode cX12_isIn 7 = .ok (.lload 4, 2) := by decide +kernel
theorem dX12_isIn_9 : decode cX12_isIn 9 = .ok (.lcmp, 1) := by decide +kernel
theorem dX12_isIn_10 : decode cX12_isIn 10 = .ok (.ifCond .gt 7, 3) := by decide +kernel
theorem dX12_isIn_13 : decode cX12_isIn 13 = .ok (.iconst 1, 1) := by decide +kernel
theorem dX12_isIn_14 : decode cX12_isIn 14 = .ok (.goto 4, 3) := by decide +kernel
theorem dX12_isIn_17 : decode cX12_isIn 17 = .ok (.iconst 0, 1) := by decide +kernel
theorem dX12_isIn_18 : decode cX12_isIn 18 = .ok (.ireturn, 1) := by decide +kernel
theorem mw_X12_isIn : MW yX12_isIn cX12_isIn 6 3 3 true := ⟨tm 1822 (by decide +kernel) rfl, tm 249 (by decide +kernel) rfl, by decide, by decide, (by rw [if_pos rfl]; exact tm 1821 (by decide +kernel) rfl)⟩
def M_isIn (a0 : Int) (a2 : Int) (a4 : Int) (σ : Sg) : Rs := (if a0 < a2 then (some (0, σ)) else (if a4 < a0 then (some (0, σ)) else (some (1, σ))))
theorem ok_M_isIn (a0 : Int) (a2 : Int) (a4 : Int) (σ : Sg) : MC l Km Pm yX12_isIn cX12_isIn 6 3 1 [.inr (.inl a0), .inr (.inl a2), .inr (.inl a4)] σ (M_isIn a0 a2 a4 σ) := by
  refine mc_of (by decide) (Nat.le_of_ble_eq_true rfl) ?_
  change G l Km Pm RX12 cX12_isIn 6 3 1 0 [some (.inr (.inl a0)), none, some (.inr (.inl a2)), none, some (.inr (.inl a4)), none] [] σ (M_isIn a0 a2 a4 σ)
  unfold M_isIn
  refine g_lload_n dX12_isIn_0 rfl rfl ?_
  refine g_lload_n dX12_isIn_1 rfl rfl ?_
  refine g_lcmplt (tgt := 17) dX12_isIn_2 dX12_isIn_3 (by decide) ?_ ?_
  · refine g_iconst dX12_isIn_17 (by decide) ?_
    exact g_zret0 dX12_isIn_18
  · refine g_lload_n dX12_isIn_6 rfl rfl ?_
    refine g_lload dX12_isIn_7 rfl ?_
    refine g_lcmpgt (tgt := 17) dX12_isIn_9 dX12_isIn_10 (by decide) ?_ ?_
    · refine g_iconst dX12_isIn_17 (by decide) ?_
      exact g_zret0 dX12_isIn_18
    · refine g_iconst dX12_isIn_13 (by decide) ?_
      refine g_goto (tgt := 18) dX12_isIn_14 (by decide) ?_
      exact g_zret1 dX12_isIn_18
theorem dX12_arePeople_0 : decode cX12_arePeople 0 = .ok (.iload_n 1, 1) := by decide +kernel
theorem dX12_arePeople_1 : decode cX12_arePeople 1 = .ok (.i2l, 1) := by decide +kernel
theorem dX12_arePeople_2 : decode cX12_arePeople 2 = .ok (.lconst 0, 1) := by decide +kernel
theorem dX12_arePeople_3 : decode cX12_arePeople 3 = .ok (.iconst 1, 1) := by decide +kernel
theorem dX12_arePeople_4 : decode cX12_arePeople 4 = .ok (.aload_n 0, 1) := by decide +kernel
theorem dX12_arePeople_5 : decode cX12_arePeople 5 = .ok (.getfield 35, 3) := by decide +kernel
theorem dX12_arePeople_8 : decode cX12_arePeople 8 = .ok (.iconst 1, 1) := by decide +kernel
theorem dX12_arePeople_9 : decode cX12_arePeople 9 = .ok (.iaload, 1) := by decide +kernel
theorem dX12_arePeople_10 : decode cX12_arePeople 10 = .ok (.ishl, 1) := by decide +kernel
theorem dX12_arePeople_11 : decode cX12_arePeople 11 = .ok (.iconst 1, 1) := by decide +kernel
theorem dX12_arePeople_12 : decode cX12_arePeople 12 = .ok (.isub, 1) := by decide +kernel
theorem dX12_arePeople_13 : decode cX12_arePeople 13 = .ok (.i2l, 1) := by decide +kernel
theorem dX12_arePeople_14 : decode cX12_arePeople 14 = .ok (.invokestatic 102, 3) := by decide +kernel
theorem dX12_arePeople_17 : decode cX12_arePeople 17 = .ok (.ireturn, 1) := by decide +kernel
theorem mw_X12_arePeople : MW yX12_arePeople cX12_arePeople 2 3 1 false := ⟨tm 2267 (by decide +kernel) rfl, tm 249 (by decide +kernel) rfl, by decide, by decide, (by rw [if_neg (by decide)]; exact ⟨tm 2266 (by decide +kernel) rfl, tm 210 (by decide +kernel) rfl⟩)⟩
theorem lk_RX12_102 : LK RX12 102 yX12_isIn := Or.inl (tm 1820 (by decide +kernel) rfl)
def M_arePeople (a1 : Int) (σ : Sg) : Rs := (rd 2235 1 (σ 5 (Int.toNat 1)) (fun x1 => (bd (M_isIn a1 0 (w32 ((sl32 1 x1) - 1)) σ) (fun r2 s3 => (zb r2 (some (r2, s3)))))))
theorem ok_M_arePeople (a1 : Int) (σ : Sg) : MC l Km Pm yX12_arePeople cX12_arePeople 2 3 2 [.inr (.inr 0), .inl a1] σ (M_arePeople a1 σ) := by
  refine mc_of (by decide) (Nat.le_of_ble_eq_true rfl) ?_
  change G l Km Pm RX12 cX12_arePeople 2 3 2 0 [some (.inr (.inr 0)), some (.inl a1)] [] σ (M_arePeople a1 σ)
  unfold M_arePeople
  refine g_iload_n dX12_arePeople_0 rfl rfl ?_
  refine g_i2l dX12_arePeople_1 ?_
  refine g_lconst (v := 0) dX12_arePeople_2 (by decide) ?_
  refine g_iconst dX12_arePeople_3 (by decide) ?_
  refine g_aload_n dX12_arePeople_4 rfl rfl ?_
  refine g_getr' (q := 5) fl_RX12_35 km_0 (by decide) rfl dX12_arePeople_5 ?_
  refine g_iconst dX12_arePeople_8 (by decide) ?_
  refine g_iald km_5 dX12_arePeople_9 ?_
  intro x1
  refine g_ishl dX12_arePeople_10 ?_
  refine g_iconst dX12_arePeople_11 (by decide) ?_
  refine g_isub dX12_arePeople_12 ?_
  refine g_i2l dX12_arePeople_13 ?_
  refine g_calls3 (st := []) mw_X12_isIn lk_RX12_102 (ok_M_isIn a1 0 (w32 ((sl32 1 x1) - 1)) σ) (Nat.le_of_ble_eq_true rfl) rfl rfl (Nat.le_of_ble_eq_true rfl) dX12_arePeople_14 ?_
  intro r2 s3
  exact g_zret dX12_arePeople_17
theorem dX12_areWords_0 : decode cX12_areWords 0 = .ok (.iload_n 1, 1) := by decide +kernel
theorem dX12_areWords_1 : decode cX12_areWords 1 = .ok (.i2l, 1) := by decide +kernel
theorem dX12_areWords_2 : decode cX12_areWords 2 = .ok (.lconst 0, 1) := by decide +kernel
theorem dX12_areWords_3 : decode cX12_areWords 3 = .ok (.aload_n 0, 1) := by decide +kernel
theorem dX12_areWords_4 : decode cX12_areWords 4 = .ok (.invokevirtual 431, 3) := by decide +kernel
theorem dX12_areWords_7 : decode cX12_areWords 7 = .ok (.i2l, 1) := by decide +kernel
theorem dX12_areWords_8 : decode cX12_areWords 8 = .ok (.invokestatic 102, 3) := by decide +kernel
theorem dX12_areWords_11 : decode cX12_areWords 11 = .ok (.ireturn, 1) := by decide +kernel
theorem mw_X12_areWords : MW yX12_areWords cX12_areWords 2 3 1 false := ⟨tm 2254 (by decide +kernel) rfl, tm 249 (by decide +kernel) rfl, by decide, by decide, (by rw [if_neg (by decide)]; exact ⟨tm 2253 (by decide +kernel) rfl, tm 209 (by decide +kernel) rfl⟩)⟩
theorem lk_RX12_431 : LK RX12 431 yX12_allWords := Or.inl (tm 2223 (by decide +kernel) rfl)
def M_areWords (a1 : Int) (σ : Sg) : Rs := (bd (M_allWords σ) (fun r1 s2 => (bd (M_isIn a1 0 r1 s2) (fun r3 s4 => (zb r3 (some (r3, s4)))))))
theorem ok_M_areWords (a1 : Int) (σ : Sg) : MC l Km Pm yX12_areWords cX12_areWords 2 3 2 [.inr (.inr 0), .inl a1] σ (M_areWords a1 σ) := by
  refine mc_of (by decide) (Nat.le_of_ble_eq_true rfl) ?_
  change G l Km Pm RX12 cX12_areWords 2 3 2 0 [some (.inr (.inr 0)), some (.inl a1)] [] σ (M_areWords a1 σ)
  unfold M_areWords
  refine g_iload_n dX12_areWords_0 rfl rfl ?_
  refine g_i2l dX12_areWords_1 ?_
  refine g_lconst (v := 0) dX12_areWords_2 (by decide) ?_
  refine g_aload_n dX12_areWords_3 rfl rfl ?_
  refine g_callv0 (st := [.inr (.inl 0), .inr (.inl a1)]) 10 mw_X12_allWords lk_RX12_431 rfl km_0 (ok_M_allWords σ) (Nat.le_of_ble_eq_true rfl) rfl rfl (Nat.le_of_ble_eq_true rfl) dX12_areWords_4 ?_
  intro r1 s2
  refine g_i2l dX12_areWords_7 ?_
  refine g_calls3 (st := []) mw_X12_isIn lk_RX12_102 (ok_M_isIn a1 0 r1 s2) (Nat.le_of_ble_eq_true rfl) rfl rfl (Nat.le_of_ble_eq_true rfl) dX12_areWords_8 ?_
  intro r3 s4
  exact g_zret dX12_areWords_11
theorem dX12_grown_0 : decode cX12_grown 0 = .ok (.iconst 0, 1) := by decide +kernel
theorem dX12_grown_1 : decode cX12_grown 1 = .ok (.istore_n 3, 1) := by decide +kernel
theorem dX12_grown_2 : decode cX12_grown 2 = .ok (.iconst 0, 1) := by decide +kernel
theorem dX12_grown_3 : decode cX12_grown 3 = .ok (.istore 4, 2) := by decide +kernel
theorem dX12_grown_5 : decode cX12_grown 5 = .ok (.iload 4, 2) := by decide +kernel
theorem dX12_grown_7 : decode cX12_grown 7 = .ok (.aload_n 0, 1) := by decide +kernel
theorem dX12_grown_8 : decode cX12_grown 8 = .ok (.getfield 35, 3) := by decide +kernel
theorem dX12_grown_11 : decode cX12_grown 11 = .ok (.iconst 0, 1) := by decide +kernel
theorem dX12_grown_12 : decode cX12_grown 12 = .ok (.iaload, 1) := by decide +kernel
theorem dX12_grown_13 : decode cX12_grown 13 = .ok (.if_icmp .ge 50, 3) := by decide +kernel
theorem dX12_grown_16 : decode cX12_grown 16 = .ok (.iload_n 3, 1) := by decide +kernel
theorem dX12_grown_17 : decode cX12_grown 17 = .ok (.iload_n 1, 1) := by decide +kernel
theorem dX12_grown_18 : decode cX12_grown 18 = .ok (.iload 4, 2) := by decide +kernel
theorem dX12_grown_20 : decode cX12_grown 20 = .ok (.invokestatic 106, 3) := by decide +kernel
theorem dX12_grown_23 : decode cX12_grown 23 = .ok (.ifCond .eq 31, 3) := by decide +kernel
theorem dX12_grown_26 : decode cX12_grown 26 = .ok (.aload_n 0, 1) := by decide +kernel
theorem dX12_grown_27 : decode cX12_grown 27 = .ok (.getfield 35, 3) := by decide +kernel
theorem dX12_grown_30 : decode cX12_grown 30 = .ok (.bipush 9, 2) := by decide +kernel
theorem dX12_grown_32 : decode cX12_grown 32 = .ok (.iload 4, 2) := by decide +kernel
theorem dX12_grown_34 : decode cX12_grown 34 = .ok (.iadd, 1) := by decide +kernel
theorem dX12_grown_35 : decode cX12_grown 35 = .ok (.iaload, 1) := by decide +kernel
theorem dX12_grown_36 : decode cX12_grown 36 = .ok (.iload_n 2, 1) := by decide +kernel
theorem dX12_grown_37 : decode cX12_grown 37 = .ok (.aload_n 0, 1) := by decide +kernel
theorem dX12_grown_38 : decode cX12_grown 38 = .ok (.getfield 35, 3) := by decide +kernel
theorem dX12_grown_41 : decode cX12_grown 41 = .ok (.bipush 17, 2) := by decide +kernel
theorem dX12_grown_43 : decode cX12_grown 43 = .ok (.iload 4, 2) := by decide +kernel
theorem dX12_grown_45 : decode cX12_grown 45 = .ok (.iadd, 1) := by decide +kernel
theorem dX12_grown_46 : decode cX12_grown 46 = .ok (.iaload, 1) := by decide +kernel
theorem dX12_grown_47 : decode cX12_grown 47 = .ok (.invokestatic 363, 3) := by decide +kernel
theorem dX12_grown_50 : decode cX12_grown 50 = .ok (.imul, 1) := by decide +kernel
theorem dX12_grown_51 : decode cX12_grown 51 = .ok (.goto 4, 3) := by decide +kernel
theorem dX12_grown_54 : decode cX12_grown 54 = .ok (.iconst 0, 1) := by decide +kernel
theorem dX12_grown_55 : decode cX12_grown 55 = .ok (.iadd, 1) := by decide +kernel
theorem dX12_grown_56 : decode cX12_grown 56 = .ok (.istore_n 3, 1) := by decide +kernel
theorem dX12_grown_57 : decode cX12_grown 57 = .ok (.iinc 4 1, 3) := by decide +kernel
theorem dX12_grown_60 : decode cX12_grown 60 = .ok (.goto (-55), 3) := by decide +kernel
theorem dX12_grown_63 : decode cX12_grown 63 = .ok (.iload_n 3, 1) := by decide +kernel
theorem dX12_grown_64 : decode cX12_grown 64 = .ok (.ireturn, 1) := by decide +kernel
theorem mw_X12_grown : MW yX12_grown cX12_grown 5 0 2 false := ⟨tm 2234 (by decide +kernel) rfl, tm 249 (by decide +kernel) rfl, by decide, by decide, (by rw [if_neg (by decide)]; exact ⟨tm 2233 (by decide +kernel) rfl, tm 207 (by decide +kernel) rfl⟩)⟩
def M_grown_L5 (a1 : Int) (a2 : Int) : Nat → Int → Int → Sg → Rs
  | 0, _, _, _ => none
  | n + 1, v3, v4, σ => (rd 2235 0 (σ 5 (Int.toNat 0)) (fun x1 => (if v4 < x1 then (bd (M_has a1 v4 σ) (fun r2 s3 => (if r2 = 0 then (nm (w32 (v3 + 0)) (fun x4 => (nm (w32 (v4 + 1)) (fun x5 => (M_grown_L5 a1 a2 n x4 x5 s3))))) else (rd 2235 (w32 (9 + v4)) (s3 5 (Int.toNat (w32 (9 + v4)))) (fun x6 => (rd 2235 (w32 (17 + v4)) (s3 5 (Int.toNat (w32 (17 + v4)))) (fun x7 => (nm (w32 (v3 + (w32 (x6 * (min a2 x7))))) (fun x8 => (nm (w32 (v4 + 1)) (fun x9 => (M_grown_L5 a1 a2 n x8 x9 s3)))))))))))) else (some (v3, σ)))))
theorem ok_M_grown_L5 (a1 : Int) (a2 : Int) : ∀ (n : Nat) (v3 v4 : Int) (σ : Sg), G l Km Pm RX12 cX12_grown 5 0 2 5 [some (.inr (.inr 0)), some (.inl a1), some (.inl a2), some (.inl v3), some (.inl v4)] [] σ (M_grown_L5 a1 a2 n v3 v4 σ) := by
  intro n
  induction n with
  | zero => intros; exact G.none_
  | succ n ih =>
    intro v3 v4 σ
    rw [M_grown_L5]
    refine g_iload dX12_grown_5 rfl ?_
    refine g_aload_n dX12_grown_7 rfl rfl ?_
    refine g_getr' (q := 5) fl_RX12_35 km_0 (by decide) rfl dX12_grown_8 ?_
    refine g_iconst dX12_grown_11 (by decide) ?_
    refine g_iald km_5 dX12_grown_12 ?_
    intro x1
    refine g_icmpge (tgt := 63) dX12_grown_13 (by decide) ?_ ?_
    · refine g_iload_n dX12_grown_16 rfl rfl ?_
      refine g_iload_n dX12_grown_17 rfl rfl ?_
      refine g_iload dX12_grown_18 rfl ?_
      refine g_calls3 (st := [.inl v3]) mw_X12_has lk_RX12_106 (ok_M_has a1 v4 σ) (Nat.le_of_ble_eq_true rfl) rfl rfl (Nat.le_of_ble_eq_true rfl) dX12_grown_20 ?_
      intro r2 s3
      refine g_ifeq (tgt := 54) dX12_grown_23 (by decide) ?_ ?_
      · refine g_iconst dX12_grown_54 (by decide) ?_
        refine g_iadd dX12_grown_55 ?_
        refine n_istore_n (fun x4 => [some (.inr (.inr 0)), some (.inl a1), some (.inl a2), some (.inl x4), some (.inl v4)]) dX12_grown_56 rfl (Nat.le_of_ble_eq_true rfl) (fun _ => rfl) ?_
        intro x4
        refine n_iinc (fun x5 => [some (.inr (.inr 0)), some (.inl a1), some (.inl a2), some (.inl x4), some (.inl x5)]) dX12_grown_57 rfl (Nat.le_of_ble_eq_true rfl) (fun _ => rfl) ?_
        intro x5
        refine g_goto (tgt := 5) dX12_grown_60 (by decide) ?_
        exact (ih x4 x5 s3)
      · refine g_aload_n dX12_grown_26 rfl rfl ?_
        refine g_getr' (q := 5) fl_RX12_35 km_0 (by decide) rfl dX12_grown_27 ?_
        refine g_bipush dX12_grown_30 (by decide) ?_
        refine g_iload dX12_grown_32 rfl ?_
        refine g_iadd dX12_grown_34 ?_
        refine g_iald km_5 dX12_grown_35 ?_
        intro x6
        refine g_iload_n dX12_grown_36 rfl rfl ?_
        refine g_aload_n dX12_grown_37 rfl rfl ?_
        refine g_getr' (q := 5) fl_RX12_35 km_0 (by decide) rfl dX12_grown_38 ?_
        refine g_bipush dX12_grown_41 (by decide) ?_
        refine g_iload dX12_grown_43 rfl ?_
        refine g_iadd dX12_grown_45 ?_
        refine g_iald km_5 dX12_grown_46 ?_
        intro x7
        refine g_mmin mx_RX12_363 (Nat.le_of_ble_eq_true rfl) (Nat.le_of_ble_eq_true rfl) dX12_grown_47 ?_
        refine g_imul dX12_grown_50 ?_
        refine g_goto (tgt := 55) dX12_grown_51 (by decide) ?_
        refine g_iadd dX12_grown_55 ?_
        refine n_istore_n (fun x8 => [some (.inr (.inr 0)), some (.inl a1), some (.inl a2), some (.inl x8), some (.inl v4)]) dX12_grown_56 rfl (Nat.le_of_ble_eq_true rfl) (fun _ => rfl) ?_
        intro x8
        refine n_iinc (fun x9 => [some (.inr (.inr 0)), some (.inl a1), some (.inl a2), some (.inl x8), some (.inl x9)]) dX12_grown_57 rfl (Nat.le_of_ble_eq_true rfl) (fun _ => rfl) ?_
        intro x9
        refine g_goto (tgt := 5) dX12_grown_60 (by decide) ?_
        exact (ih x8 x9 s3)
    · refine g_iload_n dX12_grown_63 rfl rfl ?_
      exact g_iret dX12_grown_64
def M_grown (a1 : Int) (a2 : Int) (σ : Sg) : Rs := (M_grown_L5 a1 a2 fu 0 0 σ)
theorem ok_M_grown (a1 : Int) (a2 : Int) (σ : Sg) : MC l Km Pm yX12_grown cX12_grown 5 0 2 [.inr (.inr 0), .inl a1, .inl a2] σ (M_grown a1 a2 σ) := by
  refine mc_of (by decide) (Nat.le_of_ble_eq_true rfl) ?_
  change G l Km Pm RX12 cX12_grown 5 0 2 0 [some (.inr (.inr 0)), some (.inl a1), some (.inl a2), none, none] [] σ (M_grown a1 a2 σ)
  unfold M_grown
  refine g_iconst dX12_grown_0 (by decide) ?_
  refine g_istore_n (lv' := [some (.inr (.inr 0)), some (.inl a1), some (.inl a2), some (.inl 0), none]) dX12_grown_1 rfl (Nat.le_of_ble_eq_true rfl) rfl ?_
  refine g_iconst dX12_grown_2 (by decide) ?_
  refine g_istore (lv' := [some (.inr (.inr 0)), some (.inl a1), some (.inl a2), some (.inl 0), some (.inl 0)]) dX12_grown_3 (Nat.le_of_ble_eq_true rfl) rfl ?_
  refine (ok_M_grown_L5 a1 a2 fu 0 0 σ)
theorem dX12_numberOf_0 : decode cX12_numberOf 0 = .ok (.aload_n 0, 1) := by decide +kernel
theorem dX12_numberOf_1 : decode cX12_numberOf 1 = .ok (.getfield 20, 3) := by decide +kernel
theorem dX12_numberOf_4 : decode cX12_numberOf 4 = .ok (.bipush 60, 2) := by decide +kernel
theorem dX12_numberOf_6 : decode cX12_numberOf 6 = .ok (.iload_n 1, 1) := by decide +kernel
theorem dX12_numberOf_7 : decode cX12_numberOf 7 = .ok (.imul, 1) := by decide +kernel
theorem dX12_numberOf_8 : decode cX12_numberOf 8 = .ok (.iload_n 2, 1) := by decide +kernel
theorem dX12_numberOf_9 : decode cX12_numberOf 9 = .ok (.iadd, 1) := by decide +kernel
theorem dX12_numberOf_10 : decode cX12_numberOf 10 = .ok (.laload, 1) := by decide +kernel
theorem dX12_numberOf_11 : decode cX12_numberOf 11 = .ok (.lreturn, 1) := by decide +kernel
theorem mw_X12_numberOf : MW yX12_numberOf cX12_numberOf 3 1 2 false := ⟨tm 2218 (by decide +kernel) rfl, tm 249 (by decide +kernel) rfl, by decide, by decide, (by rw [if_neg (by decide)]; exact ⟨tm 2217 (by decide +kernel) rfl, tm 203 (by decide +kernel) rfl⟩)⟩
theorem fl_RX12_20 : FL RX12 20 10 6 := ⟨_, _, _, _, cw_10, by decide, Or.inr (Or.inr (Or.inr (by decide))), Or.inl (by decide), Or.inl (tm 1574 (by decide +kernel) rfl)⟩
def M_numberOf (a1 : Int) (a2 : Int) (σ : Sg) : Rs := (rd 240 (w32 ((w32 (60 * a1)) + a2)) (σ 3 (Int.toNat (w32 ((w32 (60 * a1)) + a2)))) (fun x1 => (some (x1, σ))))
theorem ok_M_numberOf (a1 : Int) (a2 : Int) (σ : Sg) : MC l Km Pm yX12_numberOf cX12_numberOf 3 1 1 [.inr (.inr 0), .inl a1, .inl a2] σ (M_numberOf a1 a2 σ) := by
  refine mc_of (by decide) (Nat.le_of_ble_eq_true rfl) ?_
  change G l Km Pm RX12 cX12_numberOf 3 1 1 0 [some (.inr (.inr 0)), some (.inl a1), some (.inl a2)] [] σ (M_numberOf a1 a2 σ)
  unfold M_numberOf
  refine g_aload_n dX12_numberOf_0 rfl rfl ?_
  refine g_getr' (q := 3) fl_RX12_20 km_0 (by decide) rfl dX12_numberOf_1 ?_
  refine g_bipush dX12_numberOf_4 (by decide) ?_
  refine g_iload_n dX12_numberOf_6 rfl rfl ?_
  refine g_imul dX12_numberOf_7 ?_
  refine g_iload_n dX12_numberOf_8 rfl rfl ?_
  refine g_iadd dX12_numberOf_9 ?_
  refine g_lald km_3 dX12_numberOf_10 ?_
  intro x1
  exact g_lret dX12_numberOf_11
theorem dX12_isUnsaid_0 : decode cX12_isUnsaid 0 = .ok (.iconst 0, 1) := by decide +kernel
theorem dX12_isUnsaid_1 : decode cX12_isUnsaid 1 = .ok (.istore 4, 2) := by decide +kernel
theorem dX12_isUnsaid_3 : decode cX12_isUnsaid 3 = .ok (.iload 4, 2) := by decide +kernel
theorem dX12_isUnsaid_5 : decode cX12_isUnsaid 5 = .ok (.iload_n 3, 1) := by decide +kernel
theorem dX12_isUnsaid_6 : decode cX12_isUnsaid 6 = .ok (.if_icmp .ge 42, 3) := by decide +kernel
theorem dX12_isUnsaid_9 : decode cX12_isUnsaid 9 = .ok (.aload_n 0, 1) := by decide +kernel
theorem dX12_isUnsaid_10 : decode cX12_isUnsaid 10 = .ok (.iload_n 1, 1) := by decide +kernel
theorem dX12_isUnsaid_11 : decode cX12_isUnsaid 11 = .ok (.aload_n 0, 1) := by decide +kernel
theorem dX12_isUnsaid_12 : decode cX12_isUnsaid 12 = .ok (.iload_n 2, 1) := by decide +kernel
theorem dX12_isUnsaid_13 : decode cX12_isUnsaid 13 = .ok (.iconst 2, 1) := by decide +kernel
theorem dX12_isUnsaid_14 : decode cX12_isUnsaid 14 = .ok (.iload 4, 2) := by decide +kernel
theorem dX12_isUnsaid_16 : decode cX12_isUnsaid 16 = .ok (.imul, 1) := by decide +kernel
theorem dX12_isUnsaid_17 : decode cX12_isUnsaid 17 = .ok (.invokevirtual 439, 3) := by decide +kernel
theorem dX12_isUnsaid_20 : decode cX12_isUnsaid 20 = .ok (.l2i, 1) := by decide +kernel
theorem dX12_isUnsaid_21 : decode cX12_isUnsaid 21 = .ok (.invokevirtual 443, 3) := by decide +kernel
theorem dX12_isUnsaid_24 : decode cX12_isUnsaid 24 = .ok (.i2l, 1) := by decide +kernel
theorem dX12_isUnsaid_25 : decode cX12_isUnsaid 25 = .ok (.aload_n 0, 1) := by decide +kernel
theorem dX12_isUnsaid_26 : decode cX12_isUnsaid 26 = .ok (.iload_n 2, 1) := by decide +kernel
theorem dX12_isUnsaid_27 : decode cX12_isUnsaid 27 = .ok (.iconst 2, 1) := by decide +kernel
theorem dX12_isUnsaid_28 : decode cX12_isUnsaid 28 = .ok (.iload 4, 2) := by decide +kernel
theorem dX12_isUnsaid_30 : decode cX12_isUnsaid 30 = .ok (.imul, 1) := by decide +kernel
theorem dX12_isUnsaid_31 : decode cX12_isUnsaid 31 = .ok (.iconst 1, 1) := by decide +kernel
theorem dX12_isUnsaid_32 : decode cX12_isUnsaid 32 = .ok (.iadd, 1) := by decide +kernel
theorem dX12_isUnsaid_33 : decode cX12_isUnsaid 33 = .ok (.invokevirtual 439, 3) := by decide +kernel
theorem dX12_isUnsaid_36 : decode cX12_isUnsaid 36 = .ok (.lcmp, 1) := by decide +kernel
theorem dX12_isUnsaid_37 : decode cX12_isUnsaid 37 = .ok (.ifCond .eq 5, 3) := by decide +kernel
theorem dX12_isUnsaid_40 : decode cX12_isUnsaid 40 = .ok (.iconst 0, 1) := by decide +kernel
theorem dX12_isUnsaid_41 : decode cX12_isUnsaid 41 = .ok (.ireturn, 1) := by decide +kernel
theorem dX12_isUnsaid_42 : decode cX12_isUnsaid 42 = .ok (.iinc 4 1, 3) := by decide +kernel
theorem dX12_isUnsaid_45 : decode cX12_isUnsaid 45 = .ok (.goto (-42), 3) := by decide +kernel
theorem dX12_isUnsaid_48 : decode cX12_isUnsaid 48 = .ok (.iconst 1, 1) := by decide +kernel
theorem dX12_isUnsaid_49 : decode cX12_isUnsaid 49 = .ok (.ireturn, 1) := by decide +kernel
theorem mw_X12_isUnsaid : MW yX12_isUnsaid cX12_isUnsaid 5 3 3 false := ⟨tm 2230 (by decide +kernel) rfl, tm 249 (by decide +kernel) rfl, by decide, by decide, (by rw [if_neg (by decide)]; exact ⟨tm 2229 (by decide +kernel) rfl, tm 206 (by decide +kernel) rfl⟩)⟩
theorem lk_RX12_439 : LK RX12 439 yX12_numberOf := Or.inl (tm 2215 (by decide +kernel) rfl)
theorem lk_RX12_443 : LK RX12 443 yX12_grown := Or.inl (tm 2231 (by decide +kernel) rfl)
def M_isUnsaid_L3 (a1 : Int) (a2 : Int) (a3 : Int) : Nat → Int → Sg → Rs
  | 0, _, _ => none
  | n + 1, v4, σ => (if v4 < a3 then (bd (M_numberOf a2 (w32 (2 * v4)) σ) (fun r1 s2 => (bd (M_grown a1 (w32 r1) s2) (fun r3 s4 => (bd (M_numberOf a2 (w32 ((w32 (2 * v4)) + 1)) s4) (fun r5 s6 => (if r3 = r5 then (nm (w32 (v4 + 1)) (fun x7 => (M_isUnsaid_L3 a1 a2 a3 n x7 s6))) else (some (0, s6))))))))) else (some (1, σ)))
theorem ok_M_isUnsaid_L3 (a1 : Int) (a2 : Int) (a3 : Int) : ∀ (n : Nat) (v4 : Int) (σ : Sg), G l Km Pm RX12 cX12_isUnsaid 5 3 3 3 [some (.inr (.inr 0)), some (.inl a1), some (.inl a2), some (.inl a3), some (.inl v4)] [] σ (M_isUnsaid_L3 a1 a2 a3 n v4 σ) := by
  intro n
  induction n with
  | zero => intros; exact G.none_
  | succ n ih =>
    intro v4 σ
    rw [M_isUnsaid_L3]
    refine g_iload dX12_isUnsaid_3 rfl ?_
    refine g_iload_n dX12_isUnsaid_5 rfl rfl ?_
    refine g_icmpge (tgt := 48) dX12_isUnsaid_6 (by decide) ?_ ?_
    · refine g_aload_n dX12_isUnsaid_9 rfl rfl ?_
      refine g_iload_n dX12_isUnsaid_10 rfl rfl ?_
      refine g_aload_n dX12_isUnsaid_11 rfl rfl ?_
      refine g_iload_n dX12_isUnsaid_12 rfl rfl ?_
      refine g_iconst dX12_isUnsaid_13 (by decide) ?_
      refine g_iload dX12_isUnsaid_14 rfl ?_
      refine g_imul dX12_isUnsaid_16 ?_
      refine g_callv1 (st := [.inl a1, .inr (.inr 0)]) 10 mw_X12_numberOf lk_RX12_439 rfl km_0 (ok_M_numberOf a2 (w32 (2 * v4)) σ) (Nat.le_of_ble_eq_true rfl) rfl rfl (Nat.le_of_ble_eq_true rfl) dX12_isUnsaid_17 ?_
      intro r1 s2
      refine g_l2i dX12_isUnsaid_20 ?_
      refine g_callv0 (st := []) 10 mw_X12_grown lk_RX12_443 rfl km_0 (ok_M_grown a1 (w32 r1) s2) (Nat.le_of_ble_eq_true rfl) rfl rfl (Nat.le_of_ble_eq_true rfl) dX12_isUnsaid_21 ?_
      intro r3 s4
      refine g_i2l dX12_isUnsaid_24 ?_
      refine g_aload_n dX12_isUnsaid_25 rfl rfl ?_
      refine g_iload_n dX12_isUnsaid_26 rfl rfl ?_
      refine g_iconst dX12_isUnsaid_27 (by decide) ?_
      refine g_iload dX12_isUnsaid_28 rfl ?_
      refine g_imul dX12_isUnsaid_30 ?_
      refine g_iconst dX12_isUnsaid_31 (by decide) ?_
      refine g_iadd dX12_isUnsaid_32 ?_
      refine g_callv1 (st := [.inr (.inl r3)]) 10 mw_X12_numberOf lk_RX12_439 rfl km_0 (ok_M_numberOf a2 (w32 ((w32 (2 * v4)) + 1)) s4) (Nat.le_of_ble_eq_true rfl) rfl rfl (Nat.le_of_ble_eq_true rfl) dX12_isUnsaid_33 ?_
      intro r5 s6
      refine g_lcmpeq (tgt := 42) dX12_isUnsaid_36 dX12_isUnsaid_37 (by decide) ?_ ?_
      · refine n_iinc (fun x7 => [some (.inr (.inr 0)), some (.inl a1), some (.inl a2), some (.inl a3), some (.inl x7)]) dX12_isUnsaid_42 rfl (Nat.le_of_ble_eq_true rfl) (fun _ => rfl) ?_
        intro x7
        refine g_goto (tgt := 3) dX12_isUnsaid_45 (by decide) ?_
        exact (ih x7 s6)
      · refine g_iconst dX12_isUnsaid_40 (by decide) ?_
        exact g_zret0 dX12_isUnsaid_41
    · refine g_iconst dX12_isUnsaid_48 (by decide) ?_
      exact g_zret1 dX12_isUnsaid_49
def M_isUnsaid (a1 : Int) (a2 : Int) (a3 : Int) (σ : Sg) : Rs := (M_isUnsaid_L3 a1 a2 a3 fu 0 σ)
theorem ok_M_isUnsaid (a1 : Int) (a2 : Int) (a3 : Int) (σ : Sg) : MC l Km Pm yX12_isUnsaid cX12_isUnsaid 5 3 3 [.inr (.inr 0), .inl a1, .inl a2, .inl a3] σ (M_isUnsaid a1 a2 a3 σ) := by
  refine mc_of (by decide) (Nat.le_of_ble_eq_true rfl) ?_
  change G l Km Pm RX12 cX12_isUnsaid 5 3 3 0 [some (.inr (.inr 0)), some (.inl a1), some (.inl a2), some (.inl a3), none] [] σ (M_isUnsaid a1 a2 a3 σ)
  unfold M_isUnsaid
  refine g_iconst dX12_isUnsaid_0 (by decide) ?_
  refine g_istore (lv' := [some (.inr (.inr 0)), some (.inl a1), some (.inl a2), some (.inl a3), some (.inl 0)]) dX12_isUnsaid_1 (Nat.le_of_ble_eq_true rfl) rfl ?_
  refine (ok_M_isUnsaid_L3 a1 a2 a3 fu 0 σ)
theorem dX12_laysUnsaid_0 : decode cX12_laysUnsaid 0 = .ok (.aload_n 0, 1) := by decide +kernel
theorem dX12_laysUnsaid_1 : decode cX12_laysUnsaid 1 = .ok (.iconst 0, 1) := by decide +kernel
theorem dX12_laysUnsaid_2 : decode cX12_laysUnsaid 2 = .ok (.putfield 446, 3) := by decide +kernel
theorem dX12_laysUnsaid_5 : decode cX12_laysUnsaid 5 = .ok (.aload_n 0, 1) := by decide +kernel
theorem dX12_laysUnsaid_6 : decode cX12_laysUnsaid 6 = .ok (.aload_n 0, 1) := by decide +kernel
theorem dX12_laysUnsaid_7 : decode cX12_laysUnsaid 7 = .ok (.invokevirtual 431, 3) := by decide +kernel
theorem dX12_laysUnsaid_10 : decode cX12_laysUnsaid 10 = .ok (.putfield 449, 3) := by decide +kernel
theorem dX12_laysUnsaid_13 : decode cX12_laysUnsaid 13 = .ok (.iconst 0, 1) := by decide +kernel
theorem dX12_laysUnsaid_14 : decode cX12_laysUnsaid 14 = .ok (.istore_n 3, 1) := by decide +kernel
theorem dX12_laysUnsaid_15 : decode cX12_laysUnsaid 15 = .ok (.iload_n 3, 1) := by decide +kernel
theorem dX12_laysUnsaid_16 : decode cX12_laysUnsaid 16 = .ok (.aload_n 0, 1) := by decide +kernel
theorem dX12_laysUnsaid_17 : decode cX12_laysUnsaid 17 = .ok (.invokevirtual 431, 3) := by decide +kernel
theorem dX12_laysUnsaid_20 : decode cX12_laysUnsaid 20 = .ok (.if_icmp .gt 54, 3) := by decide +kernel
theorem dX12_laysUnsaid_23 : decode cX12_laysUnsaid 23 = .ok (.aload_n 0, 1) := by decide +kernel
theorem dX12_laysUnsaid_24 : decode cX12_laysUnsaid 24 = .ok (.getfield 47, 3) := by decide +kernel
theorem dX12_laysUnsaid_27 : decode cX12_laysUnsaid 27 = .ok (.iload_n 3, 1) := by decide +kernel
theorem dX12_laysUnsaid_28 : decode cX12_laysUnsaid 28 = .ok (.aload_n 0, 1) := by decide +kernel
theorem dX12_laysUnsaid_29 : decode cX12_laysUnsaid 29 = .ok (.iload_n 3, 1) := by decide +kernel
theorem dX12_laysUnsaid_30 : decode cX12_laysUnsaid 30 = .ok (.iload_n 1, 1) := by decide +kernel
theorem dX12_laysUnsaid_31 : decode cX12_laysUnsaid 31 = .ok (.iload_n 2, 1) := by decide +kernel
theorem dX12_laysUnsaid_32 : decode cX12_laysUnsaid 32 = .ok (.invokevirtual 452, 3) := by decide +kernel
theorem dX12_laysUnsaid_35 : decode cX12_laysUnsaid 35 = .ok (.bastore, 1) := by decide +kernel
theorem dX12_laysUnsaid_36 : decode cX12_laysUnsaid 36 = .ok (.aload_n 0, 1) := by decide +kernel
theorem dX12_laysUnsaid_37 : decode cX12_laysUnsaid 37 = .ok (.getfield 47, 3) := by decide +kernel
theorem dX12_laysUnsaid_40 : decode cX12_laysUnsaid 40 = .ok (.iload_n 3, 1) := by decide +kernel
theorem dX12_laysUnsaid_41 : decode cX12_laysUnsaid 41 = .ok (.baload, 1) := by decide +kernel
theorem dX12_laysUnsaid_42 : decode cX12_laysUnsaid 42 = .ok (.ifCond .ne 6, 3) := by decide +kernel
theorem dX12_laysUnsaid_45 : decode cX12_laysUnsaid 45 = .ok (.goto 23, 3) := by decide +kernel
theorem dX12_laysUnsaid_48 : decode cX12_laysUnsaid 48 = .ok (.aload_n 0, 1) := by decide +kernel
theorem dX12_laysUnsaid_49 : decode cX12_laysUnsaid 49 = .ok (.dup, 1) := by decide +kernel
theorem dX12_laysUnsaid_50 : decode cX12_laysUnsaid 50 = .ok (.getfield 446, 3) := by decide +kernel
theorem dX12_laysUnsaid_53 : decode cX12_laysUnsaid 53 = .ok (.iconst 1, 1) := by decide +kernel
theorem dX12_laysUnsaid_54 : decode cX12_laysUnsaid 54 = .ok (.iadd, 1) := by decide +kernel
theorem dX12_laysUnsaid_55 : decode cX12_laysUnsaid 55 = .ok (.putfield 446, 3) := by decide +kernel
theorem dX12_laysUnsaid_58 : decode cX12_laysUnsaid 58 = .ok (.aload_n 0, 1) := by decide +kernel
theorem dX12_laysUnsaid_59 : decode cX12_laysUnsaid 59 = .ok (.dup, 1) := by decide +kernel
theorem dX12_laysUnsaid_60 : decode cX12_laysUnsaid 60 = .ok (.getfield 449, 3) := by decide +kernel
theorem dX12_laysUnsaid_63 : decode cX12_laysUnsaid 63 = .ok (.iload_n 3, 1) := by decide +kernel
theorem dX12_laysUnsaid_64 : decode cX12_laysUnsaid 64 = .ok (.iand, 1) := by decide +kernel
theorem dX12_laysUnsaid_65 : decode cX12_laysUnsaid 65 = .ok (.putfield 449, 3) := by decide +kernel
theorem dX12_laysUnsaid_68 : decode cX12_laysUnsaid 68 = .ok (.iinc 3 1, 3) := by decide +kernel
theorem dX12_laysUnsaid_71 : decode cX12_laysUnsaid 71 = .ok (.goto (-56), 3) := by decide +kernel
theorem dX12_laysUnsaid_74 : decode cX12_laysUnsaid 74 = .ok (.return_, 1) := by decide +kernel
theorem mw_X12_laysUnsaid : MW yX12_laysUnsaid cX12_laysUnsaid 4 2 2 false := ⟨tm 2222 (by decide +kernel) rfl, tm 249 (by decide +kernel) rfl, by decide, by decide, (by rw [if_neg (by decide)]; exact ⟨tm 2221 (by decide +kernel) rfl, tm 204 (by decide +kernel) rfl⟩)⟩
theorem lk_RX12_452 : LK RX12 452 yX12_isUnsaid := Or.inl (tm 2227 (by decide +kernel) rfl)
theorem fl_RX12_47 : FL RX12 47 10 29 := ⟨_, _, _, _, cw_10, by decide, Or.inr (Or.inr (Or.inr (by decide))), Or.inl (by decide), Or.inl (tm 1597 (by decide +kernel) rfl)⟩
theorem fl_RX12_446 : FL RX12 446 10 27 := ⟨_, _, _, _, cw_10, by decide, Or.inl (by decide), Or.inr (by decide), Or.inl (tm 1595 (by decide +kernel) rfl)⟩
theorem fl_RX12_449 : FL RX12 449 10 28 := ⟨_, _, _, _, cw_10, by decide, Or.inl (by decide), Or.inr (by decide), Or.inl (tm 1596 (by decide +kernel) rfl)⟩
def M_laysUnsaid_L15 (a1 : Int) (a2 : Int) : Nat → Int → Sg → Rs
  | 0, _, _ => none
  | n + 1, v3, σ => (bd (M_allWords σ) (fun r5 s6 => (if r5 < v3 then (some (0, s6)) else (bd (M_isUnsaid v3 a1 a2 s6) (fun r7 s8 => (zb r7 (wr 256 v3 (up_s s8 9 (Int.toNat v3) r7) (fun s9 => (rd 256 v3 (s9 9 (Int.toNat v3)) (fun x10 => (if x10 = 0 then (nm (w32 (v3 + 1)) (fun x11 => (M_laysUnsaid_L15 a1 a2 n x11 s9))) else (nm (up_s s9 0 27 (w32 ((s9 0 27) + 1))) (fun s12 => (nm (up_s s12 0 28 (an32 (s12 0 28) v3)) (fun s13 => (nm (w32 (v3 + 1)) (fun x14 => (M_laysUnsaid_L15 a1 a2 n x14 s13))))))))))))))))))
theorem ok_M_laysUnsaid_L15 (a1 : Int) (a2 : Int) : ∀ (n : Nat) (v3 : Int) (σ : Sg), G l Km Pm RX12 cX12_laysUnsaid 4 2 4 15 [some (.inr (.inr 0)), some (.inl a1), some (.inl a2), some (.inl v3)] [] σ (M_laysUnsaid_L15 a1 a2 n v3 σ) := by
  intro n
  induction n with
  | zero => intros; exact G.none_
  | succ n ih =>
    intro v3 σ
    rw [M_laysUnsaid_L15]
    refine g_iload_n dX12_laysUnsaid_15 rfl rfl ?_
    refine g_aload_n dX12_laysUnsaid_16 rfl rfl ?_
    refine g_callv0 (st := [.inl v3]) 10 mw_X12_allWords lk_RX12_431 rfl km_0 (ok_M_allWords σ) (Nat.le_of_ble_eq_true rfl) rfl rfl (Nat.le_of_ble_eq_true rfl) dX12_laysUnsaid_17 ?_
    intro r5 s6
    refine g_icmpgt (tgt := 74) dX12_laysUnsaid_20 (by decide) ?_ ?_
    · exact g_vret dX12_laysUnsaid_74
    · refine g_aload_n dX12_laysUnsaid_23 rfl rfl ?_
      refine g_getr' (q := 9) fl_RX12_47 km_0 (by decide) rfl dX12_laysUnsaid_24 ?_
      refine g_iload_n dX12_laysUnsaid_27 rfl rfl ?_
      refine g_aload_n dX12_laysUnsaid_28 rfl rfl ?_
      refine g_iload_n dX12_laysUnsaid_29 rfl rfl ?_
      refine g_iload_n dX12_laysUnsaid_30 rfl rfl ?_
      refine g_iload_n dX12_laysUnsaid_31 rfl rfl ?_
      refine g_callv3 (st := [.inl v3, .inr (.inr 9)]) 10 mw_X12_isUnsaid lk_RX12_452 rfl km_0 (ok_M_isUnsaid v3 a1 a2 s6) (Nat.le_of_ble_eq_true rfl) rfl rfl (Nat.le_of_ble_eq_true rfl) dX12_laysUnsaid_32 ?_
      intro r7 s8
      refine g_zast km_9 dX12_laysUnsaid_35 ?_
      intro s9
      refine g_aload_n dX12_laysUnsaid_36 rfl rfl ?_
      refine g_getr' (q := 9) fl_RX12_47 km_0 (by decide) rfl dX12_laysUnsaid_37 ?_
      refine g_iload_n dX12_laysUnsaid_40 rfl rfl ?_
      refine g_zald km_9 dX12_laysUnsaid_41 ?_
      intro x10
      refine g_ifne (tgt := 48) dX12_laysUnsaid_42 (by decide) ?_ ?_
      · refine g_goto (tgt := 68) dX12_laysUnsaid_45 (by decide) ?_
        refine n_iinc (fun x11 => [some (.inr (.inr 0)), some (.inl a1), some (.inl a2), some (.inl x11)]) dX12_laysUnsaid_68 rfl (Nat.le_of_ble_eq_true rfl) (fun _ => rfl) ?_
        intro x11
        refine g_goto (tgt := 15) dX12_laysUnsaid_71 (by decide) ?_
        exact (ih x11 s9)
      · refine g_aload_n dX12_laysUnsaid_48 rfl rfl ?_
        refine g_dup dX12_laysUnsaid_49 rfl ?_
        refine g_geti fl_RX12_446 km_0 (by decide) dX12_laysUnsaid_50 ?_
        refine g_iconst dX12_laysUnsaid_53 (by decide) ?_
        refine g_iadd dX12_laysUnsaid_54 ?_
        refine g_puti fl_RX12_446 km_0 (by decide) dX12_laysUnsaid_55 ?_
        intro s12
        refine g_aload_n dX12_laysUnsaid_58 rfl rfl ?_
        refine g_dup dX12_laysUnsaid_59 rfl ?_
        refine g_geti fl_RX12_449 km_0 (by decide) dX12_laysUnsaid_60 ?_
        refine g_iload_n dX12_laysUnsaid_63 rfl rfl ?_
        refine g_iand dX12_laysUnsaid_64 ?_
        refine g_puti fl_RX12_449 km_0 (by decide) dX12_laysUnsaid_65 ?_
        intro s13
        refine n_iinc (fun x14 => [some (.inr (.inr 0)), some (.inl a1), some (.inl a2), some (.inl x14)]) dX12_laysUnsaid_68 rfl (Nat.le_of_ble_eq_true rfl) (fun _ => rfl) ?_
        intro x14
        refine g_goto (tgt := 15) dX12_laysUnsaid_71 (by decide) ?_
        exact (ih x14 s13)
def M_laysUnsaid (a1 : Int) (a2 : Int) (σ : Sg) : Rs := (nm (up_s σ 0 27 0) (fun s1 => (bd (M_allWords s1) (fun r2 s3 => (nm (up_s s3 0 28 r2) (fun s4 => (M_laysUnsaid_L15 a1 a2 fu 0 s4)))))))
theorem ok_M_laysUnsaid (a1 : Int) (a2 : Int) (σ : Sg) : MC l Km Pm yX12_laysUnsaid cX12_laysUnsaid 4 2 4 [.inr (.inr 0), .inl a1, .inl a2] σ (M_laysUnsaid a1 a2 σ) := by
  refine mc_of (by decide) (Nat.le_of_ble_eq_true rfl) ?_
  change G l Km Pm RX12 cX12_laysUnsaid 4 2 4 0 [some (.inr (.inr 0)), some (.inl a1), some (.inl a2), none] [] σ (M_laysUnsaid a1 a2 σ)
  unfold M_laysUnsaid
  refine g_aload_n dX12_laysUnsaid_0 rfl rfl ?_
  refine g_iconst dX12_laysUnsaid_1 (by decide) ?_
  refine g_puti fl_RX12_446 km_0 (by decide) dX12_laysUnsaid_2 ?_
  intro s1
  refine g_aload_n dX12_laysUnsaid_5 rfl rfl ?_
  refine g_aload_n dX12_laysUnsaid_6 rfl rfl ?_
  refine g_callv0 (st := [.inr (.inr 0)]) 10 mw_X12_allWords lk_RX12_431 rfl km_0 (ok_M_allWords s1) (Nat.le_of_ble_eq_true rfl) rfl rfl (Nat.le_of_ble_eq_true rfl) dX12_laysUnsaid_7 ?_
  intro r2 s3
  refine g_puti fl_RX12_449 km_0 (by decide) dX12_laysUnsaid_10 ?_
  intro s4
  refine g_iconst dX12_laysUnsaid_13 (by decide) ?_
  refine g_istore_n (lv' := [some (.inr (.inr 0)), some (.inl a1), some (.inl a2), some (.inl 0)]) dX12_laysUnsaid_14 rfl (Nat.le_of_ble_eq_true rfl) rfl ?_
  refine (ok_M_laysUnsaid_L15 a1 a2 fu 0 s4)
theorem dX12_refuse_0 : decode cX12_refuse 0 = .ok (.aload_n 0, 1) := by decide +kernel
theorem dX12_refuse_1 : decode cX12_refuse 1 = .ok (.iload_n 1, 1) := by decide +kernel
theorem dX12_refuse_2 : decode cX12_refuse 2 = .ok (.putfield 70, 3) := by decide +kernel
theorem dX12_refuse_5 : decode cX12_refuse 5 = .ok (.iconst (-1), 1) := by decide +kernel
theorem dX12_refuse_6 : decode cX12_refuse 6 = .ok (.ireturn, 1) := by decide +kernel
theorem mw_X12_refuse : MW yX12_refuse cX12_refuse 2 0 1 false := ⟨tm 1984 (by decide +kernel) rfl, tm 249 (by decide +kernel) rfl, by decide, by decide, (by rw [if_neg (by decide)]; exact ⟨tm 1983 (by decide +kernel) rfl, tm 174 (by decide +kernel) rfl⟩)⟩
theorem fl_RX12_70 : FL RX12 70 10 0 := ⟨_, _, _, _, cw_10, by decide, Or.inl (by decide), Or.inr (by decide), Or.inl (tm 1568 (by decide +kernel) rfl)⟩
def M_refuse (a1 : Int) (σ : Sg) : Rs := (nm (up_s σ 0 0 a1) (fun s1 => (some ((-1), s1))))
theorem ok_M_refuse (a1 : Int) (σ : Sg) : MC l Km Pm yX12_refuse cX12_refuse 2 0 1 [.inr (.inr 0), .inl a1] σ (M_refuse a1 σ) := by
  refine mc_of (by decide) (Nat.le_of_ble_eq_true rfl) ?_
  change G l Km Pm RX12 cX12_refuse 2 0 1 0 [some (.inr (.inr 0)), some (.inl a1)] [] σ (M_refuse a1 σ)
  unfold M_refuse
  refine g_aload_n dX12_refuse_0 rfl rfl ?_
  refine g_iload_n dX12_refuse_1 rfl rfl ?_
  refine g_puti fl_RX12_70 km_0 (by decide) dX12_refuse_2 ?_
  intro s1
  refine g_iconst dX12_refuse_5 (by decide) ?_
  exact g_iret dX12_refuse_6
theorem dX12_unlike_0 : decode cX12_unlike 0 = .ok (.iconst 0, 1) := by decide +kernel
theorem dX12_unlike_1 : decode cX12_unlike 1 = .ok (.istore_n 2, 1) := by decide +kernel
theorem dX12_unlike_2 : decode cX12_unlike 2 = .ok (.iconst 0, 1) := by decide +kernel
theorem dX12_unlike_3 : decode cX12_unlike 3 = .ok (.istore_n 3, 1) := by decide +kernel
theorem dX12_unlike_4 : decode cX12_unlike 4 = .ok (.iload_n 3, 1) := by decide +kernel
theorem dX12_unlike_5 : decode cX12_unlike 5 = .ok (.aload_n 0, 1) := by decide +kernel
theorem dX12_unlike_6 : decode cX12_unlike 6 = .ok (.invokevirtual 431, 3) := by decide +kernel
theorem dX12_unlike_9 : decode cX12_unlike 9 = .ok (.if_icmp .gt 102, 3) := by decide +kernel
theorem dX12_unlike_12 : decode cX12_unlike 12 = .ok (.aload_n 0, 1) := by decide +kernel
theorem dX12_unlike_13 : decode cX12_unlike 13 = .ok (.getfield 47, 3) := by decide +kernel
theorem dX12_unlike_16 : decode cX12_unlike 16 = .ok (.iload_n 3, 1) := by decide +kernel
theorem dX12_unlike_17 : decode cX12_unlike 17 = .ok (.baload, 1) := by decide +kernel
theorem dX12_unlike_18 : decode cX12_unlike 18 = .ok (.ifCond .ne 6, 3) := by decide +kernel
theorem dX12_unlike_21 : decode cX12_unlike 21 = .ok (.goto 84, 3) := by decide +kernel
theorem dX12_unlike_24 : decode cX12_unlike 24 = .ok (.aload_n 0, 1) := by decide +kernel
theorem dX12_unlike_25 : decode cX12_unlike 25 = .ok (.getfield 51, 3) := by decide +kernel
theorem dX12_unlike_28 : decode cX12_unlike 28 = .ok (.iload_n 3, 1) := by decide +kernel
theorem dX12_unlike_29 : decode cX12_unlike 29 = .ok (.aload_n 0, 1) := by decide +kernel
theorem dX12_unlike_30 : decode cX12_unlike 30 = .ok (.iload_n 3, 1) := by decide +kernel
theorem dX12_unlike_31 : decode cX12_unlike 31 = .ok (.iload_n 1, 1) := by decide +kernel
theorem dX12_unlike_32 : decode cX12_unlike 32 = .ok (.invokevirtual 443, 3) := by decide +kernel
theorem dX12_unlike_35 : decode cX12_unlike 35 = .ok (.iastore, 1) := by decide +kernel
theorem dX12_unlike_36 : decode cX12_unlike 36 = .ok (.iconst 1, 1) := by decide +kernel
theorem dX12_unlike_37 : decode cX12_unlike 37 = .ok (.istore 4, 2) := by decide +kernel
theorem dX12_unlike_39 : decode cX12_unlike 39 = .ok (.iconst 0, 1) := by decide +kernel
theorem dX12_unlike_40 : decode cX12_unlike 40 = .ok (.istore 5, 2) := by decide +kernel
theorem dX12_unlike_42 : decode cX12_unlike 42 = .ok (.iload 5, 2) := by decide +kernel
theorem dX12_unlike_44 : decode cX12_unlike 44 = .ok (.iload_n 3, 1) := by decide +kernel
theorem dX12_unlike_45 : decode cX12_unlike 45 = .ok (.if_icmp .ge 47, 3) := by decide +kernel
theorem dX12_unlike_48 : decode cX12_unlike 48 = .ok (.iload 4, 2) := by decide +kernel
theorem dX12_unlike_50 : decode cX12_unlike 50 = .ok (.ifCond .eq 42, 3) := by decide +kernel
theorem dX12_unlike_53 : decode cX12_unlike 53 = .ok (.aload_n 0, 1) := by decide +kernel
theorem dX12_unlike_54 : decode cX12_unlike 54 = .ok (.getfield 47, 3) := by decide +kernel
theorem dX12_unlike_57 : decode cX12_unlike 57 = .ok (.iload 5, 2) := by decide +kernel
theorem dX12_unlike_59 : decode cX12_unlike 59 = .ok (.baload, 1) := by decide +kernel
theorem dX12_unlike_60 : decode cX12_unlike 60 = .ok (.ifCond .eq 19, 3) := by decide +kernel
theorem dX12_unlike_63 : decode cX12_unlike 63 = .ok (.aload_n 0, 1) := by decide +kernel
theorem dX12_unlike_64 : decode cX12_unlike 64 = .ok (.getfield 51, 3) := by decide +kernel
theorem dX12_unlike_67 : decode cX12_unlike 67 = .ok (.iload 5, 2) := by decide +kernel
theorem dX12_unlike_69 : decode cX12_unlike 69 = .ok (.iaload, 1) := by decide +kernel
theorem dX12_unlike_70 : decode cX12_unlike 70 = .ok (.aload_n 0, 1) := by decide +kernel
theorem dX12_unlike_71 : decode cX12_unlike 71 = .ok (.getfield 51, 3) := by decide +kernel
theorem dX12_unlike_74 : decode cX12_unlike 74 = .ok (.iload_n 3, 1) := by decide +kernel
theorem dX12_unlike_75 : decode cX12_unlike 75 = .ok (.iaload, 1) := by decide +kernel
theorem dX12_unlike_76 : decode cX12_unlike 76 = .ok (.if_icmp .eq 7, 3) := by decide +kernel
theorem dX12_unlike_79 : decode cX12_unlike 79 = .ok (.iconst 1, 1) := by decide +kernel
theorem dX12_unlike_80 : decode cX12_unlike 80 = .ok (.goto 4, 3) := by decide +kernel
theorem dX12_unlike_83 : decode cX12_unlike 83 = .ok (.iconst 0, 1) := by decide +kernel
theorem dX12_unlike_84 : decode cX12_unlike 84 = .ok (.istore 4, 2) := by decide +kernel
theorem dX12_unlike_86 : decode cX12_unlike 86 = .ok (.iinc 5 1, 3) := by decide +kernel
theorem dX12_unlike_89 : decode cX12_unlike 89 = .ok (.goto (-47), 3) := by decide +kernel
theorem dX12_unlike_92 : decode cX12_unlike 92 = .ok (.iload_n 2, 1) := by decide +kernel
theorem dX12_unlike_93 : decode cX12_unlike 93 = .ok (.iload 4, 2) := by decide +kernel
theorem dX12_unlike_95 : decode cX12_unlike 95 = .ok (.ifCond .eq 7, 3) := by decide +kernel
theorem dX12_unlike_98 : decode cX12_unlike 98 = .ok (.iconst 1, 1) := by decide +kernel
theorem dX12_unlike_99 : decode cX12_unlike 99 = .ok (.goto 4, 3) := by decide +kernel
theorem dX12_unlike_102 : decode cX12_unlike 102 = .ok (.iconst 0, 1) := by decide +kernel
theorem dX12_unlike_103 : decode cX12_unlike 103 = .ok (.iadd, 1) := by decide +kernel
theorem dX12_unlike_104 : decode cX12_unlike 104 = .ok (.istore_n 2, 1) := by decide +kernel
theorem dX12_unlike_105 : decode cX12_unlike 105 = .ok (.iinc 3 1, 3) := by decide +kernel
theorem dX12_unlike_108 : decode cX12_unlike 108 = .ok (.goto (-104), 3) := by decide +kernel
theorem dX12_unlike_111 : decode cX12_unlike 111 = .ok (.iload_n 2, 1) := by decide +kernel
theorem dX12_unlike_112 : decode cX12_unlike 112 = .ok (.ireturn, 1) := by decide +kernel
theorem mw_X12_unlike : MW yX12_unlike cX12_unlike 6 0 1 false := ⟨tm 2246 (by decide +kernel) rfl, tm 249 (by decide +kernel) rfl, by decide, by decide, (by rw [if_neg (by decide)]; exact ⟨tm 2245 (by decide +kernel) rfl, tm 208 (by decide +kernel) rfl⟩)⟩
theorem fl_RX12_51 : FL RX12 51 10 30 := ⟨_, _, _, _, cw_10, by decide, Or.inr (Or.inr (Or.inr (by decide))), Or.inl (by decide), Or.inl (tm 1598 (by decide +kernel) rfl)⟩
def M_unlike_L42 (a1 : Int) (v2 : Int) (v3 : Int) (k92 : Int → Int → Int → Sg → Rs) : Nat → Int → Int → Sg → Rs
  | 0, _, _, _ => none
  | n + 1, v4, v5, σ => (if v5 < v3 then (if v4 = 0 then (k92 v2 v3 v4 σ) else (rd 256 v5 (σ 9 (Int.toNat v5)) (fun x8 => (if x8 = 0 then (nm (w32 (v5 + 1)) (fun x9 => (M_unlike_L42 a1 v2 v3 k92 n 1 x9 σ))) else (rd 256 v5 (σ 10 (Int.toNat v5)) (fun x10 => (rd 256 v3 (σ 10 (Int.toNat v3)) (fun x11 => (if x10 = x11 then (nm (w32 (v5 + 1)) (fun x12 => (M_unlike_L42 a1 v2 v3 k92 n 0 x12 σ))) else (nm (w32 (v5 + 1)) (fun x13 => (M_unlike_L42 a1 v2 v3 k92 n 1 x13 σ)))))))))))) else (k92 v2 v3 v4 σ))
theorem ok_M_unlike_L42 (a1 : Int) (v2 : Int) (v3 : Int) (k92 : Int → Int → Int → Sg → Rs) (hk92 : ∀ (y2 y3 y4 : Int) (σ : Sg), G l Km Pm RX12 cX12_unlike 6 0 3 92 [some (.inr (.inr 0)), some (.inl a1), some (.inl y2), some (.inl y3), some (.inl y4), none] [] σ (k92 y2 y3 y4 σ)) : ∀ (n : Nat) (v4 v5 : Int) (σ : Sg), G l Km Pm RX12 cX12_unlike 6 0 3 42 [some (.inr (.inr 0)), some (.inl a1), some (.inl v2), some (.inl v3), some (.inl v4), some (.inl v5)] [] σ (M_unlike_L42 a1 v2 v3 k92 n v4 v5 σ) := by
  intro n
  induction n with
  | zero => intros; exact G.none_
  | succ n ih =>
    intro v4 v5 σ
    rw [M_unlike_L42]
    refine g_iload dX12_unlike_42 rfl ?_
    refine g_iload_n dX12_unlike_44 rfl rfl ?_
    refine g_icmpge (tgt := 92) dX12_unlike_45 (by decide) ?_ ?_
    · refine g_iload dX12_unlike_48 rfl ?_
      refine g_ifeq (tgt := 92) dX12_unlike_50 (by decide) ?_ ?_
      · exact (g_weak [true, true, true, true, true, false] (hk92 v2 v3 v4 σ))
      · refine g_aload_n dX12_unlike_53 rfl rfl ?_
        refine g_getr' (q := 9) fl_RX12_47 km_0 (by decide) rfl dX12_unlike_54 ?_
        refine g_iload dX12_unlike_57 rfl ?_
        refine g_zald km_9 dX12_unlike_59 ?_
        intro x8
        refine g_ifeq (tgt := 79) dX12_unlike_60 (by decide) ?_ ?_
        · refine g_iconst dX12_unlike_79 (by decide) ?_
          refine g_goto (tgt := 84) dX12_unlike_80 (by decide) ?_
          refine g_istore (lv' := [some (.inr (.inr 0)), some (.inl a1), some (.inl v2), some (.inl v3), some (.inl 1), some (.inl v5)]) dX12_unlike_84 (Nat.le_of_ble_eq_true rfl) rfl ?_
          refine n_iinc (fun x9 => [some (.inr (.inr 0)), some (.inl a1), some (.inl v2), some (.inl v3), some (.inl 1), some (.inl x9)]) dX12_unlike_86 rfl (Nat.le_of_ble_eq_true rfl) (fun _ => rfl) ?_
          intro x9
          refine g_goto (tgt := 42) dX12_unlike_89 (by decide) ?_
          exact (ih 1 x9 σ)
        · refine g_aload_n dX12_unlike_63 rfl rfl ?_
          refine g_getr' (q := 10) fl_RX12_51 km_0 (by decide) rfl dX12_unlike_64 ?_
          refine g_iload dX12_unlike_67 rfl ?_
          refine g_iald km_10 dX12_unlike_69 ?_
          intro x10
          refine g_aload_n dX12_unlike_70 rfl rfl ?_
          refine g_getr' (q := 10) fl_RX12_51 km_0 (by decide) rfl dX12_unlike_71 ?_
          refine g_iload_n dX12_unlike_74 rfl rfl ?_
          refine g_iald km_10 dX12_unlike_75 ?_
          intro x11
          refine g_icmpeq (tgt := 83) dX12_unlike_76 (by decide) ?_ ?_
          · refine g_iconst dX12_unlike_83 (by decide) ?_
            refine g_istore (lv' := [some (.inr (.inr 0)), some (.inl a1), some (.inl v2), some (.inl v3), some (.inl 0), some (.inl v5)]) dX12_unlike_84 (Nat.le_of_ble_eq_true rfl) rfl ?_
            refine n_iinc (fun x12 => [some (.inr (.inr 0)), some (.inl a1), some (.inl v2), some (.inl v3), some (.inl 0), some (.inl x12)]) dX12_unlike_86 rfl (Nat.le_of_ble_eq_true rfl) (fun _ => rfl) ?_
            intro x12
            refine g_goto (tgt := 42) dX12_unlike_89 (by decide) ?_
            exact (ih 0 x12 σ)
          · refine g_iconst dX12_unlike_79 (by decide) ?_
            refine g_goto (tgt := 84) dX12_unlike_80 (by decide) ?_
            refine g_istore (lv' := [some (.inr (.inr 0)), some (.inl a1), some (.inl v2), some (.inl v3), some (.inl 1), some (.inl v5)]) dX12_unlike_84 (Nat.le_of_ble_eq_true rfl) rfl ?_
            refine n_iinc (fun x13 => [some (.inr (.inr 0)), some (.inl a1), some (.inl v2), some (.inl v3), some (.inl 1), some (.inl x13)]) dX12_unlike_86 rfl (Nat.le_of_ble_eq_true rfl) (fun _ => rfl) ?_
            intro x13
            refine g_goto (tgt := 42) dX12_unlike_89 (by decide) ?_
            exact (ih 1 x13 σ)
    · exact (g_weak [true, true, true, true, true, false] (hk92 v2 v3 v4 σ))
def M_unlike_J92 (a1 : Int) (v2 : Int) (v3 : Int) (v4 : Int) (k4 : Int → Int → Sg → Rs) (σ : Sg) : Rs := (if v4 = 0 then (nm (w32 (v2 + 0)) (fun x18 => (nm (w32 (v3 + 1)) (fun x19 => (k4 x18 x19 σ))))) else (nm (w32 (v2 + 1)) (fun x20 => (nm (w32 (v3 + 1)) (fun x21 => (k4 x20 x21 σ))))))
theorem ok_M_unlike_J92 (a1 : Int) (v2 : Int) (v3 : Int) (v4 : Int) (k4 : Int → Int → Sg → Rs) (hk4 : ∀ (y2 y3 : Int) (σ : Sg), G l Km Pm RX12 cX12_unlike 6 0 3 4 [some (.inr (.inr 0)), some (.inl a1), some (.inl y2), some (.inl y3), none, none] [] σ (k4 y2 y3 σ)) : ∀ (σ : Sg), G l Km Pm RX12 cX12_unlike 6 0 3 92 [some (.inr (.inr 0)), some (.inl a1), some (.inl v2), some (.inl v3), some (.inl v4), none] [] σ (M_unlike_J92 a1 v2 v3 v4 k4  σ) := by
  intro σ
  unfold M_unlike_J92
  refine g_iload_n dX12_unlike_92 rfl rfl ?_
  refine g_iload dX12_unlike_93 rfl ?_
  refine g_ifeq (tgt := 102) dX12_unlike_95 (by decide) ?_ ?_
  · refine g_iconst dX12_unlike_102 (by decide) ?_
    refine g_iadd dX12_unlike_103 ?_
    refine n_istore_n (fun x18 => [some (.inr (.inr 0)), some (.inl a1), some (.inl x18), some (.inl v3), some (.inl v4), none]) dX12_unlike_104 rfl (Nat.le_of_ble_eq_true rfl) (fun _ => rfl) ?_
    intro x18
    refine n_iinc (fun x19 => [some (.inr (.inr 0)), some (.inl a1), some (.inl x18), some (.inl x19), some (.inl v4), none]) dX12_unlike_105 rfl (Nat.le_of_ble_eq_true rfl) (fun _ => rfl) ?_
    intro x19
    refine g_goto (tgt := 4) dX12_unlike_108 (by decide) ?_
    exact (g_weak [true, true, true, true, false, false] (hk4 x18 x19 σ))
  · refine g_iconst dX12_unlike_98 (by decide) ?_
    refine g_goto (tgt := 103) dX12_unlike_99 (by decide) ?_
    refine g_iadd dX12_unlike_103 ?_
    refine n_istore_n (fun x20 => [some (.inr (.inr 0)), some (.inl a1), some (.inl x20), some (.inl v3), some (.inl v4), none]) dX12_unlike_104 rfl (Nat.le_of_ble_eq_true rfl) (fun _ => rfl) ?_
    intro x20
    refine n_iinc (fun x21 => [some (.inr (.inr 0)), some (.inl a1), some (.inl x20), some (.inl x21), some (.inl v4), none]) dX12_unlike_105 rfl (Nat.le_of_ble_eq_true rfl) (fun _ => rfl) ?_
    intro x21
    refine g_goto (tgt := 4) dX12_unlike_108 (by decide) ?_
    exact (g_weak [true, true, true, true, false, false] (hk4 x20 x21 σ))
def M_unlike_L4 (a1 : Int) : Nat → Int → Int → Sg → Rs
  | 0, _, _, _ => none
  | n + 1, v2, v3, σ => (bd (M_allWords σ) (fun r1 s2 => (if r1 < v3 then (some (v2, s2)) else (rd 256 v3 (s2 9 (Int.toNat v3)) (fun x3 => (if x3 = 0 then (nm (w32 (v3 + 1)) (fun x4 => (M_unlike_L4 a1 n v2 x4 s2))) else (bd (M_grown v3 a1 s2) (fun r5 s6 => (wr 256 v3 (up_s s6 10 (Int.toNat v3) r5) (fun s7 => (M_unlike_L42 a1 v2 v3 (fun x14 x15 x16 s17 => (M_unlike_J92 a1 x14 x15 x16 (fun x22 x23 s24 => (M_unlike_L4 a1 n x22 x23 s24)) s17)) fu 1 0 s7)))))))))))
theorem ok_M_unlike_L4 (a1 : Int) : ∀ (n : Nat) (v2 v3 : Int) (σ : Sg), G l Km Pm RX12 cX12_unlike 6 0 3 4 [some (.inr (.inr 0)), some (.inl a1), some (.inl v2), some (.inl v3), none, none] [] σ (M_unlike_L4 a1 n v2 v3 σ) := by
  intro n
  induction n with
  | zero => intros; exact G.none_
  | succ n ih =>
    intro v2 v3 σ
    rw [M_unlike_L4]
    refine g_iload_n dX12_unlike_4 rfl rfl ?_
    refine g_aload_n dX12_unlike_5 rfl rfl ?_
    refine g_callv0 (st := [.inl v3]) 10 mw_X12_allWords lk_RX12_431 rfl km_0 (ok_M_allWords σ) (Nat.le_of_ble_eq_true rfl) rfl rfl (Nat.le_of_ble_eq_true rfl) dX12_unlike_6 ?_
    intro r1 s2
    refine g_icmpgt (tgt := 111) dX12_unlike_9 (by decide) ?_ ?_
    · refine g_iload_n dX12_unlike_111 rfl rfl ?_
      exact g_iret dX12_unlike_112
    · refine g_aload_n dX12_unlike_12 rfl rfl ?_
      refine g_getr' (q := 9) fl_RX12_47 km_0 (by decide) rfl dX12_unlike_13 ?_
      refine g_iload_n dX12_unlike_16 rfl rfl ?_
      refine g_zald km_9 dX12_unlike_17 ?_
      intro x3
      refine g_ifne (tgt := 24) dX12_unlike_18 (by decide) ?_ ?_
      · refine g_goto (tgt := 105) dX12_unlike_21 (by decide) ?_
        refine n_iinc (fun x4 => [some (.inr (.inr 0)), some (.inl a1), some (.inl v2), some (.inl x4), none, none]) dX12_unlike_105 rfl (Nat.le_of_ble_eq_true rfl) (fun _ => rfl) ?_
        intro x4
        refine g_goto (tgt := 4) dX12_unlike_108 (by decide) ?_
        exact (ih v2 x4 s2)
      · refine g_aload_n dX12_unlike_24 rfl rfl ?_
        refine g_getr' (q := 10) fl_RX12_51 km_0 (by decide) rfl dX12_unlike_25 ?_
        refine g_iload_n dX12_unlike_28 rfl rfl ?_
        refine g_aload_n dX12_unlike_29 rfl rfl ?_
        refine g_iload_n dX12_unlike_30 rfl rfl ?_
        refine g_iload_n dX12_unlike_31 rfl rfl ?_
        refine g_callv0 (st := [.inl v3, .inr (.inr 10)]) 10 mw_X12_grown lk_RX12_443 rfl km_0 (ok_M_grown v3 a1 s2) (Nat.le_of_ble_eq_true rfl) rfl rfl (Nat.le_of_ble_eq_true rfl) dX12_unlike_32 ?_
        intro r5 s6
        refine g_iast km_10 dX12_unlike_35 ?_
        intro s7
        refine g_iconst dX12_unlike_36 (by decide) ?_
        refine g_istore (lv' := [some (.inr (.inr 0)), some (.inl a1), some (.inl v2), some (.inl v3), some (.inl 1), none]) dX12_unlike_37 (Nat.le_of_ble_eq_true rfl) rfl ?_
        refine g_iconst dX12_unlike_39 (by decide) ?_
        refine g_istore (lv' := [some (.inr (.inr 0)), some (.inl a1), some (.inl v2), some (.inl v3), some (.inl 1), some (.inl 0)]) dX12_unlike_40 (Nat.le_of_ble_eq_true rfl) rfl ?_
        refine (ok_M_unlike_L42 a1 v2 v3 _ ?_ fu 1 0 s7)
        · intro x14 x15 x16 s17
          refine (ok_M_unlike_J92 a1 x14 x15 x16 _ ?_ s17)
          · intro x22 x23 s24
            exact (ih x22 x23 s24)
def M_unlike (a1 : Int) (σ : Sg) : Rs := (M_unlike_L4 a1 fu 0 0 σ)
theorem ok_M_unlike (a1 : Int) (σ : Sg) : MC l Km Pm yX12_unlike cX12_unlike 6 0 3 [.inr (.inr 0), .inl a1] σ (M_unlike a1 σ) := by
  refine mc_of (by decide) (Nat.le_of_ble_eq_true rfl) ?_
  change G l Km Pm RX12 cX12_unlike 6 0 3 0 [some (.inr (.inr 0)), some (.inl a1), none, none, none, none] [] σ (M_unlike a1 σ)
  unfold M_unlike
  refine g_iconst dX12_unlike_0 (by decide) ?_
  refine g_istore_n (lv' := [some (.inr (.inr 0)), some (.inl a1), some (.inl 0), none, none, none]) dX12_unlike_1 rfl (Nat.le_of_ble_eq_true rfl) rfl ?_
  refine g_iconst dX12_unlike_2 (by decide) ?_
  refine g_istore_n (lv' := [some (.inr (.inr 0)), some (.inl a1), some (.inl 0), some (.inl 0), none, none]) dX12_unlike_3 rfl (Nat.le_of_ble_eq_true rfl) rfl ?_
  refine (ok_M_unlike_L4 a1 fu 0 0 σ)
theorem dX12_isTray_0 : decode cX12_isTray 0 = .ok (.iload_n 1, 1) := by decide +kernel
theorem dX12_isTray_1 : decode cX12_isTray 1 = .ok (.i2l, 1) := by decide +kernel
theorem dX12_isTray_2 : decode cX12_isTray 2 = .ok (.lconst 0, 1) := by decide +kernel
theorem dX12_isTray_3 : decode cX12_isTray 3 = .ok (.ldc2_w 100, 3) := by decide +kernel
theorem dX12_isTray_6 : decode cX12_isTray 6 = .ok (.invokestatic 102, 3) := by decide +kernel
theorem dX12_isTray_9 : decode cX12_isTray 9 = .ok (.ireturn, 1) := by decide +kernel
theorem mw_X12_isTray : MW yX12_isTray cX12_isTray 2 3 1 false := ⟨tm 2054 (by decide +kernel) rfl, tm 249 (by decide +kernel) rfl, by decide, by decide, (by rw [if_neg (by decide)]; exact ⟨tm 2053 (by decide +kernel) rfl, tm 185 (by decide +kernel) rfl⟩)⟩
def M_isTray (a1 : Int) (σ : Sg) : Rs := (bd (M_isIn a1 0 3 σ) (fun r1 s2 => (zb r1 (some (r1, s2)))))
theorem ok_M_isTray (a1 : Int) (σ : Sg) : MC l Km Pm yX12_isTray cX12_isTray 2 3 2 [.inr (.inr 0), .inl a1] σ (M_isTray a1 σ) := by
  refine mc_of (by decide) (Nat.le_of_ble_eq_true rfl) ?_
  change G l Km Pm RX12 cX12_isTray 2 3 2 0 [some (.inr (.inr 0)), some (.inl a1)] [] σ (M_isTray a1 σ)
  unfold M_isTray
  refine g_iload_n dX12_isTray_0 rfl rfl ?_
  refine g_i2l dX12_isTray_1 ?_
  refine g_lconst (v := 0) dX12_isTray_2 (by decide) ?_
  refine g_ldc2 (n := 3) (tm 2055 (by decide +kernel) rfl) (by decide) dX12_isTray_3 ?_
  refine g_calls3 (st := []) mw_X12_isIn lk_RX12_102 (ok_M_isIn a1 0 3 σ) (Nat.le_of_ble_eq_true rfl) rfl rfl (Nat.le_of_ble_eq_true rfl) dX12_isTray_6 ?_
  intro r1 s2
  exact g_zret dX12_isTray_9
theorem dX12_whyNoTwos_0 : decode cX12_whyNoTwos 0 = .ok (.aload_n 0, 1) := by decide +kernel
theorem dX12_whyNoTwos_1 : decode cX12_whyNoTwos 1 = .ok (.iload_n 1, 1) := by decide +kernel
theorem dX12_whyNoTwos_2 : decode cX12_whyNoTwos 2 = .ok (.invokevirtual 356, 3) := by decide +kernel
theorem dX12_whyNoTwos_5 : decode cX12_whyNoTwos 5 = .ok (.ifCond .ne 5, 3) := by decide +kernel
theorem dX12_whyNoTwos_8 : decode cX12_whyNoTwos 8 = .ok (.iconst 1, 1) := by decide +kernel
theorem dX12_whyNoTwos_9 : decode cX12_whyNoTwos 9 = .ok (.ireturn, 1) := by decide +kernel
theorem dX12_whyNoTwos_10 : decode cX12_whyNoTwos 10 = .ok (.aload_n 0, 1) := by decide +kernel
theorem dX12_whyNoTwos_11 : decode cX12_whyNoTwos 11 = .ok (.getfield 17, 3) := by decide +kernel
theorem dX12_whyNoTwos_14 : decode cX12_whyNoTwos 14 = .ok (.iload_n 1, 1) := by decide +kernel
theorem dX12_whyNoTwos_15 : decode cX12_whyNoTwos 15 = .ok (.iaload, 1) := by decide +kernel
theorem dX12_whyNoTwos_16 : decode cX12_whyNoTwos 16 = .ok (.ifCond .ge 5, 3) := by decide +kernel
theorem dX12_whyNoTwos_19 : decode cX12_whyNoTwos 19 = .ok (.iconst 3, 1) := by decide +kernel
theorem dX12_whyNoTwos_20 : decode cX12_whyNoTwos 20 = .ok (.ireturn, 1) := by decide +kernel
theorem dX12_whyNoTwos_21 : decode cX12_whyNoTwos 21 = .ok (.aload_n 0, 1) := by decide +kernel
theorem dX12_whyNoTwos_22 : decode cX12_whyNoTwos 22 = .ok (.getfield 17, 3) := by decide +kernel
theorem dX12_whyNoTwos_25 : decode cX12_whyNoTwos 25 = .ok (.iload_n 1, 1) := by decide +kernel
theorem dX12_whyNoTwos_26 : decode cX12_whyNoTwos 26 = .ok (.iaload, 1) := by decide +kernel
theorem dX12_whyNoTwos_27 : decode cX12_whyNoTwos 27 = .ok (.i2l, 1) := by decide +kernel
theorem dX12_whyNoTwos_28 : decode cX12_whyNoTwos 28 = .ok (.ldc2_w 351, 3) := by decide +kernel
theorem dX12_whyNoTwos_31 : decode cX12_whyNoTwos 31 = .ok (.iload_n 2, 1) := by decide +kernel
theorem dX12_whyNoTwos_32 : decode cX12_whyNoTwos 32 = .ok (.i2l, 1) := by decide +kernel
theorem dX12_whyNoTwos_33 : decode cX12_whyNoTwos 33 = .ok (.lmul, 1) := by decide +kernel
theorem dX12_whyNoTwos_34 : decode cX12_whyNoTwos 34 = .ok (.lcmp, 1) := by decide +kernel
theorem dX12_whyNoTwos_35 : decode cX12_whyNoTwos 35 = .ok (.ifCond .ge 5, 3) := by decide +kernel
theorem dX12_whyNoTwos_38 : decode cX12_whyNoTwos 38 = .ok (.iconst 4, 1) := by decide +kernel
theorem dX12_whyNoTwos_39 : decode cX12_whyNoTwos 39 = .ok (.ireturn, 1) := by decide +kernel
theorem dX12_whyNoTwos_40 : decode cX12_whyNoTwos 40 = .ok (.iload_n 2, 1) := by decide +kernel
theorem dX12_whyNoTwos_41 : decode cX12_whyNoTwos 41 = .ok (.i2l, 1) := by decide +kernel
theorem dX12_whyNoTwos_42 : decode cX12_whyNoTwos 42 = .ok (.lconst 0, 1) := by decide +kernel
theorem dX12_whyNoTwos_43 : decode cX12_whyNoTwos 43 = .ok (.ldc2_w 434, 3) := by decide +kernel
theorem dX12_whyNoTwos_46 : decode cX12_whyNoTwos 46 = .ok (.invokestatic 102, 3) := by decide +kernel
theorem dX12_whyNoTwos_49 : decode cX12_whyNoTwos 49 = .ok (.ifCond .eq 7, 3) := by decide +kernel
theorem dX12_whyNoTwos_52 : decode cX12_whyNoTwos 52 = .ok (.iconst 0, 1) := by decide +kernel
theorem dX12_whyNoTwos_53 : decode cX12_whyNoTwos 53 = .ok (.goto 4, 3) := by decide +kernel
theorem dX12_whyNoTwos_56 : decode cX12_whyNoTwos 56 = .ok (.iconst 5, 1) := by decide +kernel
theorem dX12_whyNoTwos_57 : decode cX12_whyNoTwos 57 = .ok (.ireturn, 1) := by decide +kernel
theorem mw_X12_whyNoTwos : MW yX12_whyNoTwos cX12_whyNoTwos 3 0 2 false := ⟨tm 2213 (by decide +kernel) rfl, tm 249 (by decide +kernel) rfl, by decide, by decide, (by rw [if_neg (by decide)]; exact ⟨tm 2212 (by decide +kernel) rfl, tm 202 (by decide +kernel) rfl⟩)⟩
theorem lk_RX12_356 : LK RX12 356 yX12_isTray := Or.inl (tm 2051 (by decide +kernel) rfl)
theorem fl_RX12_17 : FL RX12 17 10 5 := ⟨_, _, _, _, cw_10, by decide, Or.inr (Or.inr (Or.inr (by decide))), Or.inl (by decide), Or.inl (tm 1573 (by decide +kernel) rfl)⟩
def M_whyNoTwos (a1 : Int) (a2 : Int) (σ : Sg) : Rs := (bd (M_isTray a1 σ) (fun r1 s2 => (if r1 = 0 then (some (1, s2)) else (rd 4 a1 (s2 2 (Int.toNat a1)) (fun x3 => (if x3 < 0 then (some (3, s2)) else (rd 4 a1 (s2 2 (Int.toNat a1)) (fun x4 => (if x4 < (w64 (2 * a2)) then (some (4, s2)) else (bd (M_isIn a2 0 20 s2) (fun r5 s6 => (if r5 = 0 then (some (5, s6)) else (some (0, s6))))))))))))))
theorem ok_M_whyNoTwos (a1 : Int) (a2 : Int) (σ : Sg) : MC l Km Pm yX12_whyNoTwos cX12_whyNoTwos 3 0 3 [.inr (.inr 0), .inl a1, .inl a2] σ (M_whyNoTwos a1 a2 σ) := by
  refine mc_of (by decide) (Nat.le_of_ble_eq_true rfl) ?_
  change G l Km Pm RX12 cX12_whyNoTwos 3 0 3 0 [some (.inr (.inr 0)), some (.inl a1), some (.inl a2)] [] σ (M_whyNoTwos a1 a2 σ)
  unfold M_whyNoTwos
  refine g_aload_n dX12_whyNoTwos_0 rfl rfl ?_
  refine g_iload_n dX12_whyNoTwos_1 rfl rfl ?_
  refine g_callv3 (st := []) 10 mw_X12_isTray lk_RX12_356 rfl km_0 (ok_M_isTray a1 σ) (Nat.le_of_ble_eq_true rfl) rfl rfl (Nat.le_of_ble_eq_true rfl) dX12_whyNoTwos_2 ?_
  intro r1 s2
  refine g_ifne (tgt := 10) dX12_whyNoTwos_5 (by decide) ?_ ?_
  · refine g_iconst dX12_whyNoTwos_8 (by decide) ?_
    exact g_iret dX12_whyNoTwos_9
  · refine g_aload_n dX12_whyNoTwos_10 rfl rfl ?_
    refine g_getr' (q := 2) fl_RX12_17 km_0 (by decide) rfl dX12_whyNoTwos_11 ?_
    refine g_iload_n dX12_whyNoTwos_14 rfl rfl ?_
    refine g_iald km_2 dX12_whyNoTwos_15 ?_
    intro x3
    refine g_ifge (tgt := 21) dX12_whyNoTwos_16 (by decide) ?_ ?_
    · refine g_iconst dX12_whyNoTwos_19 (by decide) ?_
      exact g_iret dX12_whyNoTwos_20
    · refine g_aload_n dX12_whyNoTwos_21 rfl rfl ?_
      refine g_getr' (q := 2) fl_RX12_17 km_0 (by decide) rfl dX12_whyNoTwos_22 ?_
      refine g_iload_n dX12_whyNoTwos_25 rfl rfl ?_
      refine g_iald km_2 dX12_whyNoTwos_26 ?_
      intro x4
      refine g_i2l dX12_whyNoTwos_27 ?_
      refine g_ldc2 (n := 2) (tm 2038 (by decide +kernel) rfl) (by decide) dX12_whyNoTwos_28 ?_
      refine g_iload_n dX12_whyNoTwos_31 rfl rfl ?_
      refine g_i2l dX12_whyNoTwos_32 ?_
      refine g_lmul dX12_whyNoTwos_33 ?_
      refine g_lcmpge (tgt := 40) dX12_whyNoTwos_34 dX12_whyNoTwos_35 (by decide) ?_ ?_
      · refine g_iconst dX12_whyNoTwos_38 (by decide) ?_
        exact g_iret dX12_whyNoTwos_39
      · refine g_iload_n dX12_whyNoTwos_40 rfl rfl ?_
        refine g_i2l dX12_whyNoTwos_41 ?_
        refine g_lconst (v := 0) dX12_whyNoTwos_42 (by decide) ?_
        refine g_ldc2 (n := 20) (tm 2214 (by decide +kernel) rfl) (by decide) dX12_whyNoTwos_43 ?_
        refine g_calls3 (st := []) mw_X12_isIn lk_RX12_102 (ok_M_isIn a2 0 20 s2) (Nat.le_of_ble_eq_true rfl) rfl rfl (Nat.le_of_ble_eq_true rfl) dX12_whyNoTwos_46 ?_
        intro r5 s6
        refine g_ifeq (tgt := 56) dX12_whyNoTwos_49 (by decide) ?_ ?_
        · refine g_iconst dX12_whyNoTwos_56 (by decide) ?_
          exact g_iret dX12_whyNoTwos_57
        · refine g_iconst dX12_whyNoTwos_52 (by decide) ?_
          refine g_goto (tgt := 57) dX12_whyNoTwos_53 (by decide) ?_
          exact g_iret dX12_whyNoTwos_57
theorem dX12_whyNotUnsaid_0 : decode cX12_whyNotUnsaid 0 = .ok (.aload_n 0, 1) := by decide +kernel
theorem dX12_whyNotUnsaid_1 : decode cX12_whyNotUnsaid 1 = .ok (.iload_n 1, 1) := by decide +kernel
theorem dX12_whyNotUnsaid_2 : decode cX12_whyNotUnsaid 2 = .ok (.iload_n 2, 1) := by decide +kernel
theorem dX12_whyNotUnsaid_3 : decode cX12_whyNotUnsaid 3 = .ok (.invokevirtual 436, 3) := by decide +kernel
theorem dX12_whyNotUnsaid_6 : decode cX12_whyNotUnsaid 6 = .ok (.istore_n 3, 1) := by decide +kernel
theorem dX12_whyNotUnsaid_7 : decode cX12_whyNotUnsaid 7 = .ok (.iconst 0, 1) := by decide +kernel
theorem dX12_whyNotUnsaid_8 : decode cX12_whyNotUnsaid 8 = .ok (.istore 4, 2) := by decide +kernel
theorem dX12_whyNotUnsaid_10 : decode cX12_whyNotUnsaid 10 = .ok (.iload 4, 2) := by decide +kernel
theorem dX12_whyNotUnsaid_12 : decode cX12_whyNotUnsaid 12 = .ok (.iload_n 2, 1) := by decide +kernel
theorem dX12_whyNotUnsaid_13 : decode cX12_whyNotUnsaid 13 = .ok (.if_icmp .ge 54, 3) := by decide +kernel
theorem dX12_whyNotUnsaid_16 : decode cX12_whyNotUnsaid 16 = .ok (.iload_n 3, 1) := by decide +kernel
theorem dX12_whyNotUnsaid_17 : decode cX12_whyNotUnsaid 17 = .ok (.ifCond .ne 50, 3) := by decide +kernel
theorem dX12_whyNotUnsaid_20 : decode cX12_whyNotUnsaid 20 = .ok (.aload_n 0, 1) := by decide +kernel
theorem dX12_whyNotUnsaid_21 : decode cX12_whyNotUnsaid 21 = .ok (.iload_n 1, 1) := by decide +kernel
theorem dX12_whyNotUnsaid_22 : decode cX12_whyNotUnsaid 22 = .ok (.iconst 2, 1) := by decide +kernel
theorem dX12_whyNotUnsaid_23 : decode cX12_whyNotUnsaid 23 = .ok (.iload 4, 2) := by decide +kernel
theorem dX12_whyNotUnsaid_25 : decode cX12_whyNotUnsaid 25 = .ok (.imul, 1) := by decide +kernel
theorem dX12_whyNotUnsaid_26 : decode cX12_whyNotUnsaid 26 = .ok (.invokevirtual 439, 3) := by decide +kernel
theorem dX12_whyNotUnsaid_29 : decode cX12_whyNotUnsaid 29 = .ok (.lconst 0, 1) := by decide +kernel
theorem dX12_whyNotUnsaid_30 : decode cX12_whyNotUnsaid 30 = .ok (.ldc2_w 396, 3) := by decide +kernel
theorem dX12_whyNotUnsaid_33 : decode cX12_whyNotUnsaid 33 = .ok (.invokestatic 102, 3) := by decide +kernel
theorem dX12_whyNotUnsaid_36 : decode cX12_whyNotUnsaid 36 = .ok (.ifCond .eq 23, 3) := by decide +kernel
theorem dX12_whyNotUnsaid_39 : decode cX12_whyNotUnsaid 39 = .ok (.aload_n 0, 1) := by decide +kernel
theorem dX12_whyNotUnsaid_40 : decode cX12_whyNotUnsaid 40 = .ok (.iload_n 1, 1) := by decide +kernel
theorem dX12_whyNotUnsaid_41 : decode cX12_whyNotUnsaid 41 = .ok (.iconst 2, 1) := by decide +kernel
theorem dX12_whyNotUnsaid_42 : decode cX12_whyNotUnsaid 42 = .ok (.iload 4, 2) := by decide +kernel
theorem dX12_whyNotUnsaid_44 : decode cX12_whyNotUnsaid 44 = .ok (.imul, 1) := by decide +kernel
theorem dX12_whyNotUnsaid_45 : decode cX12_whyNotUnsaid 45 = .ok (.iconst 1, 1) := by decide +kernel
theorem dX12_whyNotUnsaid_46 : decode cX12_whyNotUnsaid 46 = .ok (.iadd, 1) := by decide +kernel
theorem dX12_whyNotUnsaid_47 : decode cX12_whyNotUnsaid 47 = .ok (.invokevirtual 439, 3) := by decide +kernel
theorem dX12_whyNotUnsaid_50 : decode cX12_whyNotUnsaid 50 = .ok (.lconst 0, 1) := by decide +kernel
theorem dX12_whyNotUnsaid_51 : decode cX12_whyNotUnsaid 51 = .ok (.lcmp, 1) := by decide +kernel
theorem dX12_whyNotUnsaid_52 : decode cX12_whyNotUnsaid 52 = .ok (.ifCond .lt 7, 3) := by decide +kernel
theorem dX12_whyNotUnsaid_55 : decode cX12_whyNotUnsaid 55 = .ok (.iconst 0, 1) := by decide +kernel
theorem dX12_whyNotUnsaid_56 : decode cX12_whyNotUnsaid 56 = .ok (.goto 4, 3) := by decide +kernel
theorem dX12_whyNotUnsaid_59 : decode cX12_whyNotUnsaid 59 = .ok (.iconst 5, 1) := by decide +kernel
theorem dX12_whyNotUnsaid_60 : decode cX12_whyNotUnsaid 60 = .ok (.istore_n 3, 1) := by decide +kernel
theorem dX12_whyNotUnsaid_61 : decode cX12_whyNotUnsaid 61 = .ok (.iinc 4 1, 3) := by decide +kernel
theorem dX12_whyNotUnsaid_64 : decode cX12_whyNotUnsaid 64 = .ok (.goto (-54), 3) := by decide +kernel
theorem dX12_whyNotUnsaid_67 : decode cX12_whyNotUnsaid 67 = .ok (.iload_n 3, 1) := by decide +kernel
theorem dX12_whyNotUnsaid_68 : decode cX12_whyNotUnsaid 68 = .ok (.ireturn, 1) := by decide +kernel
theorem mw_X12_whyNotUnsaid : MW yX12_whyNotUnsaid cX12_whyNotUnsaid 5 0 2 false := ⟨tm 2209 (by decide +kernel) rfl, tm 249 (by decide +kernel) rfl, by decide, by decide, (by rw [if_neg (by decide)]; exact ⟨tm 2208 (by decide +kernel) rfl, tm 201 (by decide +kernel) rfl⟩)⟩
theorem lk_RX12_436 : LK RX12 436 yX12_whyNoTwos := Or.inl (tm 2210 (by decide +kernel) rfl)
def M_whyNotUnsaid_L10 (a1 : Int) (a2 : Int) : Nat → Int → Int → Sg → Rs
  | 0, _, _, _ => none
  | n + 1, v3, v4, σ => (if v4 < a2 then (if v3 = 0 then (bd (M_numberOf a1 (w32 (2 * v4)) σ) (fun r3 s4 => (bd (M_isIn r3 0 999 s4) (fun r5 s6 => (if r5 = 0 then (nm (w32 (v4 + 1)) (fun x7 => (M_whyNotUnsaid_L10 a1 a2 n 5 x7 s6))) else (bd (M_numberOf a1 (w32 ((w32 (2 * v4)) + 1)) s6) (fun r8 s9 => (if r8 < 0 then (nm (w32 (v4 + 1)) (fun x10 => (M_whyNotUnsaid_L10 a1 a2 n 5 x10 s9))) else (nm (w32 (v4 + 1)) (fun x11 => (M_whyNotUnsaid_L10 a1 a2 n 0 x11 s9))))))))))) else (some (v3, σ))) else (some (v3, σ)))
theorem ok_M_whyNotUnsaid_L10 (a1 : Int) (a2 : Int) : ∀ (n : Nat) (v3 v4 : Int) (σ : Sg), G l Km Pm RX12 cX12_whyNotUnsaid 5 0 4 10 [some (.inr (.inr 0)), some (.inl a1), some (.inl a2), some (.inl v3), some (.inl v4)] [] σ (M_whyNotUnsaid_L10 a1 a2 n v3 v4 σ) := by
  intro n
  induction n with
  | zero => intros; exact G.none_
  | succ n ih =>
    intro v3 v4 σ
    rw [M_whyNotUnsaid_L10]
    refine g_iload dX12_whyNotUnsaid_10 rfl ?_
    refine g_iload_n dX12_whyNotUnsaid_12 rfl rfl ?_
    refine g_icmpge (tgt := 67) dX12_whyNotUnsaid_13 (by decide) ?_ ?_
    · refine g_iload_n dX12_whyNotUnsaid_16 rfl rfl ?_
      refine g_ifne (tgt := 67) dX12_whyNotUnsaid_17 (by decide) ?_ ?_
      · refine g_aload_n dX12_whyNotUnsaid_20 rfl rfl ?_
        refine g_iload_n dX12_whyNotUnsaid_21 rfl rfl ?_
        refine g_iconst dX12_whyNotUnsaid_22 (by decide) ?_
        refine g_iload dX12_whyNotUnsaid_23 rfl ?_
        refine g_imul dX12_whyNotUnsaid_25 ?_
        refine g_callv1 (st := []) 10 mw_X12_numberOf lk_RX12_439 rfl km_0 (ok_M_numberOf a1 (w32 (2 * v4)) σ) (Nat.le_of_ble_eq_true rfl) rfl rfl (Nat.le_of_ble_eq_true rfl) dX12_whyNotUnsaid_26 ?_
        intro r3 s4
        refine g_lconst (v := 0) dX12_whyNotUnsaid_29 (by decide) ?_
        refine g_ldc2 (n := 999) (tm 2118 (by decide +kernel) rfl) (by decide) dX12_whyNotUnsaid_30 ?_
        refine g_calls3 (st := []) mw_X12_isIn lk_RX12_102 (ok_M_isIn r3 0 999 s4) (Nat.le_of_ble_eq_true rfl) rfl rfl (Nat.le_of_ble_eq_true rfl) dX12_whyNotUnsaid_33 ?_
        intro r5 s6
        refine g_ifeq (tgt := 59) dX12_whyNotUnsaid_36 (by decide) ?_ ?_
        · refine g_iconst dX12_whyNotUnsaid_59 (by decide) ?_
          refine g_istore_n (lv' := [some (.inr (.inr 0)), some (.inl a1), some (.inl a2), some (.inl 5), some (.inl v4)]) dX12_whyNotUnsaid_60 rfl (Nat.le_of_ble_eq_true rfl) rfl ?_
          refine n_iinc (fun x7 => [some (.inr (.inr 0)), some (.inl a1), some (.inl a2), some (.inl 5), some (.inl x7)]) dX12_whyNotUnsaid_61 rfl (Nat.le_of_ble_eq_true rfl) (fun _ => rfl) ?_
          intro x7
          refine g_goto (tgt := 10) dX12_whyNotUnsaid_64 (by decide) ?_
          exact (ih 5 x7 s6)
        · refine g_aload_n dX12_whyNotUnsaid_39 rfl rfl ?_
          refine g_iload_n dX12_whyNotUnsaid_40 rfl rfl ?_
          refine g_iconst dX12_whyNotUnsaid_41 (by decide) ?_
          refine g_iload dX12_whyNotUnsaid_42 rfl ?_
          refine g_imul dX12_whyNotUnsaid_44 ?_
          refine g_iconst dX12_whyNotUnsaid_45 (by decide) ?_
          refine g_iadd dX12_whyNotUnsaid_46 ?_
          refine g_callv1 (st := []) 10 mw_X12_numberOf lk_RX12_439 rfl km_0 (ok_M_numberOf a1 (w32 ((w32 (2 * v4)) + 1)) s6) (Nat.le_of_ble_eq_true rfl) rfl rfl (Nat.le_of_ble_eq_true rfl) dX12_whyNotUnsaid_47 ?_
          intro r8 s9
          refine g_lconst (v := 0) dX12_whyNotUnsaid_50 (by decide) ?_
          refine g_lcmplt (tgt := 59) dX12_whyNotUnsaid_51 dX12_whyNotUnsaid_52 (by decide) ?_ ?_
          · refine g_iconst dX12_whyNotUnsaid_59 (by decide) ?_
            refine g_istore_n (lv' := [some (.inr (.inr 0)), some (.inl a1), some (.inl a2), some (.inl 5), some (.inl v4)]) dX12_whyNotUnsaid_60 rfl (Nat.le_of_ble_eq_true rfl) rfl ?_
            refine n_iinc (fun x10 => [some (.inr (.inr 0)), some (.inl a1), some (.inl a2), some (.inl 5), some (.inl x10)]) dX12_whyNotUnsaid_61 rfl (Nat.le_of_ble_eq_true rfl) (fun _ => rfl) ?_
            intro x10
            refine g_goto (tgt := 10) dX12_whyNotUnsaid_64 (by decide) ?_
            exact (ih 5 x10 s9)
          · refine g_iconst dX12_whyNotUnsaid_55 (by decide) ?_
            refine g_goto (tgt := 60) dX12_whyNotUnsaid_56 (by decide) ?_
            refine g_istore_n (lv' := [some (.inr (.inr 0)), some (.inl a1), some (.inl a2), some (.inl 0), some (.inl v4)]) dX12_whyNotUnsaid_60 rfl (Nat.le_of_ble_eq_true rfl) rfl ?_
            refine n_iinc (fun x11 => [some (.inr (.inr 0)), some (.inl a1), some (.inl a2), some (.inl 0), some (.inl x11)]) dX12_whyNotUnsaid_61 rfl (Nat.le_of_ble_eq_true rfl) (fun _ => rfl) ?_
            intro x11
            refine g_goto (tgt := 10) dX12_whyNotUnsaid_64 (by decide) ?_
            exact (ih 0 x11 s9)
      · refine g_iload_n dX12_whyNotUnsaid_67 rfl rfl ?_
        exact g_iret dX12_whyNotUnsaid_68
    · refine g_iload_n dX12_whyNotUnsaid_67 rfl rfl ?_
      exact g_iret dX12_whyNotUnsaid_68
def M_whyNotUnsaid (a1 : Int) (a2 : Int) (σ : Sg) : Rs := (bd (M_whyNoTwos a1 a2 σ) (fun r1 s2 => (M_whyNotUnsaid_L10 a1 a2 fu r1 0 s2)))
theorem ok_M_whyNotUnsaid (a1 : Int) (a2 : Int) (σ : Sg) : MC l Km Pm yX12_whyNotUnsaid cX12_whyNotUnsaid 5 0 4 [.inr (.inr 0), .inl a1, .inl a2] σ (M_whyNotUnsaid a1 a2 σ) := by
  refine mc_of (by decide) (Nat.le_of_ble_eq_true rfl) ?_
  change G l Km Pm RX12 cX12_whyNotUnsaid 5 0 4 0 [some (.inr (.inr 0)), some (.inl a1), some (.inl a2), none, none] [] σ (M_whyNotUnsaid a1 a2 σ)
  unfold M_whyNotUnsaid
  refine g_aload_n dX12_whyNotUnsaid_0 rfl rfl ?_
  refine g_iload_n dX12_whyNotUnsaid_1 rfl rfl ?_
  refine g_iload_n dX12_whyNotUnsaid_2 rfl rfl ?_
  refine g_callv0 (st := []) 10 mw_X12_whyNoTwos lk_RX12_436 rfl km_0 (ok_M_whyNoTwos a1 a2 σ) (Nat.le_of_ble_eq_true rfl) rfl rfl (Nat.le_of_ble_eq_true rfl) dX12_whyNotUnsaid_3 ?_
  intro r1 s2
  refine g_istore_n (lv' := [some (.inr (.inr 0)), some (.inl a1), some (.inl a2), some (.inl r1), none]) dX12_whyNotUnsaid_6 rfl (Nat.le_of_ble_eq_true rfl) rfl ?_
  refine g_iconst dX12_whyNotUnsaid_7 (by decide) ?_
  refine g_istore (lv' := [some (.inr (.inr 0)), some (.inl a1), some (.inl a2), some (.inl r1), some (.inl 0)]) dX12_whyNotUnsaid_8 (Nat.le_of_ble_eq_true rfl) rfl ?_
  refine (ok_M_whyNotUnsaid_L10 a1 a2 fu r1 0 s2)
theorem dX12_ask_0 : decode cX12_ask 0 = .ok (.aload_n 0, 1) := by decide +kernel
theorem dX12_ask_1 : decode cX12_ask 1 = .ok (.iconst 0, 1) := by decide +kernel
theorem dX12_ask_2 : decode cX12_ask 2 = .ok (.putfield 67, 3) := by decide +kernel
theorem dX12_ask_5 : decode cX12_ask 5 = .ok (.aload_n 0, 1) := by decide +kernel
theorem dX12_ask_6 : decode cX12_ask 6 = .ok (.aload_n 0, 1) := by decide +kernel
theorem dX12_ask_7 : decode cX12_ask 7 = .ok (.iload_n 1, 1) := by decide +kernel
theorem dX12_ask_8 : decode cX12_ask 8 = .ok (.iload_n 2, 1) := by decide +kernel
theorem dX12_ask_9 : decode cX12_ask 9 = .ok (.invokevirtual 455, 3) := by decide +kernel
theorem dX12_ask_12 : decode cX12_ask 12 = .ok (.putfield 70, 3) := by decide +kernel
theorem dX12_ask_15 : decode cX12_ask 15 = .ok (.aload_n 0, 1) := by decide +kernel
theorem dX12_ask_16 : decode cX12_ask 16 = .ok (.getfield 70, 3) := by decide +kernel
theorem dX12_ask_19 : decode cX12_ask 19 = .ok (.ifCond .le 5, 3) := by decide +kernel
theorem dX12_ask_22 : decode cX12_ask 22 = .ok (.iconst (-1), 1) := by decide +kernel
theorem dX12_ask_23 : decode cX12_ask 23 = .ok (.ireturn, 1) := by decide +kernel
theorem dX12_ask_24 : decode cX12_ask 24 = .ok (.aload_n 0, 1) := by decide +kernel
theorem dX12_ask_25 : decode cX12_ask 25 = .ok (.iload_n 1, 1) := by decide +kernel
theorem dX12_ask_26 : decode cX12_ask 26 = .ok (.iload_n 2, 1) := by decide +kernel
theorem dX12_ask_27 : decode cX12_ask 27 = .ok (.invokevirtual 458, 3) := by decide +kernel
theorem dX12_ask_30 : decode cX12_ask 30 = .ok (.aload_n 0, 1) := by decide +kernel
theorem dX12_ask_31 : decode cX12_ask 31 = .ok (.getfield 446, 3) := by decide +kernel
theorem dX12_ask_34 : decode cX12_ask 34 = .ok (.iconst 2, 1) := by decide +kernel
theorem dX12_ask_35 : decode cX12_ask 35 = .ok (.if_icmp .ge 10, 3) := by decide +kernel
theorem dX12_ask_38 : decode cX12_ask 38 = .ok (.aload_n 0, 1) := by decide +kernel
theorem dX12_ask_39 : decode cX12_ask 39 = .ok (.bipush 8, 2) := by decide +kernel
theorem dX12_ask_41 : decode cX12_ask 41 = .ok (.invokevirtual 325, 3) := by decide +kernel
theorem dX12_ask_44 : decode cX12_ask 44 = .ok (.ireturn, 1) := by decide +kernel
theorem dX12_ask_45 : decode cX12_ask 45 = .ok (.iconst 0, 1) := by decide +kernel
theorem dX12_ask_46 : decode cX12_ask 46 = .ok (.istore_n 3, 1) := by decide +kernel
theorem dX12_ask_47 : decode cX12_ask 47 = .ok (.iconst 0, 1) := by decide +kernel
theorem dX12_ask_48 : decode cX12_ask 48 = .ok (.istore 4, 2) := by decide +kernel
theorem dX12_ask_50 : decode cX12_ask 50 = .ok (.iconst 1, 1) := by decide +kernel
theorem dX12_ask_51 : decode cX12_ask 51 = .ok (.istore 5, 2) := by decide +kernel
theorem dX12_ask_53 : decode cX12_ask 53 = .ok (.iload 5, 2) := by decide +kernel
theorem dX12_ask_55 : decode cX12_ask 55 = .ok (.bipush 99, 2) := by decide +kernel
theorem dX12_ask_57 : decode cX12_ask 57 = .ok (.if_icmp .gt 34, 3) := by decide +kernel
theorem dX12_ask_60 : decode cX12_ask 60 = .ok (.aload_n 0, 1) := by decide +kernel
theorem dX12_ask_61 : decode cX12_ask 61 = .ok (.iload 5, 2) := by decide +kernel
theorem dX12_ask_63 : decode cX12_ask 63 = .ok (.invokevirtual 461, 3) := by decide +kernel
theorem dX12_ask_66 : decode cX12_ask 66 = .ok (.istore 6, 2) := by decide +kernel
theorem dX12_ask_68 : decode cX12_ask 68 = .ok (.iload 6, 2) := by decide +kernel
theorem dX12_ask_70 : decode cX12_ask 70 = .ok (.iload 4, 2) := by decide +kernel
theorem dX12_ask_72 : decode cX12_ask 72 = .ok (.if_icmp .gt 6, 3) := by decide +kernel
theorem dX12_ask_75 : decode cX12_ask 75 = .ok (.goto 10, 3) := by decide +kernel
theorem dX12_ask_78 : decode cX12_ask 78 = .ok (.iload 6, 2) := by decide +kernel
theorem dX12_ask_80 : decode cX12_ask 80 = .ok (.istore 4, 2) := by decide +kernel
theorem dX12_ask_82 : decode cX12_ask 82 = .ok (.iload 5, 2) := by decide +kernel
theorem dX12_ask_84 : decode cX12_ask 84 = .ok (.istore_n 3, 1) := by decide +kernel
theorem dX12_ask_85 : decode cX12_ask 85 = .ok (.iinc 5 1, 3) := by decide +kernel
theorem dX12_ask_88 : decode cX12_ask 88 = .ok (.goto (-35), 3) := by decide +kernel
theorem dX12_ask_91 : decode cX12_ask 91 = .ok (.iload_n 3, 1) := by decide +kernel
theorem dX12_ask_92 : decode cX12_ask 92 = .ok (.ireturn, 1) := by decide +kernel
theorem mw_X12_ask : MW yX12_ask cX12_ask 7 0 2 false := ⟨tm 2242 (by decide +kernel) rfl, tm 249 (by decide +kernel) rfl, by decide, by decide, (by rw [if_neg (by decide)]; exact ⟨tm 2240 (by decide +kernel) rfl, tm 2241 (by decide +kernel) rfl⟩)⟩
theorem lk_RX12_325 : LK RX12 325 yX12_refuse := Or.inl (tm 1981 (by decide +kernel) rfl)
theorem lk_RX12_455 : LK RX12 455 yX12_whyNotUnsaid := Or.inl (tm 2206 (by decide +kernel) rfl)
theorem lk_RX12_458 : LK RX12 458 yX12_laysUnsaid := Or.inl (tm 2219 (by decide +kernel) rfl)
theorem lk_RX12_461 : LK RX12 461 yX12_unlike := Or.inl (tm 2243 (by decide +kernel) rfl)
theorem fl_RX12_67 : FL RX12 67 10 1 := ⟨_, _, _, _, cw_10, by decide, Or.inl (by decide), Or.inr (by decide), Or.inl (tm 1569 (by decide +kernel) rfl)⟩
def M_ask_L53  : Nat → Int → Int → Int → Sg → Rs
  | 0, _, _, _, _ => none
  | n + 1, v3, v4, v5, σ => (if 99 < v5 then (some (v3, σ)) else (bd (M_unlike v5 σ) (fun r9 s10 => (if v4 < r9 then (nm (w32 (v5 + 1)) (fun x11 => (M_ask_L53 n v5 r9 x11 s10))) else (nm (w32 (v5 + 1)) (fun x12 => (M_ask_L53 n v3 v4 x12 s10)))))))
theorem ok_M_ask_L53 : ∀ (n : Nat) (v3 v4 v5 : Int) (σ : Sg), G l Km Pm RX12 cX12_ask 7 0 5 53 [some (.inr (.inr 0)), none, none, some (.inl v3), some (.inl v4), some (.inl v5), none] [] σ (M_ask_L53  n v3 v4 v5 σ) := by
  intro n
  induction n with
  | zero => intros; exact G.none_
  | succ n ih =>
    intro v3 v4 v5 σ
    rw [M_ask_L53]
    refine g_iload dX12_ask_53 rfl ?_
    refine g_bipush dX12_ask_55 (by decide) ?_
    refine g_icmpgt (tgt := 91) dX12_ask_57 (by decide) ?_ ?_
    · refine g_iload_n dX12_ask_91 rfl rfl ?_
      exact g_iret dX12_ask_92
    · refine g_aload_n dX12_ask_60 rfl rfl ?_
      refine g_iload dX12_ask_61 rfl ?_
      refine g_callv0 (st := []) 10 mw_X12_unlike lk_RX12_461 rfl km_0 (ok_M_unlike v5 σ) (Nat.le_of_ble_eq_true rfl) rfl rfl (Nat.le_of_ble_eq_true rfl) dX12_ask_63 ?_
      intro r9 s10
      refine g_istore (lv' := [some (.inr (.inr 0)), none, none, some (.inl v3), some (.inl v4), some (.inl v5), some (.inl r9)]) dX12_ask_66 (Nat.le_of_ble_eq_true rfl) rfl ?_
      refine g_iload dX12_ask_68 rfl ?_
      refine g_iload dX12_ask_70 rfl ?_
      refine g_icmpgt (tgt := 78) dX12_ask_72 (by decide) ?_ ?_
      · refine g_iload dX12_ask_78 rfl ?_
        refine g_istore (lv' := [some (.inr (.inr 0)), none, none, some (.inl v3), some (.inl r9), some (.inl v5), some (.inl r9)]) dX12_ask_80 (Nat.le_of_ble_eq_true rfl) rfl ?_
        refine g_iload dX12_ask_82 rfl ?_
        refine g_istore_n (lv' := [some (.inr (.inr 0)), none, none, some (.inl v5), some (.inl r9), some (.inl v5), some (.inl r9)]) dX12_ask_84 rfl (Nat.le_of_ble_eq_true rfl) rfl ?_
        refine n_iinc (fun x11 => [some (.inr (.inr 0)), none, none, some (.inl v5), some (.inl r9), some (.inl x11), some (.inl r9)]) dX12_ask_85 rfl (Nat.le_of_ble_eq_true rfl) (fun _ => rfl) ?_
        intro x11
        refine g_goto (tgt := 53) dX12_ask_88 (by decide) ?_
        exact (g_weak [true, false, false, true, true, true, false] (ih v5 r9 x11 s10))
      · refine g_goto (tgt := 85) dX12_ask_75 (by decide) ?_
        refine n_iinc (fun x12 => [some (.inr (.inr 0)), none, none, some (.inl v3), some (.inl v4), some (.inl x12), some (.inl r9)]) dX12_ask_85 rfl (Nat.le_of_ble_eq_true rfl) (fun _ => rfl) ?_
        intro x12
        refine g_goto (tgt := 53) dX12_ask_88 (by decide) ?_
        exact (g_weak [true, false, false, true, true, true, false] (ih v3 v4 x12 s10))
def M_ask (a1 : Int) (a2 : Int) (σ : Sg) : Rs := (nm (up_s σ 0 1 0) (fun s1 => (bd (M_whyNotUnsaid a1 a2 s1) (fun r2 s3 => (nm (up_s s3 0 0 r2) (fun s4 => (if 0 < (s4 0 0) then (some ((-1), s4)) else (bd (M_laysUnsaid a1 a2 s4) (fun r5 s6 => (if (s6 0 27) < 2 then (bd (M_refuse 8 s6) (fun r7 s8 => (some (r7, s8)))) else (M_ask_L53 fu 0 0 1 s6)))))))))))
theorem ok_M_ask (a1 : Int) (a2 : Int) (σ : Sg) : MC l Km Pm yX12_ask cX12_ask 7 0 5 [.inr (.inr 0), .inl a1, .inl a2] σ (M_ask a1 a2 σ) := by
  refine mc_of (by decide) (Nat.le_of_ble_eq_true rfl) ?_
  change G l Km Pm RX12 cX12_ask 7 0 5 0 [some (.inr (.inr 0)), some (.inl a1), some (.inl a2), none, none, none, none] [] σ (M_ask a1 a2 σ)
  unfold M_ask
  refine g_aload_n dX12_ask_0 rfl rfl ?_
  refine g_iconst dX12_ask_1 (by decide) ?_
  refine g_puti fl_RX12_67 km_0 (by decide) dX12_ask_2 ?_
  intro s1
  refine g_aload_n dX12_ask_5 rfl rfl ?_
  refine g_aload_n dX12_ask_6 rfl rfl ?_
  refine g_iload_n dX12_ask_7 rfl rfl ?_
  refine g_iload_n dX12_ask_8 rfl rfl ?_
  refine g_callv0 (st := [.inr (.inr 0)]) 10 mw_X12_whyNotUnsaid lk_RX12_455 rfl km_0 (ok_M_whyNotUnsaid a1 a2 s1) (Nat.le_of_ble_eq_true rfl) rfl rfl (Nat.le_of_ble_eq_true rfl) dX12_ask_9 ?_
  intro r2 s3
  refine g_puti fl_RX12_70 km_0 (by decide) dX12_ask_12 ?_
  intro s4
  refine g_aload_n dX12_ask_15 rfl rfl ?_
  refine g_geti fl_RX12_70 km_0 (by decide) dX12_ask_16 ?_
  refine g_ifle (tgt := 24) dX12_ask_19 (by decide) ?_ ?_
  · refine g_iconst dX12_ask_22 (by decide) ?_
    exact g_iret dX12_ask_23
  · refine g_aload_n dX12_ask_24 rfl rfl ?_
    refine g_iload_n dX12_ask_25 rfl rfl ?_
    refine g_iload_n dX12_ask_26 rfl rfl ?_
    refine g_callv2 (st := []) 10 mw_X12_laysUnsaid lk_RX12_458 rfl km_0 (ok_M_laysUnsaid a1 a2 s4) (Nat.le_of_ble_eq_true rfl) rfl rfl (Nat.le_of_ble_eq_true rfl) dX12_ask_27 ?_
    intro r5 s6
    refine g_aload_n dX12_ask_30 rfl rfl ?_
    refine g_geti fl_RX12_446 km_0 (by decide) dX12_ask_31 ?_
    refine g_iconst dX12_ask_34 (by decide) ?_
    refine g_icmpge (tgt := 45) dX12_ask_35 (by decide) ?_ ?_
    · refine g_aload_n dX12_ask_38 rfl rfl ?_
      refine g_bipush dX12_ask_39 (by decide) ?_
      refine g_callv0 (st := []) 10 mw_X12_refuse lk_RX12_325 rfl km_0 (ok_M_refuse 8 s6) (Nat.le_of_ble_eq_true rfl) rfl rfl (Nat.le_of_ble_eq_true rfl) dX12_ask_41 ?_
      intro r7 s8
      exact g_iret dX12_ask_44
    · refine g_iconst dX12_ask_45 (by decide) ?_
      refine g_istore_n (lv' := [some (.inr (.inr 0)), some (.inl a1), some (.inl a2), some (.inl 0), none, none, none]) dX12_ask_46 rfl (Nat.le_of_ble_eq_true rfl) rfl ?_
      refine g_iconst dX12_ask_47 (by decide) ?_
      refine g_istore (lv' := [some (.inr (.inr 0)), some (.inl a1), some (.inl a2), some (.inl 0), some (.inl 0), none, none]) dX12_ask_48 (Nat.le_of_ble_eq_true rfl) rfl ?_
      refine g_iconst dX12_ask_50 (by decide) ?_
      refine g_istore (lv' := [some (.inr (.inr 0)), some (.inl a1), some (.inl a2), some (.inl 0), some (.inl 0), some (.inl 1), none]) dX12_ask_51 (Nat.le_of_ble_eq_true rfl) rfl ?_
      refine (g_weak [true, false, false, true, true, true, false] (ok_M_ask_L53 fu 0 0 1 s6))
theorem dX12_copy_0 : decode cX12_copy 0 = .ok (.iconst 0, 1) := by decide +kernel
theorem dX12_copy_1 : decode cX12_copy 1 = .ok (.istore_n 3, 1) := by decide +kernel
theorem dX12_copy_2 : decode cX12_copy 2 = .ok (.iload_n 3, 1) := by decide +kernel
theorem dX12_copy_3 : decode cX12_copy 3 = .ok (.sipush 447, 3) := by decide +kernel
theorem dX12_copy_6 : decode cX12_copy 6 = .ok (.if_icmp .ge 33, 3) := by decide +kernel
theorem dX12_copy_9 : decode cX12_copy 9 = .ok (.aload_n 0, 1) := by decide +kernel
theorem dX12_copy_10 : decode cX12_copy 10 = .ok (.getfield 35, 3) := by decide +kernel
theorem dX12_copy_13 : decode cX12_copy 13 = .ok (.sipush 447, 3) := by decide +kernel
theorem dX12_copy_16 : decode cX12_copy 16 = .ok (.iload_n 2, 1) := by decide +kernel
theorem dX12_copy_17 : decode cX12_copy 17 = .ok (.imul, 1) := by decide +kernel
theorem dX12_copy_18 : decode cX12_copy 18 = .ok (.iload_n 3, 1) := by decide +kernel
theorem dX12_copy_19 : decode cX12_copy 19 = .ok (.iadd, 1) := by decide +kernel
theorem dX12_copy_20 : decode cX12_copy 20 = .ok (.aload_n 0, 1) := by decide +kernel
theorem dX12_copy_21 : decode cX12_copy 21 = .ok (.getfield 35, 3) := by decide +kernel
theorem dX12_copy_24 : decode cX12_copy 24 = .ok (.sipush 447, 3) := by decide +kernel
theorem dX12_copy_27 : decode cX12_copy 27 = .ok (.iload_n 1, 1) := by decide +kernel
theorem dX12_copy_28 : decode cX12_copy 28 = .ok (.imul, 1) := by decide +kernel
theorem dX12_copy_29 : decode cX12_copy 29 = .ok (.iload_n 3, 1) := by decide +kernel
theorem dX12_copy_30 : decode cX12_copy 30 = .ok (.iadd, 1) := by decide +kernel
theorem dX12_copy_31 : decode cX12_copy 31 = .ok (.iaload, 1) := by decide +kernel
theorem dX12_copy_32 : decode cX12_copy 32 = .ok (.iastore, 1) := by decide +kernel
theorem dX12_copy_33 : decode cX12_copy 33 = .ok (.iinc 3 1, 3) := by decide +kernel
theorem dX12_copy_36 : decode cX12_copy 36 = .ok (.goto (-34), 3) := by decide +kernel
theorem dX12_copy_39 : decode cX12_copy 39 = .ok (.iconst 0, 1) := by decide +kernel
theorem dX12_copy_40 : decode cX12_copy 40 = .ok (.istore_n 3, 1) := by decide +kernel
theorem dX12_copy_41 : decode cX12_copy 41 = .ok (.iload_n 3, 1) := by decide +kernel
theorem dX12_copy_42 : decode cX12_copy 42 = .ok (.bipush 14, 2) := by decide +kernel
theorem dX12_copy_44 : decode cX12_copy 44 = .ok (.if_icmp .ge 31, 3) := by decide +kernel
theorem dX12_copy_47 : decode cX12_copy 47 = .ok (.aload_n 0, 1) := by decide +kernel
theorem dX12_copy_48 : decode cX12_copy 48 = .ok (.getfield 44, 3) := by decide +kernel
theorem dX12_copy_51 : decode cX12_copy 51 = .ok (.bipush 14, 2) := by decide +kernel
theorem dX12_copy_53 : decode cX12_copy 53 = .ok (.iload_n 2, 1) := by decide +kernel
theorem dX12_copy_54 : decode cX12_copy 54 = .ok (.imul, 1) := by decide +kernel
theorem dX12_copy_55 : decode cX12_copy 55 = .ok (.iload_n 3, 1) := by decide +kernel
theorem dX12_copy_56 : decode cX12_copy 56 = .ok (.iadd, 1) := by decide +kernel
theorem dX12_copy_57 : decode cX12_copy 57 = .ok (.aload_n 0, 1) := by decide +kernel
theorem dX12_copy_58 : decode cX12_copy 58 = .ok (.getfield 44, 3) := by decide +kernel
theorem dX12_copy_61 : decode cX12_copy 61 = .ok (.bipush 14, 2) := by decide +kernel
theorem dX12_copy_63 : decode cX12_copy 63 = .ok (.iload_n 1, 1) := by decide +kernel
theorem dX12_copy_64 : decode cX12_copy 64 = .ok (.imul, 1) := by decide +kernel
theorem dX12_copy_65 : decode cX12_copy 65 = .ok (.iload_n 3, 1) := by decide +kernel
theorem dX12_copy_66 : decode cX12_copy 66 = .ok (.iadd, 1) := by decide +kernel
theorem dX12_copy_67 : decode cX12_copy 67 = .ok (.laload, 1) := by decide +kernel
theorem dX12_copy_68 : decode cX12_copy 68 = .ok (.lastore, 1) := by decide +kernel
theorem dX12_copy_69 : decode cX12_copy 69 = .ok (.iinc 3 1, 3) := by decide +kernel
theorem dX12_copy_72 : decode cX12_copy 72 = .ok (.goto (-31), 3) := by decide +kernel
theorem dX12_copy_75 : decode cX12_copy 75 = .ok (.return_, 1) := by decide +kernel
theorem mw_X12_copy : MW yX12_copy cX12_copy 4 2 2 false := ⟨tm 1959 (by decide +kernel) rfl, tm 249 (by decide +kernel) rfl, by decide, by decide, (by rw [if_neg (by decide)]; exact ⟨tm 1958 (by decide +kernel) rfl, tm 170 (by decide +kernel) rfl⟩)⟩
theorem fl_RX12_44 : FL RX12 44 10 23 := ⟨_, _, _, _, cw_10, by decide, Or.inr (Or.inr (Or.inr (by decide))), Or.inl (by decide), Or.inl (tm 1591 (by decide +kernel) rfl)⟩
def M_copy_L2 (a1 : Int) (a2 : Int) (k41 : Int → Sg → Rs) : Nat → Int → Sg → Rs
  | 0, _, _ => none
  | n + 1, v3, σ => (if v3 < 447 then (rd 2235 (w32 ((w32 (447 * a1)) + v3)) (σ 5 (Int.toNat (w32 ((w32 (447 * a1)) + v3)))) (fun x1 => (wr 2235 (w32 ((w32 (447 * a2)) + v3)) (up_s σ 5 (Int.toNat (w32 ((w32 (447 * a2)) + v3))) x1) (fun s2 => (nm (w32 (v3 + 1)) (fun x3 => (M_copy_L2 a1 a2 k41 n x3 s2))))))) else (k41 0 σ))
theorem ok_M_copy_L2 (a1 : Int) (a2 : Int) (k41 : Int → Sg → Rs) (hk41 : ∀ (y3 : Int) (σ : Sg), G l Km Pm RX12 cX12_copy 4 2 1 41 [some (.inr (.inr 0)), some (.inl a1), some (.inl a2), some (.inl y3)] [] σ (k41 y3 σ)) : ∀ (n : Nat) (v3 : Int) (σ : Sg), G l Km Pm RX12 cX12_copy 4 2 1 2 [some (.inr (.inr 0)), some (.inl a1), some (.inl a2), some (.inl v3)] [] σ (M_copy_L2 a1 a2 k41 n v3 σ) := by
  intro n
  induction n with
  | zero => intros; exact G.none_
  | succ n ih =>
    intro v3 σ
    rw [M_copy_L2]
    refine g_iload_n dX12_copy_2 rfl rfl ?_
    refine g_sipush dX12_copy_3 (by decide) ?_
    refine g_icmpge (tgt := 39) dX12_copy_6 (by decide) ?_ ?_
    · refine g_aload_n dX12_copy_9 rfl rfl ?_
      refine g_getr' (q := 5) fl_RX12_35 km_0 (by decide) rfl dX12_copy_10 ?_
      refine g_sipush dX12_copy_13 (by decide) ?_
      refine g_iload_n dX12_copy_16 rfl rfl ?_
      refine g_imul dX12_copy_17 ?_
      refine g_iload_n dX12_copy_18 rfl rfl ?_
      refine g_iadd dX12_copy_19 ?_
      refine g_aload_n dX12_copy_20 rfl rfl ?_
      refine g_getr' (q := 5) fl_RX12_35 km_0 (by decide) rfl dX12_copy_21 ?_
      refine g_sipush dX12_copy_24 (by decide) ?_
      refine g_iload_n dX12_copy_27 rfl rfl ?_
      refine g_imul dX12_copy_28 ?_
      refine g_iload_n dX12_copy_29 rfl rfl ?_
      refine g_iadd dX12_copy_30 ?_
      refine g_iald km_5 dX12_copy_31 ?_
      intro x1
      refine g_iast km_5 dX12_copy_32 ?_
      intro s2
      refine n_iinc (fun x3 => [some (.inr (.inr 0)), some (.inl a1), some (.inl a2), some (.inl x3)]) dX12_copy_33 rfl (Nat.le_of_ble_eq_true rfl) (fun _ => rfl) ?_
      intro x3
      refine g_goto (tgt := 2) dX12_copy_36 (by decide) ?_
      exact (ih x3 s2)
    · refine g_iconst dX12_copy_39 (by decide) ?_
      refine g_istore_n (lv' := [some (.inr (.inr 0)), some (.inl a1), some (.inl a2), some (.inl 0)]) dX12_copy_40 rfl (Nat.le_of_ble_eq_true rfl) rfl ?_
      exact (hk41 0 σ)
def M_copy_L41 (a1 : Int) (a2 : Int) : Nat → Int → Sg → Rs
  | 0, _, _ => none
  | n + 1, v3, σ => (if v3 < 14 then (rd 70 (w32 ((w32 (14 * a1)) + v3)) (σ 8 (Int.toNat (w32 ((w32 (14 * a1)) + v3)))) (fun x6 => (wr 70 (w32 ((w32 (14 * a2)) + v3)) (up_s σ 8 (Int.toNat (w32 ((w32 (14 * a2)) + v3))) x6) (fun s7 => (nm (w32 (v3 + 1)) (fun x8 => (M_copy_L41 a1 a2 n x8 s7))))))) else (some (0, σ)))
theorem ok_M_copy_L41 (a1 : Int) (a2 : Int) : ∀ (n : Nat) (v3 : Int) (σ : Sg), G l Km Pm RX12 cX12_copy 4 2 1 41 [some (.inr (.inr 0)), some (.inl a1), some (.inl a2), some (.inl v3)] [] σ (M_copy_L41 a1 a2 n v3 σ) := by
  intro n
  induction n with
  | zero => intros; exact G.none_
  | succ n ih =>
    intro v3 σ
    rw [M_copy_L41]
    refine g_iload_n dX12_copy_41 rfl rfl ?_
    refine g_bipush dX12_copy_42 (by decide) ?_
    refine g_icmpge (tgt := 75) dX12_copy_44 (by decide) ?_ ?_
    · refine g_aload_n dX12_copy_47 rfl rfl ?_
      refine g_getr' (q := 8) fl_RX12_44 km_0 (by decide) rfl dX12_copy_48 ?_
      refine g_bipush dX12_copy_51 (by decide) ?_
      refine g_iload_n dX12_copy_53 rfl rfl ?_
      refine g_imul dX12_copy_54 ?_
      refine g_iload_n dX12_copy_55 rfl rfl ?_
      refine g_iadd dX12_copy_56 ?_
      refine g_aload_n dX12_copy_57 rfl rfl ?_
      refine g_getr' (q := 8) fl_RX12_44 km_0 (by decide) rfl dX12_copy_58 ?_
      refine g_bipush dX12_copy_61 (by decide) ?_
      refine g_iload_n dX12_copy_63 rfl rfl ?_
      refine g_imul dX12_copy_64 ?_
      refine g_iload_n dX12_copy_65 rfl rfl ?_
      refine g_iadd dX12_copy_66 ?_
      refine g_lald km_8 dX12_copy_67 ?_
      intro x6
      refine g_last km_8 dX12_copy_68 ?_
      intro s7
      refine n_iinc (fun x8 => [some (.inr (.inr 0)), some (.inl a1), some (.inl a2), some (.inl x8)]) dX12_copy_69 rfl (Nat.le_of_ble_eq_true rfl) (fun _ => rfl) ?_
      intro x8
      refine g_goto (tgt := 41) dX12_copy_72 (by decide) ?_
      exact (ih x8 s7)
    · exact g_vret dX12_copy_75
def M_copy (a1 : Int) (a2 : Int) (σ : Sg) : Rs := (M_copy_L2 a1 a2 (fun x4 s5 => (M_copy_L41 a1 a2 fu x4 s5)) fu 0 σ)
theorem ok_M_copy (a1 : Int) (a2 : Int) (σ : Sg) : MC l Km Pm yX12_copy cX12_copy 4 2 1 [.inr (.inr 0), .inl a1, .inl a2] σ (M_copy a1 a2 σ) := by
  refine mc_of (by decide) (Nat.le_of_ble_eq_true rfl) ?_
  change G l Km Pm RX12 cX12_copy 4 2 1 0 [some (.inr (.inr 0)), some (.inl a1), some (.inl a2), none] [] σ (M_copy a1 a2 σ)
  unfold M_copy
  refine g_iconst dX12_copy_0 (by decide) ?_
  refine g_istore_n (lv' := [some (.inr (.inr 0)), some (.inl a1), some (.inl a2), some (.inl 0)]) dX12_copy_1 rfl (Nat.le_of_ble_eq_true rfl) rfl ?_
  refine (ok_M_copy_L2 a1 a2 _ ?_ fu 0 σ)
  · intro x4 s5
    refine (ok_M_copy_L41 a1 a2 fu x4 s5)
theorem dX12_back_0 : decode cX12_back 0 = .ok (.aload_n 0, 1) := by decide +kernel
theorem dX12_back_1 : decode cX12_back 1 = .ok (.iconst 0, 1) := by decide +kernel
theorem dX12_back_2 : decode cX12_back 2 = .ok (.putfield 67, 3) := by decide +kernel
theorem dX12_back_5 : decode cX12_back 5 = .ok (.aload_n 0, 1) := by decide +kernel
theorem dX12_back_6 : decode cX12_back 6 = .ok (.iconst 0, 1) := by decide +kernel
theorem dX12_back_7 : decode cX12_back 7 = .ok (.putfield 70, 3) := by decide +kernel
theorem dX12_back_10 : decode cX12_back 10 = .ok (.aload_n 0, 1) := by decide +kernel
theorem dX12_back_11 : decode cX12_back 11 = .ok (.getfield 576, 3) := by decide +kernel
theorem dX12_back_14 : decode cX12_back 14 = .ok (.ifCond .ne 10, 3) := by decide +kernel
theorem dX12_back_17 : decode cX12_back 17 = .ok (.aload_n 0, 1) := by decide +kernel
theorem dX12_back_18 : decode cX12_back 18 = .ok (.bipush 8, 2) := by decide +kernel
theorem dX12_back_20 : decode cX12_back 20 = .ok (.invokevirtual 325, 3) := by decide +kernel
theorem dX12_back_23 : decode cX12_back 23 = .ok (.ireturn, 1) := by decide +kernel
theorem dX12_back_24 : decode cX12_back 24 = .ok (.aload_n 0, 1) := by decide +kernel
theorem dX12_back_25 : decode cX12_back 25 = .ok (.aload_n 0, 1) := by decide +kernel
theorem dX12_back_26 : decode cX12_back 26 = .ok (.getfield 576, 3) := by decide +kernel
theorem dX12_back_29 : decode cX12_back 29 = .ok (.iconst 0, 1) := by decide +kernel
theorem dX12_back_30 : decode cX12_back 30 = .ok (.invokevirtual 302, 3) := by decide +kernel
theorem dX12_back_33 : decode cX12_back 33 = .ok (.aload_n 0, 1) := by decide +kernel
theorem dX12_back_34 : decode cX12_back 34 = .ok (.dup, 1) := by decide +kernel
theorem dX12_back_35 : decode cX12_back 35 = .ok (.getfield 576, 3) := by decide +kernel
theorem dX12_back_38 : decode cX12_back 38 = .ok (.iconst 1, 1) := by decide +kernel
theorem dX12_back_39 : decode cX12_back 39 = .ok (.isub, 1) := by decide +kernel
theorem dX12_back_40 : decode cX12_back 40 = .ok (.putfield 576, 3) := by decide +kernel
theorem dX12_back_43 : decode cX12_back 43 = .ok (.aload_n 0, 1) := by decide +kernel
theorem dX12_back_44 : decode cX12_back 44 = .ok (.getfield 576, 3) := by decide +kernel
theorem dX12_back_47 : decode cX12_back 47 = .ok (.ireturn, 1) := by decide +kernel
theorem mw_X12_back : MW yX12_back cX12_back 1 0 0 false := ⟨tm 2419 (by decide +kernel) rfl, tm 249 (by decide +kernel) rfl, by decide, by decide, (by rw [if_neg (by decide)]; exact ⟨tm 2417 (by decide +kernel) rfl, tm 2418 (by decide +kernel) rfl⟩)⟩
theorem lk_RX12_302 : LK RX12 302 yX12_copy := Or.inl (tm 1956 (by decide +kernel) rfl)
theorem fl_RX12_576 : FL RX12 576 10 24 := ⟨_, _, _, _, cw_10, by decide, Or.inl (by decide), Or.inr (by decide), Or.inl (tm 1592 (by decide +kernel) rfl)⟩
def M_back  (σ : Sg) : Rs := (nm (up_s σ 0 1 0) (fun s1 => (nm (up_s s1 0 0 0) (fun s2 => (if (s2 0 24) = 0 then (bd (M_refuse 8 s2) (fun r3 s4 => (some (r3, s4)))) else (bd (M_copy (s2 0 24) 0 s2) (fun r5 s6 => (nm (up_s s6 0 24 (w32 ((s6 0 24) - 1))) (fun s7 => (some ((s7 0 24), s7)))))))))))
theorem ok_M_back (σ : Sg) : MC l Km Pm yX12_back cX12_back 1 0 2 [.inr (.inr 0)] σ (M_back σ) := by
  refine mc_of (by decide) (Nat.le_of_ble_eq_true rfl) ?_
  change G l Km Pm RX12 cX12_back 1 0 2 0 [some (.inr (.inr 0))] [] σ (M_back  σ)
  unfold M_back
  refine g_aload_n dX12_back_0 rfl rfl ?_
  refine g_iconst dX12_back_1 (by decide) ?_
  refine g_puti fl_RX12_67 km_0 (by decide) dX12_back_2 ?_
  intro s1
  refine g_aload_n dX12_back_5 rfl rfl ?_
  refine g_iconst dX12_back_6 (by decide) ?_
  refine g_puti fl_RX12_70 km_0 (by decide) dX12_back_7 ?_
  intro s2
  refine g_aload_n dX12_back_10 rfl rfl ?_
  refine g_geti fl_RX12_576 km_0 (by decide) dX12_back_11 ?_
  refine g_ifne (tgt := 24) dX12_back_14 (by decide) ?_ ?_
  · refine g_aload_n dX12_back_17 rfl rfl ?_
    refine g_bipush dX12_back_18 (by decide) ?_
    refine g_callv0 (st := []) 10 mw_X12_refuse lk_RX12_325 rfl km_0 (ok_M_refuse 8 s2) (Nat.le_of_ble_eq_true rfl) rfl rfl (Nat.le_of_ble_eq_true rfl) dX12_back_20 ?_
    intro r3 s4
    exact g_iret dX12_back_23
  · refine g_aload_n dX12_back_24 rfl rfl ?_
    refine g_aload_n dX12_back_25 rfl rfl ?_
    refine g_geti fl_RX12_576 km_0 (by decide) dX12_back_26 ?_
    refine g_iconst dX12_back_29 (by decide) ?_
    refine g_callv2 (st := []) 10 mw_X12_copy lk_RX12_302 rfl km_0 (ok_M_copy (s2 0 24) 0 s2) (Nat.le_of_ble_eq_true rfl) rfl rfl (Nat.le_of_ble_eq_true rfl) dX12_back_30 ?_
    intro r5 s6
    refine g_aload_n dX12_back_33 rfl rfl ?_
    refine g_dup dX12_back_34 rfl ?_
    refine g_geti fl_RX12_576 km_0 (by decide) dX12_back_35 ?_
    refine g_iconst dX12_back_38 (by decide) ?_
    refine g_isub dX12_back_39 ?_
    refine g_puti fl_RX12_576 km_0 (by decide) dX12_back_40 ?_
    intro s7
    refine g_aload_n dX12_back_43 rfl rfl ?_
    refine g_geti fl_RX12_576 km_0 (by decide) dX12_back_44 ?_
    exact g_iret dX12_back_47
theorem dX12_barbers_0 : decode cX12_barbers 0 = .ok (.iconst 0, 1) := by decide +kernel
theorem dX12_barbers_1 : decode cX12_barbers 1 = .ok (.istore_n 1, 1) := by decide +kernel
theorem dX12_barbers_2 : decode cX12_barbers 2 = .ok (.iconst 0, 1) := by decide +kernel
theorem dX12_barbers_3 : decode cX12_barbers 3 = .ok (.istore_n 2, 1) := by decide +kernel
theorem dX12_barbers_4 : decode cX12_barbers 4 = .ok (.iload_n 2, 1) := by decide +kernel
theorem dX12_barbers_5 : decode cX12_barbers 5 = .ok (.aload_n 0, 1) := by decide +kernel
theorem dX12_barbers_6 : decode cX12_barbers 6 = .ok (.getfield 35, 3) := by decide +kernel
theorem dX12_barbers_9 : decode cX12_barbers 9 = .ok (.iconst 1, 1) := by decide +kernel
theorem dX12_barbers_10 : decode cX12_barbers 10 = .ok (.iaload, 1) := by decide +kernel
theorem dX12_barbers_11 : decode cX12_barbers 11 = .ok (.if_icmp .ge 32, 3) := by decide +kernel
theorem dX12_barbers_14 : decode cX12_barbers 14 = .ok (.iload_n 1, 1) := by decide +kernel
theorem dX12_barbers_15 : decode cX12_barbers 15 = .ok (.aload_n 0, 1) := by decide +kernel
theorem dX12_barbers_16 : decode cX12_barbers 16 = .ok (.getfield 35, 3) := by decide +kernel
theorem dX12_barbers_19 : decode cX12_barbers 19 = .ok (.bipush 31, 2) := by decide +kernel
theorem dX12_barbers_21 : decode cX12_barbers 21 = .ok (.iload_n 2, 1) := by decide +kernel
theorem dX12_barbers_22 : decode cX12_barbers 22 = .ok (.iadd, 1) := by decide +kernel
theorem dX12_barbers_23 : decode cX12_barbers 23 = .ok (.iaload, 1) := by decide +kernel
theorem dX12_barbers_24 : decode cX12_barbers 24 = .ok (.iconst 1, 1) := by decide +kernel
theorem dX12_barbers_25 : decode cX12_barbers 25 = .ok (.if_icmp .ne 9, 3) := by decide +kernel
theorem dX12_barbers_28 : decode cX12_barbers 28 = .ok (.iconst 1, 1) := by decide +kernel
theorem dX12_barbers_29 : decode cX12_barbers 29 = .ok (.iload_n 2, 1) := by decide +kernel
theorem dX12_barbers_30 : decode cX12_barbers 30 = .ok (.ishl, 1) := by decide +kernel
theorem dX12_barbers_31 : decode cX12_barbers 31 = .ok (.goto 4, 3) := by decide +kernel
theorem dX12_barbers_34 : decode cX12_barbers 34 = .ok (.iconst 0, 1) := by decide +kernel
theorem dX12_barbers_35 : decode cX12_barbers 35 = .ok (.ior, 1) := by decide +kernel
theorem dX12_barbers_36 : decode cX12_barbers 36 = .ok (.istore_n 1, 1) := by decide +kernel
theorem dX12_barbers_37 : decode cX12_barbers 37 = .ok (.iinc 2 1, 3) := by decide +kernel
theorem dX12_barbers_40 : decode cX12_barbers 40 = .ok (.goto (-36), 3) := by decide +kernel
theorem dX12_barbers_43 : decode cX12_barbers 43 = .ok (.iload_n 1, 1) := by decide +kernel
theorem dX12_barbers_44 : decode cX12_barbers 44 = .ok (.ireturn, 1) := by decide +kernel
theorem mw_X12_barbers : MW yX12_barbers cX12_barbers 3 0 0 false := ⟨tm 1988 (by decide +kernel) rfl, tm 249 (by decide +kernel) rfl, by decide, by decide, (by rw [if_neg (by decide)]; exact ⟨tm 1987 (by decide +kernel) rfl, tm 175 (by decide +kernel) rfl⟩)⟩
def M_barbers_L4  : Nat → Int → Int → Sg → Rs
  | 0, _, _, _ => none
  | n + 1, v1, v2, σ => (rd 2235 1 (σ 5 (Int.toNat 1)) (fun x1 => (if v2 < x1 then (rd 2235 (w32 (31 + v2)) (σ 5 (Int.toNat (w32 (31 + v2)))) (fun x2 => (if x2 = 1 then (nm (or32 v1 (sl32 1 v2)) (fun x3 => (nm (w32 (v2 + 1)) (fun x4 => (M_barbers_L4 n x3 x4 σ))))) else (nm (or32 v1 0) (fun x5 => (nm (w32 (v2 + 1)) (fun x6 => (M_barbers_L4 n x5 x6 σ)))))))) else (some (v1, σ)))))
theorem ok_M_barbers_L4 : ∀ (n : Nat) (v1 v2 : Int) (σ : Sg), G l Km Pm RX12 cX12_barbers 3 0 1 4 [some (.inr (.inr 0)), some (.inl v1), some (.inl v2)] [] σ (M_barbers_L4  n v1 v2 σ) := by
  intro n
  induction n with
  | zero => intros; exact G.none_
  | succ n ih =>
    intro v1 v2 σ
    rw [M_barbers_L4]
    refine g_iload_n dX12_barbers_4 rfl rfl ?_
    refine g_aload_n dX12_barbers_5 rfl rfl ?_
    refine g_getr' (q := 5) fl_RX12_35 km_0 (by decide) rfl dX12_barbers_6 ?_
    refine g_iconst dX12_barbers_9 (by decide) ?_
    refine g_iald km_5 dX12_barbers_10 ?_
    intro x1
    refine g_icmpge (tgt := 43) dX12_barbers_11 (by decide) ?_ ?_
    · refine g_iload_n dX12_barbers_14 rfl rfl ?_
      refine g_aload_n dX12_barbers_15 rfl rfl ?_
      refine g_getr' (q := 5) fl_RX12_35 km_0 (by decide) rfl dX12_barbers_16 ?_
      refine g_bipush dX12_barbers_19 (by decide) ?_
      refine g_iload_n dX12_barbers_21 rfl rfl ?_
      refine g_iadd dX12_barbers_22 ?_
      refine g_iald km_5 dX12_barbers_23 ?_
      intro x2
      refine g_iconst dX12_barbers_24 (by decide) ?_
      refine g_icmpne (tgt := 34) dX12_barbers_25 (by decide) ?_ ?_
      · refine g_iconst dX12_barbers_28 (by decide) ?_
        refine g_iload_n dX12_barbers_29 rfl rfl ?_
        refine g_ishl dX12_barbers_30 ?_
        refine g_goto (tgt := 35) dX12_barbers_31 (by decide) ?_
        refine g_ior dX12_barbers_35 ?_
        refine n_istore_n (fun x3 => [some (.inr (.inr 0)), some (.inl x3), some (.inl v2)]) dX12_barbers_36 rfl (Nat.le_of_ble_eq_true rfl) (fun _ => rfl) ?_
        intro x3
        refine n_iinc (fun x4 => [some (.inr (.inr 0)), some (.inl x3), some (.inl x4)]) dX12_barbers_37 rfl (Nat.le_of_ble_eq_true rfl) (fun _ => rfl) ?_
        intro x4
        refine g_goto (tgt := 4) dX12_barbers_40 (by decide) ?_
        exact (ih x3 x4 σ)
      · refine g_iconst dX12_barbers_34 (by decide) ?_
        refine g_ior dX12_barbers_35 ?_
        refine n_istore_n (fun x5 => [some (.inr (.inr 0)), some (.inl x5), some (.inl v2)]) dX12_barbers_36 rfl (Nat.le_of_ble_eq_true rfl) (fun _ => rfl) ?_
        intro x5
        refine n_iinc (fun x6 => [some (.inr (.inr 0)), some (.inl x5), some (.inl x6)]) dX12_barbers_37 rfl (Nat.le_of_ble_eq_true rfl) (fun _ => rfl) ?_
        intro x6
        refine g_goto (tgt := 4) dX12_barbers_40 (by decide) ?_
        exact (ih x5 x6 σ)
    · refine g_iload_n dX12_barbers_43 rfl rfl ?_
      exact g_iret dX12_barbers_44
def M_barbers  (σ : Sg) : Rs := (M_barbers_L4 fu 0 0 σ)
theorem ok_M_barbers (σ : Sg) : MC l Km Pm yX12_barbers cX12_barbers 3 0 1 [.inr (.inr 0)] σ (M_barbers σ) := by
  refine mc_of (by decide) (Nat.le_of_ble_eq_true rfl) ?_
  change G l Km Pm RX12 cX12_barbers 3 0 1 0 [some (.inr (.inr 0)), none, none] [] σ (M_barbers  σ)
  unfold M_barbers
  refine g_iconst dX12_barbers_0 (by decide) ?_
  refine g_istore_n (lv' := [some (.inr (.inr 0)), some (.inl 0), none]) dX12_barbers_1 rfl (Nat.le_of_ble_eq_true rfl) rfl ?_
  refine g_iconst dX12_barbers_2 (by decide) ?_
  refine g_istore_n (lv' := [some (.inr (.inr 0)), some (.inl 0), some (.inl 0)]) dX12_barbers_3 rfl (Nat.le_of_ble_eq_true rfl) rfl ?_
  refine (ok_M_barbers_L4 fu 0 0 σ)
theorem dX12_count_0 : decode cX12_count 0 = .ok (.aload_n 0, 1) := by decide +kernel
theorem dX12_count_1 : decode cX12_count 1 = .ok (.getfield 211, 3) := by decide +kernel
theorem dX12_count_4 : decode cX12_count 4 = .ok (.ifCond .ne 15, 3) := by decide +kernel
theorem dX12_count_7 : decode cX12_count 7 = .ok (.aload_n 0, 1) := by decide +kernel
theorem dX12_count_8 : decode cX12_count 8 = .ok (.getfield 122, 3) := by decide +kernel
theorem dX12_count_11 : decode cX12_count 11 = .ok (.iconst 2, 1) := by decide +kernel
theorem dX12_count_12 : decode cX12_count 12 = .ok (.if_icmp .eq 7, 3) := by decide +kernel
theorem dX12_count_15 : decode cX12_count 15 = .ok (.aload_n 0, 1) := by decide +kernel
theorem dX12_count_16 : decode cX12_count 16 = .ok (.invokevirtual 224, 3) := by decide +kernel
theorem dX12_count_19 : decode cX12_count 19 = .ok (.aload_n 0, 1) := by decide +kernel
theorem dX12_count_20 : decode cX12_count 20 = .ok (.getfield 211, 3) := by decide +kernel
theorem dX12_count_23 : decode cX12_count 23 = .ok (.ifCond .ne 27, 3) := by decide +kernel
theorem dX12_count_26 : decode cX12_count 26 = .ok (.aload_n 0, 1) := by decide +kernel
theorem dX12_count_27 : decode cX12_count 27 = .ok (.getfield 141, 3) := by decide +kernel
theorem dX12_count_30 : decode cX12_count 30 = .ok (.i2l, 1) := by decide +kernel
theorem dX12_count_31 : decode cX12_count 31 = .ok (.iload_n 1, 1) := by decide +kernel
theorem dX12_count_32 : decode cX12_count 32 = .ok (.i2l, 1) := by decide +kernel
theorem dX12_count_33 : decode cX12_count 33 = .ok (.iload_n 2, 1) := by decide +kernel
theorem dX12_count_34 : decode cX12_count 34 = .ok (.i2l, 1) := by decide +kernel
theorem dX12_count_35 : decode cX12_count 35 = .ok (.invokestatic 102, 3) := by decide +kernel
theorem dX12_count_38 : decode cX12_count 38 = .ok (.ifCond .ne 12, 3) := by decide +kernel
theorem dX12_count_41 : decode cX12_count 41 = .ok (.aload_n 0, 1) := by decide +kernel
theorem dX12_count_42 : decode cX12_count 42 = .ok (.iconst 4, 1) := by decide +kernel
theorem dX12_count_43 : decode cX12_count 43 = .ok (.aload_n 0, 1) := by decide +kernel
theorem dX12_count_44 : decode cX12_count 44 = .ok (.getfield 116, 3) := by decide +kernel
theorem dX12_count_47 : decode cX12_count 47 = .ok (.invokevirtual 217, 3) := by decide +kernel
theorem dX12_count_50 : decode cX12_count 50 = .ok (.aload_n 0, 1) := by decide +kernel
theorem dX12_count_51 : decode cX12_count 51 = .ok (.getfield 211, 3) := by decide +kernel
theorem dX12_count_54 : decode cX12_count 54 = .ok (.ifCond .le 5, 3) := by decide +kernel
theorem dX12_count_57 : decode cX12_count 57 = .ok (.iconst 0, 1) := by decide +kernel
theorem dX12_count_58 : decode cX12_count 58 = .ok (.ireturn, 1) := by decide +kernel
theorem dX12_count_59 : decode cX12_count 59 = .ok (.aload_n 0, 1) := by decide +kernel
theorem dX12_count_60 : decode cX12_count 60 = .ok (.getfield 141, 3) := by decide +kernel
theorem dX12_count_63 : decode cX12_count 63 = .ok (.istore_n 3, 1) := by decide +kernel
theorem dX12_count_64 : decode cX12_count 64 = .ok (.aload_n 0, 1) := by decide +kernel
theorem dX12_count_65 : decode cX12_count 65 = .ok (.invokevirtual 221, 3) := by decide +kernel
theorem dX12_count_68 : decode cX12_count 68 = .ok (.iload_n 3, 1) := by decide +kernel
theorem dX12_count_69 : decode cX12_count 69 = .ok (.ireturn, 1) := by decide +kernel
theorem mw_X12_count : MW yX12_count cX12_count 4 0 2 false := ⟨tm 1815 (by decide +kernel) rfl, tm 249 (by decide +kernel) rfl, by decide, by decide, (by rw [if_neg (by decide)]; exact ⟨tm 1814 (by decide +kernel) rfl, tm 135 (by decide +kernel) rfl⟩)⟩
theorem lk_RX12_221 : LK RX12 221 yX12_advance := Or.inl (tm 1766 (by decide +kernel) rfl)
theorem lk_RX12_224 : LK RX12 224 yX12_amiss := Or.inl (tm 1816 (by decide +kernel) rfl)
def M_count_J50  (σ : Sg) : Rs := (if 0 < (σ 0 12) then (some (0, σ)) else (nm (σ 0 17) (fun x5 => (bd (M_advance σ) (fun r6 s7 => (some (x5, s7)))))))
theorem ok_M_count_J50 : ∀ (σ : Sg), G l Km Pm RX12 cX12_count 4 0 3 50 [some (.inr (.inr 0)), none, none, none] [] σ (M_count_J50   σ) := by
  intro σ
  unfold M_count_J50
  refine g_aload_n dX12_count_50 rfl rfl ?_
  refine g_geti fl_RX12_211 km_0 (by decide) dX12_count_51 ?_
  refine g_ifle (tgt := 59) dX12_count_54 (by decide) ?_ ?_
  · refine g_iconst dX12_count_57 (by decide) ?_
    exact g_iret dX12_count_58
  · refine g_aload_n dX12_count_59 rfl rfl ?_
    refine g_geti fl_RX12_141 km_0 (by decide) dX12_count_60 ?_
    refine n_istore_n (fun x5 => [some (.inr (.inr 0)), none, none, some (.inl x5)]) dX12_count_63 rfl (Nat.le_of_ble_eq_true rfl) (fun _ => rfl) ?_
    intro x5
    refine g_aload_n dX12_count_64 rfl rfl ?_
    refine g_callv2 (st := []) 10 mw_X12_advance lk_RX12_221 rfl km_0 (ok_M_advance σ) (Nat.le_of_ble_eq_true rfl) rfl rfl (Nat.le_of_ble_eq_true rfl) dX12_count_65 ?_
    intro r6 s7
    refine g_iload_n dX12_count_68 rfl rfl ?_
    exact g_iret dX12_count_69
def M_count_J19 (a1 : Int) (a2 : Int) (σ : Sg) : Rs := (if (σ 0 12) = 0 then (bd (M_isIn (σ 0 17) a1 a2 σ) (fun r1 s2 => (if r1 = 0 then (bd (M_fail 4 (s2 0 15) s2) (fun r3 s4 => (M_count_J50 s4))) else (M_count_J50 s2)))) else (M_count_J50 σ))
theorem ok_M_count_J19 (a1 : Int) (a2 : Int) : ∀ (σ : Sg), G l Km Pm RX12 cX12_count 4 0 3 19 [some (.inr (.inr 0)), some (.inl a1), some (.inl a2), none] [] σ (M_count_J19 a1 a2  σ) := by
  intro σ
  unfold M_count_J19
  refine g_aload_n dX12_count_19 rfl rfl ?_
  refine g_geti fl_RX12_211 km_0 (by decide) dX12_count_20 ?_
  refine g_ifne (tgt := 50) dX12_count_23 (by decide) ?_ ?_
  · refine g_aload_n dX12_count_26 rfl rfl ?_
    refine g_geti fl_RX12_141 km_0 (by decide) dX12_count_27 ?_
    refine g_i2l dX12_count_30 ?_
    refine g_iload_n dX12_count_31 rfl rfl ?_
    refine g_i2l dX12_count_32 ?_
    refine g_iload_n dX12_count_33 rfl rfl ?_
    refine g_i2l dX12_count_34 ?_
    refine g_calls3 (st := []) mw_X12_isIn lk_RX12_102 (ok_M_isIn (σ 0 17) a1 a2 σ) (Nat.le_of_ble_eq_true rfl) rfl rfl (Nat.le_of_ble_eq_true rfl) dX12_count_35 ?_
    intro r1 s2
    refine g_ifne (tgt := 50) dX12_count_38 (by decide) ?_ ?_
    · refine g_aload_n dX12_count_41 rfl rfl ?_
      refine g_iconst dX12_count_42 (by decide) ?_
      refine g_aload_n dX12_count_43 rfl rfl ?_
      refine g_geti fl_RX12_116 km_0 (by decide) dX12_count_44 ?_
      refine g_callv2 (st := []) 10 mw_X12_fail lk_RX12_217 rfl km_0 (ok_M_fail 4 (s2 0 15) s2) (Nat.le_of_ble_eq_true rfl) rfl rfl (Nat.le_of_ble_eq_true rfl) dX12_count_47 ?_
      intro r3 s4
      refine (g_weak [true, false, false, false] (ok_M_count_J50 s4))
    · refine (g_weak [true, false, false, false] (ok_M_count_J50 s2))
  · refine (g_weak [true, false, false, false] (ok_M_count_J50 σ))
def M_count (a1 : Int) (a2 : Int) (σ : Sg) : Rs := (if (σ 0 12) = 0 then (if (σ 0 14) = 2 then (M_count_J19 a1 a2 σ) else (bd (M_amiss σ) (fun r8 s9 => (M_count_J19 a1 a2 s9)))) else (M_count_J19 a1 a2 σ))
theorem ok_M_count (a1 : Int) (a2 : Int) (σ : Sg) : MC l Km Pm yX12_count cX12_count 4 0 3 [.inr (.inr 0), .inl a1, .inl a2] σ (M_count a1 a2 σ) := by
  refine mc_of (by decide) (Nat.le_of_ble_eq_true rfl) ?_
  change G l Km Pm RX12 cX12_count 4 0 3 0 [some (.inr (.inr 0)), some (.inl a1), some (.inl a2), none] [] σ (M_count a1 a2 σ)
  unfold M_count
  refine g_aload_n dX12_count_0 rfl rfl ?_
  refine g_geti fl_RX12_211 km_0 (by decide) dX12_count_1 ?_
  refine g_ifne (tgt := 19) dX12_count_4 (by decide) ?_ ?_
  · refine g_aload_n dX12_count_7 rfl rfl ?_
    refine g_geti fl_RX12_122 km_0 (by decide) dX12_count_8 ?_
    refine g_iconst dX12_count_11 (by decide) ?_
    refine g_icmpeq (tgt := 19) dX12_count_12 (by decide) ?_ ?_
    · refine (ok_M_count_J19 a1 a2 σ)
    · refine g_aload_n dX12_count_15 rfl rfl ?_
      refine g_callv2 (st := []) 10 mw_X12_amiss lk_RX12_224 rfl km_0 (ok_M_amiss σ) (Nat.le_of_ble_eq_true rfl) rfl rfl (Nat.le_of_ble_eq_true rfl) dX12_count_16 ?_
      intro r8 s9
      refine (ok_M_count_J19 a1 a2 s9)
  · refine (ok_M_count_J19 a1 a2 σ)
theorem dX12_must_0 : decode cX12_must 0 = .ok (.aload_n 0, 1) := by decide +kernel
theorem dX12_must_1 : decode cX12_must 1 = .ok (.getfield 211, 3) := by decide +kernel
theorem dX12_must_4 : decode cX12_must 4 = .ok (.ifCond .le 4, 3) := by decide +kernel
theorem dX12_must_7 : decode cX12_must 7 = .ok (.return_, 1) := by decide +kernel
theorem dX12_must_8 : decode cX12_must 8 = .ok (.iload_n 1, 1) := by decide +kernel
theorem dX12_must_9 : decode cX12_must 9 = .ok (.ifCond .eq 10, 3) := by decide +kernel
theorem dX12_must_12 : decode cX12_must 12 = .ok (.aload_n 0, 1) := by decide +kernel
theorem dX12_must_13 : decode cX12_must 13 = .ok (.invokevirtual 221, 3) := by decide +kernel
theorem dX12_must_16 : decode cX12_must 16 = .ok (.goto 7, 3) := by decide +kernel
theorem dX12_must_19 : decode cX12_must 19 = .ok (.aload_n 0, 1) := by decide +kernel
theorem dX12_must_20 : decode cX12_must 20 = .ok (.invokevirtual 224, 3) := by decide +kernel
theorem dX12_must_23 : decode cX12_must 23 = .ok (.return_, 1) := by decide +kernel
theorem mw_X12_must : MW yX12_must cX12_must 2 2 1 false := ⟨tm 1927 (by decide +kernel) rfl, tm 249 (by decide +kernel) rfl, by decide, by decide, (by rw [if_neg (by decide)]; exact ⟨tm 1926 (by decide +kernel) rfl, tm 162 (by decide +kernel) rfl⟩)⟩
def M_must (a1 : Int) (σ : Sg) : Rs := (if 0 < (σ 0 12) then (some (0, σ)) else (if a1 = 0 then (bd (M_amiss σ) (fun r1 s2 => (some (0, s2)))) else (bd (M_advance σ) (fun r3 s4 => (some (0, s4))))))
theorem ok_M_must (a1 : Int) (σ : Sg) : MC l Km Pm yX12_must cX12_must 2 2 3 [.inr (.inr 0), .inl a1] σ (M_must a1 σ) := by
  refine mc_of (by decide) (Nat.le_of_ble_eq_true rfl) ?_
  change G l Km Pm RX12 cX12_must 2 2 3 0 [some (.inr (.inr 0)), some (.inl a1)] [] σ (M_must a1 σ)
  unfold M_must
  refine g_aload_n dX12_must_0 rfl rfl ?_
  refine g_geti fl_RX12_211 km_0 (by decide) dX12_must_1 ?_
  refine g_ifle (tgt := 8) dX12_must_4 (by decide) ?_ ?_
  · exact g_vret dX12_must_7
  · refine g_iload_n dX12_must_8 rfl rfl ?_
    refine g_ifeq (tgt := 19) dX12_must_9 (by decide) ?_ ?_
    · refine g_aload_n dX12_must_19 rfl rfl ?_
      refine g_callv2 (st := []) 10 mw_X12_amiss lk_RX12_224 rfl km_0 (ok_M_amiss σ) (Nat.le_of_ble_eq_true rfl) rfl rfl (Nat.le_of_ble_eq_true rfl) dX12_must_20 ?_
      intro r1 s2
      exact g_vret dX12_must_23
    · refine g_aload_n dX12_must_12 rfl rfl ?_
      refine g_callv2 (st := []) 10 mw_X12_advance lk_RX12_221 rfl km_0 (ok_M_advance σ) (Nat.le_of_ble_eq_true rfl) rfl rfl (Nat.le_of_ble_eq_true rfl) dX12_must_13 ?_
      intro r3 s4
      refine g_goto (tgt := 23) dX12_must_16 (by decide) ?_
      exact g_vret dX12_must_23
theorem dX12_behindWord_0 : decode cX12_behindWord 0 = .ok (.aload_n 0, 1) := by decide +kernel
theorem dX12_behindWord_1 : decode cX12_behindWord 1 = .ok (.iload_n 1, 1) := by decide +kernel
theorem dX12_behindWord_2 : decode cX12_behindWord 2 = .ok (.invokevirtual 227, 3) := by decide +kernel
theorem dX12_behindWord_5 : decode cX12_behindWord 5 = .ok (.aload_n 0, 1) := by decide +kernel
theorem dX12_behindWord_6 : decode cX12_behindWord 6 = .ok (.iload_n 2, 1) := by decide +kernel
theorem dX12_behindWord_7 : decode cX12_behindWord 7 = .ok (.iload_n 3, 1) := by decide +kernel
theorem dX12_behindWord_8 : decode cX12_behindWord 8 = .ok (.invokevirtual 231, 3) := by decide +kernel
theorem dX12_behindWord_11 : decode cX12_behindWord 11 = .ok (.ireturn, 1) := by decide +kernel
theorem mw_X12_behindWord : MW yX12_behindWord cX12_behindWord 4 0 3 false := ⟨tm 1943 (by decide +kernel) rfl, tm 249 (by decide +kernel) rfl, by decide, by decide, (by rw [if_neg (by decide)]; exact ⟨tm 1942 (by decide +kernel) rfl, tm 166 (by decide +kernel) rfl⟩)⟩
theorem lk_RX12_227 : LK RX12 227 yX12_must := Or.inl (tm 1924 (by decide +kernel) rfl)
theorem lk_RX12_231 : LK RX12 231 yX12_count := Or.inl (tm 1812 (by decide +kernel) rfl)
def M_behindWord (a1 : Int) (a2 : Int) (a3 : Int) (σ : Sg) : Rs := (bd (M_must a1 σ) (fun r1 s2 => (bd (M_count a2 a3 s2) (fun r3 s4 => (some (r3, s4))))))
theorem ok_M_behindWord (a1 : Int) (a2 : Int) (a3 : Int) (σ : Sg) : MC l Km Pm yX12_behindWord cX12_behindWord 4 0 4 [.inr (.inr 0), .inl a1, .inl a2, .inl a3] σ (M_behindWord a1 a2 a3 σ) := by
  refine mc_of (by decide) (Nat.le_of_ble_eq_true rfl) ?_
  change G l Km Pm RX12 cX12_behindWord 4 0 4 0 [some (.inr (.inr 0)), some (.inl a1), some (.inl a2), some (.inl a3)] [] σ (M_behindWord a1 a2 a3 σ)
  unfold M_behindWord
  refine g_aload_n dX12_behindWord_0 rfl rfl ?_
  refine g_iload_n dX12_behindWord_1 rfl rfl ?_
  refine g_callv2 (st := []) 10 mw_X12_must lk_RX12_227 rfl km_0 (ok_M_must a1 σ) (Nat.le_of_ble_eq_true rfl) rfl rfl (Nat.le_of_ble_eq_true rfl) dX12_behindWord_2 ?_
  intro r1 s2
  refine g_aload_n dX12_behindWord_5 rfl rfl ?_
  refine g_iload_n dX12_behindWord_6 rfl rfl ?_
  refine g_iload_n dX12_behindWord_7 rfl rfl ?_
  refine g_callv0 (st := []) 10 mw_X12_count lk_RX12_231 rfl km_0 (ok_M_count a2 a3 s2) (Nat.le_of_ble_eq_true rfl) rfl rfl (Nat.le_of_ble_eq_true rfl) dX12_behindWord_8 ?_
  intro r3 s4
  exact g_iret dX12_behindWord_11
theorem dX12_bottom_0 : decode cX12_bottom 0 = .ok (.aload_n 0, 1) := by decide +kernel
theorem dX12_bottom_1 : decode cX12_bottom 1 = .ok (.iconst 0, 1) := by decide +kernel
theorem dX12_bottom_2 : decode cX12_bottom 2 = .ok (.putfield 67, 3) := by decide +kernel
theorem dX12_bottom_5 : decode cX12_bottom 5 = .ok (.aload_n 0, 1) := by decide +kernel
theorem dX12_bottom_6 : decode cX12_bottom 6 = .ok (.getfield 7, 3) := by decide +kernel
theorem dX12_bottom_9 : decode cX12_bottom 9 = .ok (.lreturn, 1) := by decide +kernel
theorem mw_X12_bottom : MW yX12_bottom cX12_bottom 1 1 0 false := ⟨tm 1713 (by decide +kernel) rfl, tm 249 (by decide +kernel) rfl, by decide, by decide, (by rw [if_neg (by decide)]; exact ⟨tm 1711 (by decide +kernel) rfl, tm 1712 (by decide +kernel) rfl⟩)⟩
theorem fl_RX12_7 : FL RX12 7 10 3 := ⟨_, _, _, _, cw_10, by decide, Or.inr (Or.inl (by decide)), Or.inr (by decide), Or.inl (tm 1571 (by decide +kernel) rfl)⟩
def M_bottom  (σ : Sg) : Rs := (nm (up_s σ 0 1 0) (fun s1 => (some ((s1 0 3), s1))))
theorem ok_M_bottom (σ : Sg) : MC l Km Pm yX12_bottom cX12_bottom 1 1 1 [.inr (.inr 0)] σ (M_bottom σ) := by
  refine mc_of (by decide) (Nat.le_of_ble_eq_true rfl) ?_
  change G l Km Pm RX12 cX12_bottom 1 1 1 0 [some (.inr (.inr 0))] [] σ (M_bottom  σ)
  unfold M_bottom
  refine g_aload_n dX12_bottom_0 rfl rfl ?_
  refine g_iconst dX12_bottom_1 (by decide) ?_
  refine g_puti fl_RX12_67 km_0 (by decide) dX12_bottom_2 ?_
  intro s1
  refine g_aload_n dX12_bottom_5 rfl rfl ?_
  refine g_getl fl_RX12_7 km_0 (by decide) dX12_bottom_6 ?_
  exact g_lret dX12_bottom_9
theorem dX12_cancel_0 : decode cX12_cancel 0 = .ok (.aload_n 0, 1) := by decide +kernel
theorem dX12_cancel_1 : decode cX12_cancel 1 = .ok (.iconst 0, 1) := by decide +kernel
theorem dX12_cancel_2 : decode cX12_cancel 2 = .ok (.putfield 67, 3) := by decide +kernel
theorem dX12_cancel_5 : decode cX12_cancel 5 = .ok (.aload_n 0, 1) := by decide +kernel
theorem dX12_cancel_6 : decode cX12_cancel 6 = .ok (.iconst 0, 1) := by decide +kernel
theorem dX12_cancel_7 : decode cX12_cancel 7 = .ok (.putfield 70, 3) := by decide +kernel
theorem dX12_cancel_10 : decode cX12_cancel 10 = .ok (.aload_n 0, 1) := by decide +kernel
theorem dX12_cancel_11 : decode cX12_cancel 11 = .ok (.getfield 35, 3) := by decide +kernel
theorem dX12_cancel_14 : decode cX12_cancel 14 = .ok (.iconst 2, 1) := by decide +kernel
theorem dX12_cancel_15 : decode cX12_cancel 15 = .ok (.iaload, 1) := by decide +kernel
theorem dX12_cancel_16 : decode cX12_cancel 16 = .ok (.ifCond .ne 10, 3) := by decide +kernel
theorem dX12_cancel_19 : decode cX12_cancel 19 = .ok (.aload_n 0, 1) := by decide +kernel
theorem dX12_cancel_20 : decode cX12_cancel 20 = .ok (.bipush 8, 2) := by decide +kernel
theorem dX12_cancel_22 : decode cX12_cancel 22 = .ok (.invokevirtual 325, 3) := by decide +kernel
theorem dX12_cancel_25 : decode cX12_cancel 25 = .ok (.ireturn, 1) := by decide +kernel
theorem dX12_cancel_26 : decode cX12_cancel 26 = .ok (.aload_n 0, 1) := by decide +kernel
theorem dX12_cancel_27 : decode cX12_cancel 27 = .ok (.getfield 35, 3) := by decide +kernel
theorem dX12_cancel_30 : decode cX12_cancel 30 = .ok (.iconst 2, 1) := by decide +kernel
theorem dX12_cancel_31 : decode cX12_cancel 31 = .ok (.dup2, 1) := by decide +kernel
theorem dX12_cancel_32 : decode cX12_cancel 32 = .ok (.iaload, 1) := by decide +kernel
theorem dX12_cancel_33 : decode cX12_cancel 33 = .ok (.iconst 1, 1) := by decide +kernel
theorem dX12_cancel_34 : decode cX12_cancel 34 = .ok (.isub, 1) := by decide +kernel
theorem dX12_cancel_35 : decode cX12_cancel 35 = .ok (.iastore, 1) := by decide +kernel
theorem dX12_cancel_36 : decode cX12_cancel 36 = .ok (.aload_n 0, 1) := by decide +kernel
theorem dX12_cancel_37 : decode cX12_cancel 37 = .ok (.getfield 35, 3) := by decide +kernel
theorem dX12_cancel_40 : decode cX12_cancel 40 = .ok (.iconst 2, 1) := by decide +kernel
theorem dX12_cancel_41 : decode cX12_cancel 41 = .ok (.iaload, 1) := by decide +kernel
theorem dX12_cancel_42 : decode cX12_cancel 42 = .ok (.ireturn, 1) := by decide +kernel
theorem mw_X12_cancel : MW yX12_cancel cX12_cancel 1 0 0 false := ⟨tm 2137 (by decide +kernel) rfl, tm 249 (by decide +kernel) rfl, by decide, by decide, (by rw [if_neg (by decide)]; exact ⟨tm 2135 (by decide +kernel) rfl, tm 2136 (by decide +kernel) rfl⟩)⟩
def M_cancel  (σ : Sg) : Rs := (nm (up_s σ 0 1 0) (fun s1 => (nm (up_s s1 0 0 0) (fun s2 => (rd 2235 2 (s2 5 (Int.toNat 2)) (fun x3 => (if x3 = 0 then (bd (M_refuse 8 s2) (fun r4 s5 => (some (r4, s5)))) else (rd 2235 2 (s2 5 (Int.toNat 2)) (fun x6 => (wr 2235 2 (up_s s2 5 (Int.toNat 2) (w32 (x6 - 1))) (fun s7 => (rd 2235 2 (s7 5 (Int.toNat 2)) (fun x8 => (some (x8, s7)))))))))))))))
theorem ok_M_cancel (σ : Sg) : MC l Km Pm yX12_cancel cX12_cancel 1 0 2 [.inr (.inr 0)] σ (M_cancel σ) := by
  refine mc_of (by decide) (Nat.le_of_ble_eq_true rfl) ?_
  change G l Km Pm RX12 cX12_cancel 1 0 2 0 [some (.inr (.inr 0))] [] σ (M_cancel  σ)
  unfold M_cancel
  refine g_aload_n dX12_cancel_0 rfl rfl ?_
  refine g_iconst dX12_cancel_1 (by decide) ?_
  refine g_puti fl_RX12_67 km_0 (by decide) dX12_cancel_2 ?_
  intro s1
  refine g_aload_n dX12_cancel_5 rfl rfl ?_
  refine g_iconst dX12_cancel_6 (by decide) ?_
  refine g_puti fl_RX12_70 km_0 (by decide) dX12_cancel_7 ?_
  intro s2
  refine g_aload_n dX12_cancel_10 rfl rfl ?_
  refine g_getr' (q := 5) fl_RX12_35 km_0 (by decide) rfl dX12_cancel_11 ?_
  refine g_iconst dX12_cancel_14 (by decide) ?_
  refine g_iald km_5 dX12_cancel_15 ?_
  intro x3
  refine g_ifne (tgt := 26) dX12_cancel_16 (by decide) ?_ ?_
  · refine g_aload_n dX12_cancel_19 rfl rfl ?_
    refine g_bipush dX12_cancel_20 (by decide) ?_
    refine g_callv0 (st := []) 10 mw_X12_refuse lk_RX12_325 rfl km_0 (ok_M_refuse 8 s2) (Nat.le_of_ble_eq_true rfl) rfl rfl (Nat.le_of_ble_eq_true rfl) dX12_cancel_22 ?_
    intro r4 s5
    exact g_iret dX12_cancel_25
  · refine g_aload_n dX12_cancel_26 rfl rfl ?_
    refine g_getr' (q := 5) fl_RX12_35 km_0 (by decide) rfl dX12_cancel_27 ?_
    refine g_iconst dX12_cancel_30 (by decide) ?_
    refine g_dup2 dX12_cancel_31 rfl rfl ?_
    refine g_iald km_5 dX12_cancel_32 ?_
    intro x6
    refine g_iconst dX12_cancel_33 (by decide) ?_
    refine g_isub dX12_cancel_34 ?_
    refine g_iast km_5 dX12_cancel_35 ?_
    intro s7
    refine g_aload_n dX12_cancel_36 rfl rfl ?_
    refine g_getr' (q := 5) fl_RX12_35 km_0 (by decide) rfl dX12_cancel_37 ?_
    refine g_iconst dX12_cancel_40 (by decide) ?_
    refine g_iald km_5 dX12_cancel_41 ?_
    intro x8
    exact g_iret dX12_cancel_42
theorem dX12_cut_0 : decode cX12_cut 0 = .ok (.iload_n 0, 1) := by decide +kernel
theorem dX12_cut_1 : decode cX12_cut 1 = .ok (.ifCond .ne 10, 3) := by decide +kernel
theorem dX12_cut_4 : decode cX12_cut 4 = .ok (.lload_n 1, 1) := by decide +kernel
theorem dX12_cut_5 : decode cX12_cut 5 = .ok (.l2i, 1) := by decide +kernel
theorem dX12_cut_6 : decode cX12_cut 6 = .ok (.i2b, 1) := by decide +kernel
theorem dX12_cut_7 : decode cX12_cut 7 = .ok (.i2l, 1) := by decide +kernel
theorem dX12_cut_8 : decode cX12_cut 8 = .ok (.goto 27, 3) := by decide +kernel
theorem dX12_cut_11 : decode cX12_cut 11 = .ok (.iload_n 0, 1) := by decide +kernel
theorem dX12_cut_12 : decode cX12_cut 12 = .ok (.iconst 1, 1) := by decide +kernel
theorem dX12_cut_13 : decode cX12_cut 13 = .ok (.if_icmp .ne 10, 3) := by decide +kernel
theorem dX12_cut_16 : decode cX12_cut 16 = .ok (.lload_n 1, 1) := by decide +kernel
theorem dX12_cut_17 : decode cX12_cut 17 = .ok (.l2i, 1) := by decide +kernel
theorem dX12_cut_18 : decode cX12_cut 18 = .ok (.i2s, 1) := by decide +kernel
theorem dX12_cut_19 : decode cX12_cut 19 = .ok (.i2l, 1) := by decide +kernel
theorem dX12_cut_20 : decode cX12_cut 20 = .ok (.goto 15, 3) := by decide +kernel
theorem dX12_cut_23 : decode cX12_cut 23 = .ok (.iload_n 0, 1) := by decide +kernel
theorem dX12_cut_24 : decode cX12_cut 24 = .ok (.iconst 2, 1) := by decide +kernel
theorem dX12_cut_25 : decode cX12_cut 25 = .ok (.if_icmp .ne 9, 3) := by decide +kernel
theorem dX12_cut_28 : decode cX12_cut 28 = .ok (.lload_n 1, 1) := by decide +kernel
theorem dX12_cut_29 : decode cX12_cut 29 = .ok (.l2i, 1) := by decide +kernel
theorem dX12_cut_30 : decode cX12_cut 30 = .ok (.i2l, 1) := by decide +kernel
theorem dX12_cut_31 : decode cX12_cut 31 = .ok (.goto 4, 3) := by decide +kernel
theorem dX12_cut_34 : decode cX12_cut 34 = .ok (.lload_n 1, 1) := by decide +kernel
theorem dX12_cut_35 : decode cX12_cut 35 = .ok (.lreturn, 1) := by decide +kernel
theorem mw_X12_cut : MW yX12_cut cX12_cut 3 1 2 true := ⟨tm 1736 (by decide +kernel) rfl, tm 249 (by decide +kernel) rfl, by decide, by decide, (by rw [if_pos rfl]; exact tm 1735 (by decide +kernel) rfl)⟩
def M_cut (a0 : Int) (a1 : Int) (σ : Sg) : Rs := (if a0 = 0 then (some ((b32 (w32 a1)), σ)) else (if a0 = 1 then (some ((s32 (w32 a1)), σ)) else (if a0 = 2 then (some ((w32 a1), σ)) else (some (a1, σ)))))
theorem ok_M_cut (a0 : Int) (a1 : Int) (σ : Sg) : MC l Km Pm yX12_cut cX12_cut 3 1 1 [.inl a0, .inr (.inl a1)] σ (M_cut a0 a1 σ) := by
  refine mc_of (by decide) (Nat.le_of_ble_eq_true rfl) ?_
  change G l Km Pm RX12 cX12_cut 3 1 1 0 [some (.inl a0), some (.inr (.inl a1)), none] [] σ (M_cut a0 a1 σ)
  unfold M_cut
  refine g_iload_n dX12_cut_0 rfl rfl ?_
  refine g_ifne (tgt := 11) dX12_cut_1 (by decide) ?_ ?_
  · refine g_lload_n dX12_cut_4 rfl rfl ?_
    refine g_l2i dX12_cut_5 ?_
    refine g_i2b dX12_cut_6 ?_
    refine g_i2l dX12_cut_7 ?_
    refine g_goto (tgt := 35) dX12_cut_8 (by decide) ?_
    exact g_lret dX12_cut_35
  · refine g_iload_n dX12_cut_11 rfl rfl ?_
    refine g_iconst dX12_cut_12 (by decide) ?_
    refine g_icmpne (tgt := 23) dX12_cut_13 (by decide) ?_ ?_
    · refine g_lload_n dX12_cut_16 rfl rfl ?_
      refine g_l2i dX12_cut_17 ?_
      refine g_i2s dX12_cut_18 ?_
      refine g_i2l dX12_cut_19 ?_
      refine g_goto (tgt := 35) dX12_cut_20 (by decide) ?_
      exact g_lret dX12_cut_35
    · refine g_iload_n dX12_cut_23 rfl rfl ?_
      refine g_iconst dX12_cut_24 (by decide) ?_
      refine g_icmpne (tgt := 34) dX12_cut_25 (by decide) ?_ ?_
      · refine g_lload_n dX12_cut_28 rfl rfl ?_
        refine g_l2i dX12_cut_29 ?_
        refine g_i2l dX12_cut_30 ?_
        refine g_goto (tgt := 35) dX12_cut_31 (by decide) ?_
        exact g_lret dX12_cut_35
      · refine g_lload_n dX12_cut_34 rfl rfl ?_
        exact g_lret dX12_cut_35
theorem dX12_trayed_0 : decode cX12_trayed 0 = .ok (.iload_n 1, 1) := by decide +kernel
theorem dX12_trayed_1 : decode cX12_trayed 1 = .ok (.ifCond .lt 8, 3) := by decide +kernel
theorem dX12_trayed_4 : decode cX12_trayed 4 = .ok (.iload_n 1, 1) := by decide +kernel
theorem dX12_trayed_5 : decode cX12_trayed 5 = .ok (.iconst 4, 1) := by decide +kernel
theorem dX12_trayed_6 : decode cX12_trayed 6 = .ok (.if_icmp .lt 7, 3) := by decide +kernel
theorem dX12_trayed_9 : decode cX12_trayed 9 = .ok (.iconst 1, 1) := by decide +kernel
theorem dX12_trayed_10 : decode cX12_trayed 10 = .ok (.goto 17, 3) := by decide +kernel
theorem dX12_trayed_13 : decode cX12_trayed 13 = .ok (.aload_n 0, 1) := by decide +kernel
theorem dX12_trayed_14 : decode cX12_trayed 14 = .ok (.getfield 17, 3) := by decide +kernel
theorem dX12_trayed_17 : decode cX12_trayed 17 = .ok (.iload_n 1, 1) := by decide +kernel
theorem dX12_trayed_18 : decode cX12_trayed 18 = .ok (.iaload, 1) := by decide +kernel
theorem dX12_trayed_19 : decode cX12_trayed 19 = .ok (.ifCond .ge 7, 3) := by decide +kernel
theorem dX12_trayed_22 : decode cX12_trayed 22 = .ok (.iconst 3, 1) := by decide +kernel
theorem dX12_trayed_23 : decode cX12_trayed 23 = .ok (.goto 4, 3) := by decide +kernel
theorem dX12_trayed_26 : decode cX12_trayed 26 = .ok (.iconst 0, 1) := by decide +kernel
theorem dX12_trayed_27 : decode cX12_trayed 27 = .ok (.ireturn, 1) := by decide +kernel
theorem mw_X12_trayed : MW yX12_trayed cX12_trayed 2 0 1 false := ⟨tm 1733 (by decide +kernel) rfl, tm 249 (by decide +kernel) rfl, by decide, by decide, (by rw [if_neg (by decide)]; exact ⟨tm 1732 (by decide +kernel) rfl, tm 124 (by decide +kernel) rfl⟩)⟩
def M_trayed (a1 : Int) (σ : Sg) : Rs := (if a1 < 0 then (some (1, σ)) else (if a1 < 4 then (rd 4 a1 (σ 2 (Int.toNat a1)) (fun x1 => (if x1 < 0 then (some (3, σ)) else (some (0, σ))))) else (some (1, σ))))
theorem ok_M_trayed (a1 : Int) (σ : Sg) : MC l Km Pm yX12_trayed cX12_trayed 2 0 1 [.inr (.inr 0), .inl a1] σ (M_trayed a1 σ) := by
  refine mc_of (by decide) (Nat.le_of_ble_eq_true rfl) ?_
  change G l Km Pm RX12 cX12_trayed 2 0 1 0 [some (.inr (.inr 0)), some (.inl a1)] [] σ (M_trayed a1 σ)
  unfold M_trayed
  refine g_iload_n dX12_trayed_0 rfl rfl ?_
  refine g_iflt (tgt := 9) dX12_trayed_1 (by decide) ?_ ?_
  · refine g_iconst dX12_trayed_9 (by decide) ?_
    refine g_goto (tgt := 27) dX12_trayed_10 (by decide) ?_
    exact g_iret dX12_trayed_27
  · refine g_iload_n dX12_trayed_4 rfl rfl ?_
    refine g_iconst dX12_trayed_5 (by decide) ?_
    refine g_icmplt (tgt := 13) dX12_trayed_6 (by decide) ?_ ?_
    · refine g_aload_n dX12_trayed_13 rfl rfl ?_
      refine g_getr' (q := 2) fl_RX12_17 km_0 (by decide) rfl dX12_trayed_14 ?_
      refine g_iload_n dX12_trayed_17 rfl rfl ?_
      refine g_iald km_2 dX12_trayed_18 ?_
      intro x1
      refine g_ifge (tgt := 26) dX12_trayed_19 (by decide) ?_ ?_
      · refine g_iconst dX12_trayed_22 (by decide) ?_
        refine g_goto (tgt := 27) dX12_trayed_23 (by decide) ?_
        exact g_iret dX12_trayed_27
      · refine g_iconst dX12_trayed_26 (by decide) ?_
        exact g_iret dX12_trayed_27
    · refine g_iconst dX12_trayed_9 (by decide) ?_
      refine g_goto (tgt := 27) dX12_trayed_10 (by decide) ?_
      exact g_iret dX12_trayed_27
theorem dX12_placed_0 : decode cX12_placed 0 = .ok (.aload_n 0, 1) := by decide +kernel
theorem dX12_placed_1 : decode cX12_placed 1 = .ok (.iload_n 1, 1) := by decide +kernel
theorem dX12_placed_2 : decode cX12_placed 2 = .ok (.invokevirtual 86, 3) := by decide +kernel
theorem dX12_placed_5 : decode cX12_placed 5 = .ok (.istore_n 3, 1) := by decide +kernel
theorem dX12_placed_6 : decode cX12_placed 6 = .ok (.iload_n 3, 1) := by decide +kernel
theorem dX12_placed_7 : decode cX12_placed 7 = .ok (.ifCond .le 7, 3) := by decide +kernel
theorem dX12_placed_10 : decode cX12_placed 10 = .ok (.iload_n 3, 1) := by decide +kernel
theorem dX12_placed_11 : decode cX12_placed 11 = .ok (.goto 22, 3) := by decide +kernel
theorem dX12_placed_14 : decode cX12_placed 14 = .ok (.iload_n 2, 1) := by decide +kernel
theorem dX12_placed_15 : decode cX12_placed 15 = .ok (.ifCond .lt 13, 3) := by decide +kernel
theorem dX12_placed_18 : decode cX12_placed 18 = .ok (.iload_n 2, 1) := by decide +kernel
theorem dX12_placed_19 : decode cX12_placed 19 = .ok (.aload_n 0, 1) := by decide +kernel
theorem dX12_placed_20 : decode cX12_placed 20 = .ok (.getfield 17, 3) := by decide +kernel
theorem dX12_placed_23 : decode cX12_placed 23 = .ok (.iload_n 1, 1) := by decide +kernel
theorem dX12_placed_24 : decode cX12_placed 24 = .ok (.iaload, 1) := by decide +kernel
theorem dX12_placed_25 : decode cX12_placed 25 = .ok (.if_icmp .lt 7, 3) := by decide +kernel
theorem dX12_placed_28 : decode cX12_placed 28 = .ok (.iconst 4, 1) := by decide +kernel
theorem dX12_placed_29 : decode cX12_placed 29 = .ok (.goto 4, 3) := by decide +kernel
theorem dX12_placed_32 : decode cX12_placed 32 = .ok (.iconst 0, 1) := by decide +kernel
theorem dX12_placed_33 : decode cX12_placed 33 = .ok (.ireturn, 1) := by decide +kernel
theorem mw_X12_placed : MW yX12_placed cX12_placed 4 0 2 false := ⟨tm 1729 (by decide +kernel) rfl, tm 249 (by decide +kernel) rfl, by decide, by decide, (by rw [if_neg (by decide)]; exact ⟨tm 1728 (by decide +kernel) rfl, tm 123 (by decide +kernel) rfl⟩)⟩
theorem lk_RX12_86 : LK RX12 86 yX12_trayed := Or.inl (tm 1730 (by decide +kernel) rfl)
def M_placed (a1 : Int) (a2 : Int) (σ : Sg) : Rs := (bd (M_trayed a1 σ) (fun r1 s2 => (if 0 < r1 then (some (r1, s2)) else (if a2 < 0 then (some (4, s2)) else (rd 4 a1 (s2 2 (Int.toNat a1)) (fun x3 => (if a2 < x3 then (some (0, s2)) else (some (4, s2)))))))))
theorem ok_M_placed (a1 : Int) (a2 : Int) (σ : Sg) : MC l Km Pm yX12_placed cX12_placed 4 0 2 [.inr (.inr 0), .inl a1, .inl a2] σ (M_placed a1 a2 σ) := by
  refine mc_of (by decide) (Nat.le_of_ble_eq_true rfl) ?_
  change G l Km Pm RX12 cX12_placed 4 0 2 0 [some (.inr (.inr 0)), some (.inl a1), some (.inl a2), none] [] σ (M_placed a1 a2 σ)
  unfold M_placed
  refine g_aload_n dX12_placed_0 rfl rfl ?_
  refine g_iload_n dX12_placed_1 rfl rfl ?_
  refine g_callv0 (st := []) 10 mw_X12_trayed lk_RX12_86 rfl km_0 (ok_M_trayed a1 σ) (Nat.le_of_ble_eq_true rfl) rfl rfl (Nat.le_of_ble_eq_true rfl) dX12_placed_2 ?_
  intro r1 s2
  refine g_istore_n (lv' := [some (.inr (.inr 0)), some (.inl a1), some (.inl a2), some (.inl r1)]) dX12_placed_5 rfl (Nat.le_of_ble_eq_true rfl) rfl ?_
  refine g_iload_n dX12_placed_6 rfl rfl ?_
  refine g_ifle (tgt := 14) dX12_placed_7 (by decide) ?_ ?_
  · refine g_iload_n dX12_placed_10 rfl rfl ?_
    refine g_goto (tgt := 33) dX12_placed_11 (by decide) ?_
    exact g_iret dX12_placed_33
  · refine g_iload_n dX12_placed_14 rfl rfl ?_
    refine g_iflt (tgt := 28) dX12_placed_15 (by decide) ?_ ?_
    · refine g_iconst dX12_placed_28 (by decide) ?_
      refine g_goto (tgt := 33) dX12_placed_29 (by decide) ?_
      exact g_iret dX12_placed_33
    · refine g_iload_n dX12_placed_18 rfl rfl ?_
      refine g_aload_n dX12_placed_19 rfl rfl ?_
      refine g_getr' (q := 2) fl_RX12_17 km_0 (by decide) rfl dX12_placed_20 ?_
      refine g_iload_n dX12_placed_23 rfl rfl ?_
      refine g_iald km_2 dX12_placed_24 ?_
      intro x3
      refine g_icmplt (tgt := 32) dX12_placed_25 (by decide) ?_ ?_
      · refine g_iconst dX12_placed_32 (by decide) ?_
        exact g_iret dX12_placed_33
      · refine g_iconst dX12_placed_28 (by decide) ?_
        refine g_goto (tgt := 33) dX12_placed_29 (by decide) ?_
        exact g_iret dX12_placed_33
theorem dX12_write_0 : decode cX12_write 0 = .ok (.aload_n 0, 1) := by decide +kernel
theorem dX12_write_1 : decode cX12_write 1 = .ok (.iconst 0, 1) := by decide +kernel
theorem dX12_write_2 : decode cX12_write 2 = .ok (.putfield 67, 3) := by decide +kernel
theorem dX12_write_5 : decode cX12_write 5 = .ok (.aload_n 0, 1) := by decide +kernel
theorem dX12_write_6 : decode cX12_write 6 = .ok (.aload_n 0, 1) := by decide +kernel
theorem dX12_write_7 : decode cX12_write 7 = .ok (.iload_n 1, 1) := by decide +kernel
theorem dX12_write_8 : decode cX12_write 8 = .ok (.iload_n 2, 1) := by decide +kernel
theorem dX12_write_9 : decode cX12_write 9 = .ok (.invokevirtual 90, 3) := by decide +kernel
theorem dX12_write_12 : decode cX12_write 12 = .ok (.putfield 70, 3) := by decide +kernel
theorem dX12_write_15 : decode cX12_write 15 = .ok (.aload_n 0, 1) := by decide +kernel
theorem dX12_write_16 : decode cX12_write 16 = .ok (.getfield 70, 3) := by decide +kernel
theorem dX12_write_19 : decode cX12_write 19 = .ok (.ifCond .le 5, 3) := by decide +kernel
theorem dX12_write_22 : decode cX12_write 22 = .ok (.iconst 0, 1) := by decide +kernel
theorem dX12_write_23 : decode cX12_write 23 = .ok (.ireturn, 1) := by decide +kernel
theorem dX12_write_24 : decode cX12_write 24 = .ok (.aload_n 0, 1) := by decide +kernel
theorem dX12_write_25 : decode cX12_write 25 = .ok (.getfield 20, 3) := by decide +kernel
theorem dX12_write_28 : decode cX12_write 28 = .ok (.bipush 60, 2) := by decide +kernel
theorem dX12_write_30 : decode cX12_write 30 = .ok (.iload_n 1, 1) := by decide +kernel
theorem dX12_write_31 : decode cX12_write 31 = .ok (.imul, 1) := by decide +kernel
theorem dX12_write_32 : decode cX12_write 32 = .ok (.iload_n 2, 1) := by decide +kernel
theorem dX12_write_33 : decode cX12_write 33 = .ok (.iadd, 1) := by decide +kernel
theorem dX12_write_34 : decode cX12_write 34 = .ok (.aload_n 0, 1) := by decide +kernel
theorem dX12_write_35 : decode cX12_write 35 = .ok (.getfield 13, 3) := by decide +kernel
theorem dX12_write_38 : decode cX12_write 38 = .ok (.iload_n 1, 1) := by decide +kernel
theorem dX12_write_39 : decode cX12_write 39 = .ok (.iaload, 1) := by decide +kernel
theorem dX12_write_40 : decode cX12_write 40 = .ok (.lload_n 3, 1) := by decide +kernel
theorem dX12_write_41 : decode cX12_write 41 = .ok (.invokestatic 94, 3) := by decide +kernel
theorem dX12_write_44 : decode cX12_write 44 = .ok (.lastore, 1) := by decide +kernel
theorem dX12_write_45 : decode cX12_write 45 = .ok (.iconst 1, 1) := by decide +kernel
theorem dX12_write_46 : decode cX12_write 46 = .ok (.ireturn, 1) := by decide +kernel
theorem mw_X12_write : MW yX12_write cX12_write 5 3 3 false := ⟨tm 1725 (by decide +kernel) rfl, tm 249 (by decide +kernel) rfl, by decide, by decide, (by rw [if_neg (by decide)]; exact ⟨tm 1723 (by decide +kernel) rfl, tm 1724 (by decide +kernel) rfl⟩)⟩
theorem lk_RX12_90 : LK RX12 90 yX12_placed := Or.inl (tm 1726 (by decide +kernel) rfl)
theorem lk_RX12_94 : LK RX12 94 yX12_cut := Or.inl (tm 1734 (by decide +kernel) rfl)
theorem fl_RX12_13 : FL RX12 13 10 4 := ⟨_, _, _, _, cw_10, by decide, Or.inr (Or.inr (Or.inr (by decide))), Or.inl (by decide), Or.inl (tm 1572 (by decide +kernel) rfl)⟩
def M_write (a1 : Int) (a2 : Int) (a3 : Int) (σ : Sg) : Rs := (nm (up_s σ 0 1 0) (fun s1 => (bd (M_placed a1 a2 s1) (fun r2 s3 => (nm (up_s s3 0 0 r2) (fun s4 => (if 0 < (s4 0 0) then (some (0, s4)) else (rd 4 a1 (s4 1 (Int.toNat a1)) (fun x5 => (bd (M_cut x5 a3 s4) (fun r6 s7 => (wr 240 (w32 ((w32 (60 * a1)) + a2)) (up_s s7 3 (Int.toNat (w32 ((w32 (60 * a1)) + a2))) r6) (fun s8 => (some (1, s8)))))))))))))))
theorem ok_M_write (a1 : Int) (a2 : Int) (a3 : Int) (σ : Sg) : MC l Km Pm yX12_write cX12_write 5 3 3 [.inr (.inr 0), .inl a1, .inl a2, .inr (.inl a3)] σ (M_write a1 a2 a3 σ) := by
  refine mc_of (by decide) (Nat.le_of_ble_eq_true rfl) ?_
  change G l Km Pm RX12 cX12_write 5 3 3 0 [some (.inr (.inr 0)), some (.inl a1), some (.inl a2), some (.inr (.inl a3)), none] [] σ (M_write a1 a2 a3 σ)
  unfold M_write
  refine g_aload_n dX12_write_0 rfl rfl ?_
  refine g_iconst dX12_write_1 (by decide) ?_
  refine g_puti fl_RX12_67 km_0 (by decide) dX12_write_2 ?_
  intro s1
  refine g_aload_n dX12_write_5 rfl rfl ?_
  refine g_aload_n dX12_write_6 rfl rfl ?_
  refine g_iload_n dX12_write_7 rfl rfl ?_
  refine g_iload_n dX12_write_8 rfl rfl ?_
  refine g_callv0 (st := [.inr (.inr 0)]) 10 mw_X12_placed lk_RX12_90 rfl km_0 (ok_M_placed a1 a2 s1) (Nat.le_of_ble_eq_true rfl) rfl rfl (Nat.le_of_ble_eq_true rfl) dX12_write_9 ?_
  intro r2 s3
  refine g_puti fl_RX12_70 km_0 (by decide) dX12_write_12 ?_
  intro s4
  refine g_aload_n dX12_write_15 rfl rfl ?_
  refine g_geti fl_RX12_70 km_0 (by decide) dX12_write_16 ?_
  refine g_ifle (tgt := 24) dX12_write_19 (by decide) ?_ ?_
  · refine g_iconst dX12_write_22 (by decide) ?_
    exact g_zret0 dX12_write_23
  · refine g_aload_n dX12_write_24 rfl rfl ?_
    refine g_getr' (q := 3) fl_RX12_20 km_0 (by decide) rfl dX12_write_25 ?_
    refine g_bipush dX12_write_28 (by decide) ?_
    refine g_iload_n dX12_write_30 rfl rfl ?_
    refine g_imul dX12_write_31 ?_
    refine g_iload_n dX12_write_32 rfl rfl ?_
    refine g_iadd dX12_write_33 ?_
    refine g_aload_n dX12_write_34 rfl rfl ?_
    refine g_getr' (q := 1) fl_RX12_13 km_0 (by decide) rfl dX12_write_35 ?_
    refine g_iload_n dX12_write_38 rfl rfl ?_
    refine g_iald km_1 dX12_write_39 ?_
    intro x5
    refine g_lload_n dX12_write_40 rfl rfl ?_
    refine g_calls1 (st := [.inl (w32 ((w32 (60 * a1)) + a2)), .inr (.inr 3)]) mw_X12_cut lk_RX12_94 (ok_M_cut x5 a3 s4) (Nat.le_of_ble_eq_true rfl) rfl rfl (Nat.le_of_ble_eq_true rfl) dX12_write_41 ?_
    intro r6 s7
    refine g_last km_3 dX12_write_44 ?_
    intro s8
    refine g_iconst dX12_write_45 (by decide) ?_
    exact g_zret1 dX12_write_46
end WK
