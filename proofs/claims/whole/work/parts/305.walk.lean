section WK
variable {l : Launch}
theorem dX12_isWell_0 : decode cX12_isWell 0 = .ok (.aload_n 0, 1) := by decide +kernel
theorem dX12_isWell_1 : decode cX12_isWell 1 = .ok (.aload_n 0, 1) := by decide +kernel
theorem dX12_isWell_2 : decode cX12_isWell 2 = .ok (.getfield 211, 3) := by decide +kernel
theorem dX12_isWell_5 : decode cX12_isWell 5 = .ok (.putfield 28, 3) := by decide +kernel
theorem dX12_isWell_8 : decode cX12_isWell 8 = .ok (.aload_n 0, 1) := by decide +kernel
theorem dX12_isWell_9 : decode cX12_isWell 9 = .ok (.aload_n 0, 1) := by decide +kernel
theorem dX12_isWell_10 : decode cX12_isWell 10 = .ok (.getfield 211, 3) := by decide +kernel
theorem dX12_isWell_13 : decode cX12_isWell 13 = .ok (.ifCond .ne 7, 3) := by decide +kernel
theorem dX12_isWell_16 : decode cX12_isWell 16 = .ok (.iconst (-1), 1) := by decide +kernel
theorem dX12_isWell_17 : decode cX12_isWell 17 = .ok (.goto 7, 3) := by decide +kernel
theorem dX12_isWell_20 : decode cX12_isWell 20 = .ok (.aload_n 0, 1) := by decide +kernel
theorem dX12_isWell_21 : decode cX12_isWell 21 = .ok (.getfield 214, 3) := by decide +kernel
theorem dX12_isWell_24 : decode cX12_isWell 24 = .ok (.putfield 32, 3) := by decide +kernel
theorem dX12_isWell_27 : decode cX12_isWell 27 = .ok (.aload_n 0, 1) := by decide +kernel
theorem dX12_isWell_28 : decode cX12_isWell 28 = .ok (.getfield 211, 3) := by decide +kernel
theorem dX12_isWell_31 : decode cX12_isWell 31 = .ok (.ifCond .eq 12, 3) := by decide +kernel
theorem dX12_isWell_34 : decode cX12_isWell 34 = .ok (.aload_n 0, 1) := by decide +kernel
theorem dX12_isWell_35 : decode cX12_isWell 35 = .ok (.bipush 10, 2) := by decide +kernel
theorem dX12_isWell_37 : decode cX12_isWell 37 = .ok (.invokevirtual 82, 3) := by decide +kernel
theorem dX12_isWell_40 : decode cX12_isWell 40 = .ok (.ifCond .eq 7, 3) := by decide +kernel
theorem dX12_isWell_43 : decode cX12_isWell 43 = .ok (.iconst 1, 1) := by decide +kernel
theorem dX12_isWell_44 : decode cX12_isWell 44 = .ok (.goto 4, 3) := by decide +kernel
theorem dX12_isWell_47 : decode cX12_isWell 47 = .ok (.iconst 0, 1) := by decide +kernel
theorem dX12_isWell_48 : decode cX12_isWell 48 = .ok (.ireturn, 1) := by decide +kernel
theorem mw_X12_isWell : MW yX12_isWell cX12_isWell 1 3 0 false := ⟨tm 1955 (by decide +kernel) rfl, tm 249 (by decide +kernel) rfl, by decide, by decide, (by rw [if_neg (by decide)]; exact ⟨tm 1954 (by decide +kernel) rfl, tm 169 (by decide +kernel) rfl⟩)⟩
theorem lk_RX12_82 : LK RX12 82 yX12_no := Or.inl (tm 1718 (by decide +kernel) rfl)
def M_isWell_J24  (t1 : Int) (σ : Sg) : Rs := (nm (up_s σ 0 11 t1) (fun s2 => (if (s2 0 12) = 0 then (some (1, s2)) else (bd (M_no 10 s2) (fun r3 s4 => (if r3 = 0 then (some (0, s4)) else (some (1, s4))))))))
theorem ok_M_isWell_J24 : ∀ (t1 : Int) (σ : Sg), G l Km Pm RX12 cX12_isWell 1 3 2 24 [some (.inr (.inr 0))] [.inl t1, .inr (.inr 0)] σ (M_isWell_J24  t1 σ) := by
  intro t1 σ
  unfold M_isWell_J24
  refine g_puti fl_RX12_32 km_0 (by decide) dX12_isWell_24 ?_
  intro s2
  refine g_aload_n dX12_isWell_27 rfl rfl ?_
  refine g_geti fl_RX12_211 km_0 (by decide) dX12_isWell_28 ?_
  refine g_ifeq (tgt := 43) dX12_isWell_31 (by decide) ?_ ?_
  · refine g_iconst dX12_isWell_43 (by decide) ?_
    refine g_goto (tgt := 48) dX12_isWell_44 (by decide) ?_
    exact g_zret1 dX12_isWell_48
  · refine g_aload_n dX12_isWell_34 rfl rfl ?_
    refine g_bipush dX12_isWell_35 (by decide) ?_
    refine g_callv3 (st := []) 10 mw_X12_no lk_RX12_82 rfl km_0 (ok_M_no 10 s2) (Nat.le_of_ble_eq_true rfl) rfl rfl (Nat.le_of_ble_eq_true rfl) dX12_isWell_37 ?_
    intro r3 s4
    refine g_ifeq (tgt := 47) dX12_isWell_40 (by decide) ?_ ?_
    · refine g_iconst dX12_isWell_47 (by decide) ?_
      exact g_zret0 dX12_isWell_48
    · refine g_iconst dX12_isWell_43 (by decide) ?_
      refine g_goto (tgt := 48) dX12_isWell_44 (by decide) ?_
      exact g_zret1 dX12_isWell_48
def M_isWell  (σ : Sg) : Rs := (nm (up_s σ 0 10 (σ 0 12)) (fun s1 => (if (s1 0 12) = 0 then (M_isWell_J24 (-1) s1) else (M_isWell_J24 (s1 0 13) s1))))
theorem ok_M_isWell (σ : Sg) : MC l Km Pm yX12_isWell cX12_isWell 1 3 2 [.inr (.inr 0)] σ (M_isWell σ) := by
  refine mc_of (by decide) (Nat.le_of_ble_eq_true rfl) ?_
  change G l Km Pm RX12 cX12_isWell 1 3 2 0 [some (.inr (.inr 0))] [] σ (M_isWell  σ)
  unfold M_isWell
  refine g_aload_n dX12_isWell_0 rfl rfl ?_
  refine g_aload_n dX12_isWell_1 rfl rfl ?_
  refine g_geti fl_RX12_211 km_0 (by decide) dX12_isWell_2 ?_
  refine g_puti fl_RX12_28 km_0 (by decide) dX12_isWell_5 ?_
  intro s1
  refine g_aload_n dX12_isWell_8 rfl rfl ?_
  refine g_aload_n dX12_isWell_9 rfl rfl ?_
  refine g_geti fl_RX12_211 km_0 (by decide) dX12_isWell_10 ?_
  refine g_ifne (tgt := 20) dX12_isWell_13 (by decide) ?_ ?_
  · refine g_iconst dX12_isWell_16 (by decide) ?_
    refine g_goto (tgt := 24) dX12_isWell_17 (by decide) ?_
    refine (ok_M_isWell_J24 (-1) s1)
  · refine g_aload_n dX12_isWell_20 rfl rfl ?_
    refine g_geti fl_RX12_214 km_0 (by decide) dX12_isWell_21 ?_
    refine (ok_M_isWell_J24 (s1 0 13) s1)
theorem dX12_isWordAt_0 : decode cX12_isWordAt 0 = .ok (.lload_n 1, 1) := by decide +kernel
theorem dX12_isWordAt_1 : decode cX12_isWordAt 1 = .ok (.lconst 0, 1) := by decide +kernel
theorem dX12_isWordAt_2 : decode cX12_isWordAt 2 = .ok (.aload_n 0, 1) := by decide +kernel
theorem dX12_isWordAt_3 : decode cX12_isWordAt 3 = .ok (.getfield 35, 3) := by decide +kernel
theorem dX12_isWordAt_6 : decode cX12_isWordAt 6 = .ok (.iconst 0, 1) := by decide +kernel
theorem dX12_isWordAt_7 : decode cX12_isWordAt 7 = .ok (.iaload, 1) := by decide +kernel
theorem dX12_isWordAt_8 : decode cX12_isWordAt 8 = .ok (.iconst 1, 1) := by decide +kernel
theorem dX12_isWordAt_9 : decode cX12_isWordAt 9 = .ok (.isub, 1) := by decide +kernel
theorem dX12_isWordAt_10 : decode cX12_isWordAt 10 = .ok (.i2l, 1) := by decide +kernel
theorem dX12_isWordAt_11 : decode cX12_isWordAt 11 = .ok (.invokestatic 102, 3) := by decide +kernel
theorem dX12_isWordAt_14 : decode cX12_isWordAt 14 = .ok (.ireturn, 1) := by decide +kernel
theorem mw_X12_isWordAt : MW yX12_isWordAt cX12_isWordAt 3 3 1 false := ⟨tm 2008 (by decide +kernel) rfl, tm 249 (by decide +kernel) rfl, by decide, by decide, (by rw [if_neg (by decide)]; exact ⟨tm 2007 (by decide +kernel) rfl, tm 179 (by decide +kernel) rfl⟩)⟩
def M_isWordAt (a1 : Int) (σ : Sg) : Rs := (rd 2235 0 (σ 5 (Int.toNat 0)) (fun x1 => (bd (M_isIn a1 0 (w32 (x1 - 1)) σ) (fun r2 s3 => (zb r2 (some (r2, s3)))))))
theorem ok_M_isWordAt (a1 : Int) (σ : Sg) : MC l Km Pm yX12_isWordAt cX12_isWordAt 3 3 2 [.inr (.inr 0), .inr (.inl a1)] σ (M_isWordAt a1 σ) := by
  refine mc_of (by decide) (Nat.le_of_ble_eq_true rfl) ?_
  change G l Km Pm RX12 cX12_isWordAt 3 3 2 0 [some (.inr (.inr 0)), some (.inr (.inl a1)), none] [] σ (M_isWordAt a1 σ)
  unfold M_isWordAt
  refine g_lload_n dX12_isWordAt_0 rfl rfl ?_
  refine g_lconst (v := 0) dX12_isWordAt_1 (by decide) ?_
  refine g_aload_n dX12_isWordAt_2 rfl rfl ?_
  refine g_getr' (q := 5) fl_RX12_35 km_0 (by decide) rfl dX12_isWordAt_3 ?_
  refine g_iconst dX12_isWordAt_6 (by decide) ?_
  refine g_iald km_5 dX12_isWordAt_7 ?_
  intro x1
  refine g_iconst dX12_isWordAt_8 (by decide) ?_
  refine g_isub dX12_isWordAt_9 ?_
  refine g_i2l dX12_isWordAt_10 ?_
  refine g_calls3 (st := []) mw_X12_isIn lk_RX12_102 (ok_M_isIn a1 0 (w32 (x1 - 1)) σ) (Nat.le_of_ble_eq_true rfl) rfl rfl (Nat.le_of_ble_eq_true rfl) dX12_isWordAt_11 ?_
  intro r2 s3
  exact g_zret dX12_isWordAt_14
theorem dX12_sizeOf_0 : decode cX12_sizeOf 0 = .ok (.iconst 0, 1) := by decide +kernel
theorem dX12_sizeOf_1 : decode cX12_sizeOf 1 = .ok (.istore_n 1, 1) := by decide +kernel
theorem dX12_sizeOf_2 : decode cX12_sizeOf 2 = .ok (.iconst 0, 1) := by decide +kernel
theorem dX12_sizeOf_3 : decode cX12_sizeOf 3 = .ok (.istore_n 2, 1) := by decide +kernel
theorem dX12_sizeOf_4 : decode cX12_sizeOf 4 = .ok (.iload_n 2, 1) := by decide +kernel
theorem dX12_sizeOf_5 : decode cX12_sizeOf 5 = .ok (.bipush 8, 2) := by decide +kernel
theorem dX12_sizeOf_7 : decode cX12_sizeOf 7 = .ok (.if_icmp .ge 25, 3) := by decide +kernel
theorem dX12_sizeOf_10 : decode cX12_sizeOf 10 = .ok (.iload_n 1, 1) := by decide +kernel
theorem dX12_sizeOf_11 : decode cX12_sizeOf 11 = .ok (.iload_n 0, 1) := by decide +kernel
theorem dX12_sizeOf_12 : decode cX12_sizeOf 12 = .ok (.iload_n 2, 1) := by decide +kernel
theorem dX12_sizeOf_13 : decode cX12_sizeOf 13 = .ok (.invokestatic 106, 3) := by decide +kernel
theorem dX12_sizeOf_16 : decode cX12_sizeOf 16 = .ok (.ifCond .eq 7, 3) := by decide +kernel
theorem dX12_sizeOf_19 : decode cX12_sizeOf 19 = .ok (.iconst 1, 1) := by decide +kernel
theorem dX12_sizeOf_20 : decode cX12_sizeOf 20 = .ok (.goto 4, 3) := by decide +kernel
theorem dX12_sizeOf_23 : decode cX12_sizeOf 23 = .ok (.iconst 0, 1) := by decide +kernel
theorem dX12_sizeOf_24 : decode cX12_sizeOf 24 = .ok (.iadd, 1) := by decide +kernel
theorem dX12_sizeOf_25 : decode cX12_sizeOf 25 = .ok (.istore_n 1, 1) := by decide +kernel
theorem dX12_sizeOf_26 : decode cX12_sizeOf 26 = .ok (.iinc 2 1, 3) := by decide +kernel
theorem dX12_sizeOf_29 : decode cX12_sizeOf 29 = .ok (.goto (-25), 3) := by decide +kernel
theorem dX12_sizeOf_32 : decode cX12_sizeOf 32 = .ok (.iload_n 1, 1) := by decide +kernel
theorem dX12_sizeOf_33 : decode cX12_sizeOf 33 = .ok (.ireturn, 1) := by decide +kernel
theorem mw_X12_sizeOf : MW yX12_sizeOf cX12_sizeOf 3 0 1 true := ⟨tm 2101 (by decide +kernel) rfl, tm 249 (by decide +kernel) rfl, by decide, by decide, (by rw [if_pos rfl]; exact tm 2100 (by decide +kernel) rfl)⟩
def M_sizeOf_L4 (a0 : Int) : Nat → Int → Int → Sg → Rs
  | 0, _, _, _ => none
  | n + 1, v1, v2, σ => (if v2 < 8 then (bd (M_has a0 v2 σ) (fun r1 s2 => (if r1 = 0 then (nm (w32 (v1 + 0)) (fun x3 => (nm (w32 (v2 + 1)) (fun x4 => (M_sizeOf_L4 a0 n x3 x4 s2))))) else (nm (w32 (v1 + 1)) (fun x5 => (nm (w32 (v2 + 1)) (fun x6 => (M_sizeOf_L4 a0 n x5 x6 s2)))))))) else (some (v1, σ)))
theorem ok_M_sizeOf_L4 (a0 : Int) : ∀ (n : Nat) (v1 v2 : Int) (σ : Sg), G l Km Pm RX12 cX12_sizeOf 3 0 2 4 [some (.inl a0), some (.inl v1), some (.inl v2)] [] σ (M_sizeOf_L4 a0 n v1 v2 σ) := by
  intro n
  induction n with
  | zero => intros; exact G.none_
  | succ n ih =>
    intro v1 v2 σ
    rw [M_sizeOf_L4]
    refine g_iload_n dX12_sizeOf_4 rfl rfl ?_
    refine g_bipush dX12_sizeOf_5 (by decide) ?_
    refine g_icmpge (tgt := 32) dX12_sizeOf_7 (by decide) ?_ ?_
    · refine g_iload_n dX12_sizeOf_10 rfl rfl ?_
      refine g_iload_n dX12_sizeOf_11 rfl rfl ?_
      refine g_iload_n dX12_sizeOf_12 rfl rfl ?_
      refine g_calls3 (st := [.inl v1]) mw_X12_has lk_RX12_106 (ok_M_has a0 v2 σ) (Nat.le_of_ble_eq_true rfl) rfl rfl (Nat.le_of_ble_eq_true rfl) dX12_sizeOf_13 ?_
      intro r1 s2
      refine g_ifeq (tgt := 23) dX12_sizeOf_16 (by decide) ?_ ?_
      · refine g_iconst dX12_sizeOf_23 (by decide) ?_
        refine g_iadd dX12_sizeOf_24 ?_
        refine n_istore_n (fun x3 => [some (.inl a0), some (.inl x3), some (.inl v2)]) dX12_sizeOf_25 rfl (Nat.le_of_ble_eq_true rfl) (fun _ => rfl) ?_
        intro x3
        refine n_iinc (fun x4 => [some (.inl a0), some (.inl x3), some (.inl x4)]) dX12_sizeOf_26 rfl (Nat.le_of_ble_eq_true rfl) (fun _ => rfl) ?_
        intro x4
        refine g_goto (tgt := 4) dX12_sizeOf_29 (by decide) ?_
        exact (ih x3 x4 s2)
      · refine g_iconst dX12_sizeOf_19 (by decide) ?_
        refine g_goto (tgt := 24) dX12_sizeOf_20 (by decide) ?_
        refine g_iadd dX12_sizeOf_24 ?_
        refine n_istore_n (fun x5 => [some (.inl a0), some (.inl x5), some (.inl v2)]) dX12_sizeOf_25 rfl (Nat.le_of_ble_eq_true rfl) (fun _ => rfl) ?_
        intro x5
        refine n_iinc (fun x6 => [some (.inl a0), some (.inl x5), some (.inl x6)]) dX12_sizeOf_26 rfl (Nat.le_of_ble_eq_true rfl) (fun _ => rfl) ?_
        intro x6
        refine g_goto (tgt := 4) dX12_sizeOf_29 (by decide) ?_
        exact (ih x5 x6 s2)
    · refine g_iload_n dX12_sizeOf_32 rfl rfl ?_
      exact g_iret dX12_sizeOf_33
def M_sizeOf (a0 : Int) (σ : Sg) : Rs := (M_sizeOf_L4 a0 fu 0 0 σ)
theorem ok_M_sizeOf (a0 : Int) (σ : Sg) : MC l Km Pm yX12_sizeOf cX12_sizeOf 3 0 2 [.inl a0] σ (M_sizeOf a0 σ) := by
  refine mc_of (by decide) (Nat.le_of_ble_eq_true rfl) ?_
  change G l Km Pm RX12 cX12_sizeOf 3 0 2 0 [some (.inl a0), none, none] [] σ (M_sizeOf a0 σ)
  unfold M_sizeOf
  refine g_iconst dX12_sizeOf_0 (by decide) ?_
  refine g_istore_n (lv' := [some (.inl a0), some (.inl 0), none]) dX12_sizeOf_1 rfl (Nat.le_of_ble_eq_true rfl) rfl ?_
  refine g_iconst dX12_sizeOf_2 (by decide) ?_
  refine g_istore_n (lv' := [some (.inl a0), some (.inl 0), some (.inl 0)]) dX12_sizeOf_3 rfl (Nat.le_of_ble_eq_true rfl) rfl ?_
  refine (ok_M_sizeOf_L4 a0 fu 0 0 σ)
theorem dX12_keep_0 : decode cX12_keep 0 = .ok (.aload_n 0, 1) := by decide +kernel
theorem dX12_keep_1 : decode cX12_keep 1 = .ok (.iconst 0, 1) := by decide +kernel
theorem dX12_keep_2 : decode cX12_keep 2 = .ok (.putfield 67, 3) := by decide +kernel
theorem dX12_keep_5 : decode cX12_keep 5 = .ok (.aload_n 0, 1) := by decide +kernel
theorem dX12_keep_6 : decode cX12_keep 6 = .ok (.iconst 0, 1) := by decide +kernel
theorem dX12_keep_7 : decode cX12_keep 7 = .ok (.putfield 70, 3) := by decide +kernel
theorem dX12_keep_10 : decode cX12_keep 10 = .ok (.aload_n 0, 1) := by decide +kernel
theorem dX12_keep_11 : decode cX12_keep 11 = .ok (.iload_n 1, 1) := by decide +kernel
theorem dX12_keep_12 : decode cX12_keep 12 = .ok (.invokevirtual 345, 3) := by decide +kernel
theorem dX12_keep_15 : decode cX12_keep 15 = .ok (.ifCond .eq 12, 3) := by decide +kernel
theorem dX12_keep_18 : decode cX12_keep 18 = .ok (.aload_n 0, 1) := by decide +kernel
theorem dX12_keep_19 : decode cX12_keep 19 = .ok (.iload_n 2, 1) := by decide +kernel
theorem dX12_keep_20 : decode cX12_keep 20 = .ok (.i2l, 1) := by decide +kernel
theorem dX12_keep_21 : decode cX12_keep 21 = .ok (.invokevirtual 334, 3) := by decide +kernel
theorem dX12_keep_24 : decode cX12_keep 24 = .ok (.ifCond .ne 9, 3) := by decide +kernel
theorem dX12_keep_27 : decode cX12_keep 27 = .ok (.aload_n 0, 1) := by decide +kernel
theorem dX12_keep_28 : decode cX12_keep 28 = .ok (.iconst 2, 1) := by decide +kernel
theorem dX12_keep_29 : decode cX12_keep 29 = .ok (.invokevirtual 325, 3) := by decide +kernel
theorem dX12_keep_32 : decode cX12_keep 32 = .ok (.ireturn, 1) := by decide +kernel
theorem dX12_keep_33 : decode cX12_keep 33 = .ok (.aload_n 0, 1) := by decide +kernel
theorem dX12_keep_34 : decode cX12_keep 34 = .ok (.iload_n 1, 1) := by decide +kernel
theorem dX12_keep_35 : decode cX12_keep 35 = .ok (.iload_n 2, 1) := by decide +kernel
theorem dX12_keep_36 : decode cX12_keep 36 = .ok (.invokevirtual 387, 3) := by decide +kernel
theorem dX12_keep_39 : decode cX12_keep 39 = .ok (.ifCond .eq 18, 3) := by decide +kernel
theorem dX12_keep_42 : decode cX12_keep 42 = .ok (.aload_n 0, 1) := by decide +kernel
theorem dX12_keep_43 : decode cX12_keep 43 = .ok (.getfield 35, 3) := by decide +kernel
theorem dX12_keep_46 : decode cX12_keep 46 = .ok (.bipush 43, 2) := by decide +kernel
theorem dX12_keep_48 : decode cX12_keep 48 = .ok (.iload_n 1, 1) := by decide +kernel
theorem dX12_keep_49 : decode cX12_keep 49 = .ok (.iadd, 1) := by decide +kernel
theorem dX12_keep_50 : decode cX12_keep 50 = .ok (.iaload, 1) := by decide +kernel
theorem dX12_keep_51 : decode cX12_keep 51 = .ok (.invokestatic 390, 3) := by decide +kernel
theorem dX12_keep_54 : decode cX12_keep 54 = .ok (.goto 9, 3) := by decide +kernel
theorem dX12_keep_57 : decode cX12_keep 57 = .ok (.aload_n 0, 1) := by decide +kernel
theorem dX12_keep_58 : decode cX12_keep 58 = .ok (.bipush 9, 2) := by decide +kernel
theorem dX12_keep_60 : decode cX12_keep 60 = .ok (.invokevirtual 325, 3) := by decide +kernel
theorem dX12_keep_63 : decode cX12_keep 63 = .ok (.ireturn, 1) := by decide +kernel
theorem mw_X12_keep : MW yX12_keep cX12_keep 3 0 2 false := ⟨tm 2090 (by decide +kernel) rfl, tm 249 (by decide +kernel) rfl, by decide, by decide, (by rw [if_neg (by decide)]; exact ⟨tm 2088 (by decide +kernel) rfl, tm 2089 (by decide +kernel) rfl⟩)⟩
theorem lk_RX12_334 : LK RX12 334 yX12_isWordAt := Or.inl (tm 2005 (by decide +kernel) rfl)
theorem lk_RX12_390 : LK RX12 390 yX12_sizeOf := Or.inl (tm 2099 (by decide +kernel) rfl)
def M_keep (a1 : Int) (a2 : Int) (σ : Sg) : Rs := (nm (up_s σ 0 1 0) (fun s1 => (nm (up_s s1 0 0 0) (fun s2 => (bd (M_isPersonAt a1 s2) (fun r3 s4 => (if r3 = 0 then (bd (M_refuse 2 s4) (fun r5 s6 => (some (r5, s6)))) else (bd (M_isWordAt a2 s4) (fun r7 s8 => (if r7 = 0 then (bd (M_refuse 2 s8) (fun r9 s10 => (some (r9, s10)))) else (bd (M_keepsNow a1 a2 s8) (fun r11 s12 => (if r11 = 0 then (bd (M_refuse 9 s12) (fun r13 s14 => (some (r13, s14)))) else (rd 2235 (w32 (43 + a1)) (s12 5 (Int.toNat (w32 (43 + a1)))) (fun x15 => (bd (M_sizeOf x15 s12) (fun r16 s17 => (some (r16, s17)))))))))))))))))))
theorem ok_M_keep (a1 : Int) (a2 : Int) (σ : Sg) : MC l Km Pm yX12_keep cX12_keep 3 0 4 [.inr (.inr 0), .inl a1, .inl a2] σ (M_keep a1 a2 σ) := by
  refine mc_of (by decide) (Nat.le_of_ble_eq_true rfl) ?_
  change G l Km Pm RX12 cX12_keep 3 0 4 0 [some (.inr (.inr 0)), some (.inl a1), some (.inl a2)] [] σ (M_keep a1 a2 σ)
  unfold M_keep
  refine g_aload_n dX12_keep_0 rfl rfl ?_
  refine g_iconst dX12_keep_1 (by decide) ?_
  refine g_puti fl_RX12_67 km_0 (by decide) dX12_keep_2 ?_
  intro s1
  refine g_aload_n dX12_keep_5 rfl rfl ?_
  refine g_iconst dX12_keep_6 (by decide) ?_
  refine g_puti fl_RX12_70 km_0 (by decide) dX12_keep_7 ?_
  intro s2
  refine g_aload_n dX12_keep_10 rfl rfl ?_
  refine g_iload_n dX12_keep_11 rfl rfl ?_
  refine g_callv3 (st := []) 10 mw_X12_isPersonAt lk_RX12_345 rfl km_0 (ok_M_isPersonAt a1 s2) (Nat.le_of_ble_eq_true rfl) rfl rfl (Nat.le_of_ble_eq_true rfl) dX12_keep_12 ?_
  intro r3 s4
  refine g_ifeq (tgt := 27) dX12_keep_15 (by decide) ?_ ?_
  · refine g_aload_n dX12_keep_27 rfl rfl ?_
    refine g_iconst dX12_keep_28 (by decide) ?_
    refine g_callv0 (st := []) 10 mw_X12_refuse lk_RX12_325 rfl km_0 (ok_M_refuse 2 s4) (Nat.le_of_ble_eq_true rfl) rfl rfl (Nat.le_of_ble_eq_true rfl) dX12_keep_29 ?_
    intro r5 s6
    exact g_iret dX12_keep_32
  · refine g_aload_n dX12_keep_18 rfl rfl ?_
    refine g_iload_n dX12_keep_19 rfl rfl ?_
    refine g_i2l dX12_keep_20 ?_
    refine g_callv3 (st := []) 10 mw_X12_isWordAt lk_RX12_334 rfl km_0 (ok_M_isWordAt a2 s4) (Nat.le_of_ble_eq_true rfl) rfl rfl (Nat.le_of_ble_eq_true rfl) dX12_keep_21 ?_
    intro r7 s8
    refine g_ifne (tgt := 33) dX12_keep_24 (by decide) ?_ ?_
    · refine g_aload_n dX12_keep_27 rfl rfl ?_
      refine g_iconst dX12_keep_28 (by decide) ?_
      refine g_callv0 (st := []) 10 mw_X12_refuse lk_RX12_325 rfl km_0 (ok_M_refuse 2 s8) (Nat.le_of_ble_eq_true rfl) rfl rfl (Nat.le_of_ble_eq_true rfl) dX12_keep_29 ?_
      intro r9 s10
      exact g_iret dX12_keep_32
    · refine g_aload_n dX12_keep_33 rfl rfl ?_
      refine g_iload_n dX12_keep_34 rfl rfl ?_
      refine g_iload_n dX12_keep_35 rfl rfl ?_
      refine g_callv3 (st := []) 10 mw_X12_keepsNow lk_RX12_387 rfl km_0 (ok_M_keepsNow a1 a2 s8) (Nat.le_of_ble_eq_true rfl) rfl rfl (Nat.le_of_ble_eq_true rfl) dX12_keep_36 ?_
      intro r11 s12
      refine g_ifeq (tgt := 57) dX12_keep_39 (by decide) ?_ ?_
      · refine g_aload_n dX12_keep_57 rfl rfl ?_
        refine g_bipush dX12_keep_58 (by decide) ?_
        refine g_callv0 (st := []) 10 mw_X12_refuse lk_RX12_325 rfl km_0 (ok_M_refuse 9 s12) (Nat.le_of_ble_eq_true rfl) rfl rfl (Nat.le_of_ble_eq_true rfl) dX12_keep_60 ?_
        intro r13 s14
        exact g_iret dX12_keep_63
      · refine g_aload_n dX12_keep_42 rfl rfl ?_
        refine g_getr' (q := 5) fl_RX12_35 km_0 (by decide) rfl dX12_keep_43 ?_
        refine g_bipush dX12_keep_46 (by decide) ?_
        refine g_iload_n dX12_keep_48 rfl rfl ?_
        refine g_iadd dX12_keep_49 ?_
        refine g_iald km_5 dX12_keep_50 ?_
        intro x15
        refine g_calls0 (st := []) mw_X12_sizeOf lk_RX12_390 (ok_M_sizeOf x15 s12) (Nat.le_of_ble_eq_true rfl) rfl rfl (Nat.le_of_ble_eq_true rfl) dX12_keep_51 ?_
        intro r16 s17
        refine g_goto (tgt := 63) dX12_keep_54 (by decide) ?_
        exact g_iret dX12_keep_63
theorem dX12_knownIn_0 : decode cX12_knownIn 0 = .ok (.aload_n 0, 1) := by decide +kernel
theorem dX12_knownIn_1 : decode cX12_knownIn 1 = .ok (.iconst 0, 1) := by decide +kernel
theorem dX12_knownIn_2 : decode cX12_knownIn 2 = .ok (.putfield 67, 3) := by decide +kernel
theorem dX12_knownIn_5 : decode cX12_knownIn 5 = .ok (.aload_n 0, 1) := by decide +kernel
theorem dX12_knownIn_6 : decode cX12_knownIn 6 = .ok (.iconst 0, 1) := by decide +kernel
theorem dX12_knownIn_7 : decode cX12_knownIn 7 = .ok (.putfield 70, 3) := by decide +kernel
theorem dX12_knownIn_10 : decode cX12_knownIn 10 = .ok (.aload_n 0, 1) := by decide +kernel
theorem dX12_knownIn_11 : decode cX12_knownIn 11 = .ok (.iload_n 1, 1) := by decide +kernel
theorem dX12_knownIn_12 : decode cX12_knownIn 12 = .ok (.invokevirtual 345, 3) := by decide +kernel
theorem dX12_knownIn_15 : decode cX12_knownIn 15 = .ok (.ifCond .ne 9, 3) := by decide +kernel
theorem dX12_knownIn_18 : decode cX12_knownIn 18 = .ok (.aload_n 0, 1) := by decide +kernel
theorem dX12_knownIn_19 : decode cX12_knownIn 19 = .ok (.iconst 2, 1) := by decide +kernel
theorem dX12_knownIn_20 : decode cX12_knownIn 20 = .ok (.invokevirtual 325, 3) := by decide +kernel
theorem dX12_knownIn_23 : decode cX12_knownIn 23 = .ok (.ireturn, 1) := by decide +kernel
theorem dX12_knownIn_24 : decode cX12_knownIn 24 = .ok (.iload_n 2, 1) := by decide +kernel
theorem dX12_knownIn_25 : decode cX12_knownIn 25 = .ok (.invokestatic 409, 3) := by decide +kernel
theorem dX12_knownIn_28 : decode cX12_knownIn 28 = .ok (.ifCond .ne 9, 3) := by decide +kernel
theorem dX12_knownIn_31 : decode cX12_knownIn 31 = .ok (.aload_n 0, 1) := by decide +kernel
theorem dX12_knownIn_32 : decode cX12_knownIn 32 = .ok (.iconst 5, 1) := by decide +kernel
theorem dX12_knownIn_33 : decode cX12_knownIn 33 = .ok (.invokevirtual 325, 3) := by decide +kernel
theorem dX12_knownIn_36 : decode cX12_knownIn 36 = .ok (.ireturn, 1) := by decide +kernel
theorem dX12_knownIn_37 : decode cX12_knownIn 37 = .ok (.aload_n 0, 1) := by decide +kernel
theorem dX12_knownIn_38 : decode cX12_knownIn 38 = .ok (.iload_n 2, 1) := by decide +kernel
theorem dX12_knownIn_39 : decode cX12_knownIn 39 = .ok (.invokevirtual 412, 3) := by decide +kernel
theorem dX12_knownIn_42 : decode cX12_knownIn 42 = .ok (.aload_n 0, 1) := by decide +kernel
theorem dX12_knownIn_43 : decode cX12_knownIn 43 = .ok (.getfield 35, 3) := by decide +kernel
theorem dX12_knownIn_46 : decode cX12_knownIn 46 = .ok (.bipush 37, 2) := by decide +kernel
theorem dX12_knownIn_48 : decode cX12_knownIn 48 = .ok (.iload_n 1, 1) := by decide +kernel
theorem dX12_knownIn_49 : decode cX12_knownIn 49 = .ok (.iadd, 1) := by decide +kernel
theorem dX12_knownIn_50 : decode cX12_knownIn 50 = .ok (.iaload, 1) := by decide +kernel
theorem dX12_knownIn_51 : decode cX12_knownIn 51 = .ok (.istore_n 3, 1) := by decide +kernel
theorem dX12_knownIn_52 : decode cX12_knownIn 52 = .ok (.aload_n 0, 1) := by decide +kernel
theorem dX12_knownIn_53 : decode cX12_knownIn 53 = .ok (.invokevirtual 415, 3) := by decide +kernel
theorem dX12_knownIn_56 : decode cX12_knownIn 56 = .ok (.iload_n 3, 1) := by decide +kernel
theorem dX12_knownIn_57 : decode cX12_knownIn 57 = .ok (.ireturn, 1) := by decide +kernel
theorem mw_X12_knownIn : MW yX12_knownIn cX12_knownIn 4 0 2 false := ⟨tm 2161 (by decide +kernel) rfl, tm 249 (by decide +kernel) rfl, by decide, by decide, (by rw [if_neg (by decide)]; exact ⟨tm 2159 (by decide +kernel) rfl, tm 2160 (by decide +kernel) rfl⟩)⟩
def M_knownIn (a1 : Int) (a2 : Int) (σ : Sg) : Rs := (nm (up_s σ 0 1 0) (fun s1 => (nm (up_s s1 0 0 0) (fun s2 => (bd (M_isPersonAt a1 s2) (fun r3 s4 => (if r3 = 0 then (bd (M_refuse 2 s4) (fun r5 s6 => (some (r5, s6)))) else (bd (M_isAhead a2 s4) (fun r7 s8 => (if r7 = 0 then (bd (M_refuse 5 s8) (fun r9 s10 => (some (r9, s10)))) else (bd (M_goesAhead a2 s8) (fun r11 s12 => (rd 2235 (w32 (37 + a1)) (s12 5 (Int.toNat (w32 (37 + a1)))) (fun x13 => (bd (M_gives s12) (fun r14 s15 => (some (x13, s15))))))))))))))))))
theorem ok_M_knownIn (a1 : Int) (a2 : Int) (σ : Sg) : MC l Km Pm yX12_knownIn cX12_knownIn 4 0 7 [.inr (.inr 0), .inl a1, .inl a2] σ (M_knownIn a1 a2 σ) := by
  refine mc_of (by decide) (Nat.le_of_ble_eq_true rfl) ?_
  change G l Km Pm RX12 cX12_knownIn 4 0 7 0 [some (.inr (.inr 0)), some (.inl a1), some (.inl a2), none] [] σ (M_knownIn a1 a2 σ)
  unfold M_knownIn
  refine g_aload_n dX12_knownIn_0 rfl rfl ?_
  refine g_iconst dX12_knownIn_1 (by decide) ?_
  refine g_puti fl_RX12_67 km_0 (by decide) dX12_knownIn_2 ?_
  intro s1
  refine g_aload_n dX12_knownIn_5 rfl rfl ?_
  refine g_iconst dX12_knownIn_6 (by decide) ?_
  refine g_puti fl_RX12_70 km_0 (by decide) dX12_knownIn_7 ?_
  intro s2
  refine g_aload_n dX12_knownIn_10 rfl rfl ?_
  refine g_iload_n dX12_knownIn_11 rfl rfl ?_
  refine g_callv3 (st := []) 10 mw_X12_isPersonAt lk_RX12_345 rfl km_0 (ok_M_isPersonAt a1 s2) (Nat.le_of_ble_eq_true rfl) rfl rfl (Nat.le_of_ble_eq_true rfl) dX12_knownIn_12 ?_
  intro r3 s4
  refine g_ifne (tgt := 24) dX12_knownIn_15 (by decide) ?_ ?_
  · refine g_aload_n dX12_knownIn_18 rfl rfl ?_
    refine g_iconst dX12_knownIn_19 (by decide) ?_
    refine g_callv0 (st := []) 10 mw_X12_refuse lk_RX12_325 rfl km_0 (ok_M_refuse 2 s4) (Nat.le_of_ble_eq_true rfl) rfl rfl (Nat.le_of_ble_eq_true rfl) dX12_knownIn_20 ?_
    intro r5 s6
    exact g_iret dX12_knownIn_23
  · refine g_iload_n dX12_knownIn_24 rfl rfl ?_
    refine g_calls3 (st := []) mw_X12_isAhead lk_RX12_409 (ok_M_isAhead a2 s4) (Nat.le_of_ble_eq_true rfl) rfl rfl (Nat.le_of_ble_eq_true rfl) dX12_knownIn_25 ?_
    intro r7 s8
    refine g_ifne (tgt := 37) dX12_knownIn_28 (by decide) ?_ ?_
    · refine g_aload_n dX12_knownIn_31 rfl rfl ?_
      refine g_iconst dX12_knownIn_32 (by decide) ?_
      refine g_callv0 (st := []) 10 mw_X12_refuse lk_RX12_325 rfl km_0 (ok_M_refuse 5 s8) (Nat.le_of_ble_eq_true rfl) rfl rfl (Nat.le_of_ble_eq_true rfl) dX12_knownIn_33 ?_
      intro r9 s10
      exact g_iret dX12_knownIn_36
    · refine g_aload_n dX12_knownIn_37 rfl rfl ?_
      refine g_iload_n dX12_knownIn_38 rfl rfl ?_
      refine g_callv2 (st := []) 10 mw_X12_goesAhead lk_RX12_412 rfl km_0 (ok_M_goesAhead a2 s8) (Nat.le_of_ble_eq_true rfl) rfl rfl (Nat.le_of_ble_eq_true rfl) dX12_knownIn_39 ?_
      intro r11 s12
      refine g_aload_n dX12_knownIn_42 rfl rfl ?_
      refine g_getr' (q := 5) fl_RX12_35 km_0 (by decide) rfl dX12_knownIn_43 ?_
      refine g_bipush dX12_knownIn_46 (by decide) ?_
      refine g_iload_n dX12_knownIn_48 rfl rfl ?_
      refine g_iadd dX12_knownIn_49 ?_
      refine g_iald km_5 dX12_knownIn_50 ?_
      intro x13
      refine g_istore_n (lv' := [some (.inr (.inr 0)), some (.inl a1), some (.inl a2), some (.inl x13)]) dX12_knownIn_51 rfl (Nat.le_of_ble_eq_true rfl) rfl ?_
      refine g_aload_n dX12_knownIn_52 rfl rfl ?_
      refine g_callv2 (st := []) 10 mw_X12_gives lk_RX12_415 rfl km_0 (ok_M_gives s12) (Nat.le_of_ble_eq_true rfl) rfl rfl (Nat.le_of_ble_eq_true rfl) dX12_knownIn_53 ?_
      intro r14 s15
      refine g_iload_n dX12_knownIn_56 rfl rfl ?_
      exact g_iret dX12_knownIn_57
theorem dX12_peopleWith_0 : decode cX12_peopleWith 0 = .ok (.iconst 0, 1) := by decide +kernel
theorem dX12_peopleWith_1 : decode cX12_peopleWith 1 = .ok (.istore_n 3, 1) := by decide +kernel
theorem dX12_peopleWith_2 : decode cX12_peopleWith 2 = .ok (.iconst 0, 1) := by decide +kernel
theorem dX12_peopleWith_3 : decode cX12_peopleWith 3 = .ok (.istore 4, 2) := by decide +kernel
theorem dX12_peopleWith_5 : decode cX12_peopleWith 5 = .ok (.iload 4, 2) := by decide +kernel
theorem dX12_peopleWith_7 : decode cX12_peopleWith 7 = .ok (.aload_n 0, 1) := by decide +kernel
theorem dX12_peopleWith_8 : decode cX12_peopleWith 8 = .ok (.getfield 35, 3) := by decide +kernel
theorem dX12_peopleWith_11 : decode cX12_peopleWith 11 = .ok (.iconst 1, 1) := by decide +kernel
theorem dX12_peopleWith_12 : decode cX12_peopleWith 12 = .ok (.iaload, 1) := by decide +kernel
theorem dX12_peopleWith_13 : decode cX12_peopleWith 13 = .ok (.if_icmp .ge 36, 3) := by decide +kernel
theorem dX12_peopleWith_16 : decode cX12_peopleWith 16 = .ok (.iload_n 3, 1) := by decide +kernel
theorem dX12_peopleWith_17 : decode cX12_peopleWith 17 = .ok (.aload_n 0, 1) := by decide +kernel
theorem dX12_peopleWith_18 : decode cX12_peopleWith 18 = .ok (.getfield 35, 3) := by decide +kernel
theorem dX12_peopleWith_21 : decode cX12_peopleWith 21 = .ok (.iload_n 1, 1) := by decide +kernel
theorem dX12_peopleWith_22 : decode cX12_peopleWith 22 = .ok (.iload 4, 2) := by decide +kernel
theorem dX12_peopleWith_24 : decode cX12_peopleWith 24 = .ok (.iadd, 1) := by decide +kernel
theorem dX12_peopleWith_25 : decode cX12_peopleWith 25 = .ok (.iaload, 1) := by decide +kernel
theorem dX12_peopleWith_26 : decode cX12_peopleWith 26 = .ok (.iload_n 2, 1) := by decide +kernel
theorem dX12_peopleWith_27 : decode cX12_peopleWith 27 = .ok (.invokestatic 106, 3) := by decide +kernel
theorem dX12_peopleWith_30 : decode cX12_peopleWith 30 = .ok (.ifCond .eq 10, 3) := by decide +kernel
theorem dX12_peopleWith_33 : decode cX12_peopleWith 33 = .ok (.iconst 1, 1) := by decide +kernel
theorem dX12_peopleWith_34 : decode cX12_peopleWith 34 = .ok (.iload 4, 2) := by decide +kernel
theorem dX12_peopleWith_36 : decode cX12_peopleWith 36 = .ok (.ishl, 1) := by decide +kernel
theorem dX12_peopleWith_37 : decode cX12_peopleWith 37 = .ok (.goto 4, 3) := by decide +kernel
theorem dX12_peopleWith_40 : decode cX12_peopleWith 40 = .ok (.iconst 0, 1) := by decide +kernel
theorem dX12_peopleWith_41 : decode cX12_peopleWith 41 = .ok (.ior, 1) := by decide +kernel
theorem dX12_peopleWith_42 : decode cX12_peopleWith 42 = .ok (.istore_n 3, 1) := by decide +kernel
theorem dX12_peopleWith_43 : decode cX12_peopleWith 43 = .ok (.iinc 4 1, 3) := by decide +kernel
theorem dX12_peopleWith_46 : decode cX12_peopleWith 46 = .ok (.goto (-41), 3) := by decide +kernel
theorem dX12_peopleWith_49 : decode cX12_peopleWith 49 = .ok (.iload_n 3, 1) := by decide +kernel
theorem dX12_peopleWith_50 : decode cX12_peopleWith 50 = .ok (.ireturn, 1) := by decide +kernel
theorem mw_X12_peopleWith : MW yX12_peopleWith cX12_peopleWith 5 0 2 false := ⟨tm 2013 (by decide +kernel) rfl, tm 249 (by decide +kernel) rfl, by decide, by decide, (by rw [if_neg (by decide)]; exact ⟨tm 2012 (by decide +kernel) rfl, tm 180 (by decide +kernel) rfl⟩)⟩
def M_peopleWith_L5 (a1 : Int) (a2 : Int) : Nat → Int → Int → Sg → Rs
  | 0, _, _, _ => none
  | n + 1, v3, v4, σ => (rd 2235 1 (σ 5 (Int.toNat 1)) (fun x1 => (if v4 < x1 then (rd 2235 (w32 (a1 + v4)) (σ 5 (Int.toNat (w32 (a1 + v4)))) (fun x2 => (bd (M_has x2 a2 σ) (fun r3 s4 => (if r3 = 0 then (nm (or32 v3 0) (fun x5 => (nm (w32 (v4 + 1)) (fun x6 => (M_peopleWith_L5 a1 a2 n x5 x6 s4))))) else (nm (or32 v3 (sl32 1 v4)) (fun x7 => (nm (w32 (v4 + 1)) (fun x8 => (M_peopleWith_L5 a1 a2 n x7 x8 s4)))))))))) else (some (v3, σ)))))
theorem ok_M_peopleWith_L5 (a1 : Int) (a2 : Int) : ∀ (n : Nat) (v3 v4 : Int) (σ : Sg), G l Km Pm RX12 cX12_peopleWith 5 0 2 5 [some (.inr (.inr 0)), some (.inl a1), some (.inl a2), some (.inl v3), some (.inl v4)] [] σ (M_peopleWith_L5 a1 a2 n v3 v4 σ) := by
  intro n
  induction n with
  | zero => intros; exact G.none_
  | succ n ih =>
    intro v3 v4 σ
    rw [M_peopleWith_L5]
    refine g_iload dX12_peopleWith_5 rfl ?_
    refine g_aload_n dX12_peopleWith_7 rfl rfl ?_
    refine g_getr' (q := 5) fl_RX12_35 km_0 (by decide) rfl dX12_peopleWith_8 ?_
    refine g_iconst dX12_peopleWith_11 (by decide) ?_
    refine g_iald km_5 dX12_peopleWith_12 ?_
    intro x1
    refine g_icmpge (tgt := 49) dX12_peopleWith_13 (by decide) ?_ ?_
    · refine g_iload_n dX12_peopleWith_16 rfl rfl ?_
      refine g_aload_n dX12_peopleWith_17 rfl rfl ?_
      refine g_getr' (q := 5) fl_RX12_35 km_0 (by decide) rfl dX12_peopleWith_18 ?_
      refine g_iload_n dX12_peopleWith_21 rfl rfl ?_
      refine g_iload dX12_peopleWith_22 rfl ?_
      refine g_iadd dX12_peopleWith_24 ?_
      refine g_iald km_5 dX12_peopleWith_25 ?_
      intro x2
      refine g_iload_n dX12_peopleWith_26 rfl rfl ?_
      refine g_calls3 (st := [.inl v3]) mw_X12_has lk_RX12_106 (ok_M_has x2 a2 σ) (Nat.le_of_ble_eq_true rfl) rfl rfl (Nat.le_of_ble_eq_true rfl) dX12_peopleWith_27 ?_
      intro r3 s4
      refine g_ifeq (tgt := 40) dX12_peopleWith_30 (by decide) ?_ ?_
      · refine g_iconst dX12_peopleWith_40 (by decide) ?_
        refine g_ior dX12_peopleWith_41 ?_
        refine n_istore_n (fun x5 => [some (.inr (.inr 0)), some (.inl a1), some (.inl a2), some (.inl x5), some (.inl v4)]) dX12_peopleWith_42 rfl (Nat.le_of_ble_eq_true rfl) (fun _ => rfl) ?_
        intro x5
        refine n_iinc (fun x6 => [some (.inr (.inr 0)), some (.inl a1), some (.inl a2), some (.inl x5), some (.inl x6)]) dX12_peopleWith_43 rfl (Nat.le_of_ble_eq_true rfl) (fun _ => rfl) ?_
        intro x6
        refine g_goto (tgt := 5) dX12_peopleWith_46 (by decide) ?_
        exact (ih x5 x6 s4)
      · refine g_iconst dX12_peopleWith_33 (by decide) ?_
        refine g_iload dX12_peopleWith_34 rfl ?_
        refine g_ishl dX12_peopleWith_36 ?_
        refine g_goto (tgt := 41) dX12_peopleWith_37 (by decide) ?_
        refine g_ior dX12_peopleWith_41 ?_
        refine n_istore_n (fun x7 => [some (.inr (.inr 0)), some (.inl a1), some (.inl a2), some (.inl x7), some (.inl v4)]) dX12_peopleWith_42 rfl (Nat.le_of_ble_eq_true rfl) (fun _ => rfl) ?_
        intro x7
        refine n_iinc (fun x8 => [some (.inr (.inr 0)), some (.inl a1), some (.inl a2), some (.inl x7), some (.inl x8)]) dX12_peopleWith_43 rfl (Nat.le_of_ble_eq_true rfl) (fun _ => rfl) ?_
        intro x8
        refine g_goto (tgt := 5) dX12_peopleWith_46 (by decide) ?_
        exact (ih x7 x8 s4)
    · refine g_iload_n dX12_peopleWith_49 rfl rfl ?_
      exact g_iret dX12_peopleWith_50
def M_peopleWith (a1 : Int) (a2 : Int) (σ : Sg) : Rs := (M_peopleWith_L5 a1 a2 fu 0 0 σ)
theorem ok_M_peopleWith (a1 : Int) (a2 : Int) (σ : Sg) : MC l Km Pm yX12_peopleWith cX12_peopleWith 5 0 2 [.inr (.inr 0), .inl a1, .inl a2] σ (M_peopleWith a1 a2 σ) := by
  refine mc_of (by decide) (Nat.le_of_ble_eq_true rfl) ?_
  change G l Km Pm RX12 cX12_peopleWith 5 0 2 0 [some (.inr (.inr 0)), some (.inl a1), some (.inl a2), none, none] [] σ (M_peopleWith a1 a2 σ)
  unfold M_peopleWith
  refine g_iconst dX12_peopleWith_0 (by decide) ?_
  refine g_istore_n (lv' := [some (.inr (.inr 0)), some (.inl a1), some (.inl a2), some (.inl 0), none]) dX12_peopleWith_1 rfl (Nat.le_of_ble_eq_true rfl) rfl ?_
  refine g_iconst dX12_peopleWith_2 (by decide) ?_
  refine g_istore (lv' := [some (.inr (.inr 0)), some (.inl a1), some (.inl a2), some (.inl 0), some (.inl 0)]) dX12_peopleWith_3 (Nat.le_of_ble_eq_true rfl) rfl ?_
  refine (ok_M_peopleWith_L5 a1 a2 fu 0 0 σ)
theorem dX12_learn_0 : decode cX12_learn 0 = .ok (.aload_n 0, 1) := by decide +kernel
theorem dX12_learn_1 : decode cX12_learn 1 = .ok (.iconst 0, 1) := by decide +kernel
theorem dX12_learn_2 : decode cX12_learn 2 = .ok (.putfield 67, 3) := by decide +kernel
theorem dX12_learn_5 : decode cX12_learn 5 = .ok (.aload_n 0, 1) := by decide +kernel
theorem dX12_learn_6 : decode cX12_learn 6 = .ok (.iconst 0, 1) := by decide +kernel
theorem dX12_learn_7 : decode cX12_learn 7 = .ok (.putfield 70, 3) := by decide +kernel
theorem dX12_learn_10 : decode cX12_learn 10 = .ok (.aload_n 0, 1) := by decide +kernel
theorem dX12_learn_11 : decode cX12_learn 11 = .ok (.iload_n 1, 1) := by decide +kernel
theorem dX12_learn_12 : decode cX12_learn 12 = .ok (.invokevirtual 345, 3) := by decide +kernel
theorem dX12_learn_15 : decode cX12_learn 15 = .ok (.ifCond .eq 12, 3) := by decide +kernel
theorem dX12_learn_18 : decode cX12_learn 18 = .ok (.aload_n 0, 1) := by decide +kernel
theorem dX12_learn_19 : decode cX12_learn 19 = .ok (.iload_n 2, 1) := by decide +kernel
theorem dX12_learn_20 : decode cX12_learn 20 = .ok (.i2l, 1) := by decide +kernel
theorem dX12_learn_21 : decode cX12_learn 21 = .ok (.invokevirtual 334, 3) := by decide +kernel
theorem dX12_learn_24 : decode cX12_learn 24 = .ok (.ifCond .ne 9, 3) := by decide +kernel
theorem dX12_learn_27 : decode cX12_learn 27 = .ok (.aload_n 0, 1) := by decide +kernel
theorem dX12_learn_28 : decode cX12_learn 28 = .ok (.iconst 2, 1) := by decide +kernel
theorem dX12_learn_29 : decode cX12_learn 29 = .ok (.invokevirtual 325, 3) := by decide +kernel
theorem dX12_learn_32 : decode cX12_learn 32 = .ok (.ireturn, 1) := by decide +kernel
theorem dX12_learn_33 : decode cX12_learn 33 = .ok (.aload_n 0, 1) := by decide +kernel
theorem dX12_learn_34 : decode cX12_learn 34 = .ok (.iload_n 1, 1) := by decide +kernel
theorem dX12_learn_35 : decode cX12_learn 35 = .ok (.iload_n 2, 1) := by decide +kernel
theorem dX12_learn_36 : decode cX12_learn 36 = .ok (.invokevirtual 366, 3) := by decide +kernel
theorem dX12_learn_39 : decode cX12_learn 39 = .ok (.ifCond .eq 10, 3) := by decide +kernel
theorem dX12_learn_42 : decode cX12_learn 42 = .ok (.aload_n 0, 1) := by decide +kernel
theorem dX12_learn_43 : decode cX12_learn 43 = .ok (.bipush 9, 2) := by decide +kernel
theorem dX12_learn_45 : decode cX12_learn 45 = .ok (.invokevirtual 325, 3) := by decide +kernel
theorem dX12_learn_48 : decode cX12_learn 48 = .ok (.ireturn, 1) := by decide +kernel
theorem dX12_learn_49 : decode cX12_learn 49 = .ok (.aload_n 0, 1) := by decide +kernel
theorem dX12_learn_50 : decode cX12_learn 50 = .ok (.getfield 35, 3) := by decide +kernel
theorem dX12_learn_53 : decode cX12_learn 53 = .ok (.bipush 37, 2) := by decide +kernel
theorem dX12_learn_55 : decode cX12_learn 55 = .ok (.iload_n 1, 1) := by decide +kernel
theorem dX12_learn_56 : decode cX12_learn 56 = .ok (.iadd, 1) := by decide +kernel
theorem dX12_learn_57 : decode cX12_learn 57 = .ok (.dup2, 1) := by decide +kernel
theorem dX12_learn_58 : decode cX12_learn 58 = .ok (.iaload, 1) := by decide +kernel
theorem dX12_learn_59 : decode cX12_learn 59 = .ok (.iconst 1, 1) := by decide +kernel
theorem dX12_learn_60 : decode cX12_learn 60 = .ok (.iload_n 2, 1) := by decide +kernel
theorem dX12_learn_61 : decode cX12_learn 61 = .ok (.ishl, 1) := by decide +kernel
theorem dX12_learn_62 : decode cX12_learn 62 = .ok (.ior, 1) := by decide +kernel
theorem dX12_learn_63 : decode cX12_learn 63 = .ok (.iastore, 1) := by decide +kernel
theorem dX12_learn_64 : decode cX12_learn 64 = .ok (.aload_n 0, 1) := by decide +kernel
theorem dX12_learn_65 : decode cX12_learn 65 = .ok (.bipush 37, 2) := by decide +kernel
theorem dX12_learn_67 : decode cX12_learn 67 = .ok (.iload_n 2, 1) := by decide +kernel
theorem dX12_learn_68 : decode cX12_learn 68 = .ok (.invokevirtual 339, 3) := by decide +kernel
theorem dX12_learn_71 : decode cX12_learn 71 = .ok (.invokestatic 390, 3) := by decide +kernel
theorem dX12_learn_74 : decode cX12_learn 74 = .ok (.ireturn, 1) := by decide +kernel
theorem mw_X12_learn : MW yX12_learn cX12_learn 3 0 2 false := ⟨tm 2105 (by decide +kernel) rfl, tm 249 (by decide +kernel) rfl, by decide, by decide, (by rw [if_neg (by decide)]; exact ⟨tm 2103 (by decide +kernel) rfl, tm 2104 (by decide +kernel) rfl⟩)⟩
theorem lk_RX12_339 : LK RX12 339 yX12_peopleWith := Or.inl (tm 2010 (by decide +kernel) rfl)
def M_learn (a1 : Int) (a2 : Int) (σ : Sg) : Rs := (nm (up_s σ 0 1 0) (fun s1 => (nm (up_s s1 0 0 0) (fun s2 => (bd (M_isPersonAt a1 s2) (fun r3 s4 => (if r3 = 0 then (bd (M_refuse 2 s4) (fun r5 s6 => (some (r5, s6)))) else (bd (M_isWordAt a2 s4) (fun r7 s8 => (if r7 = 0 then (bd (M_refuse 2 s8) (fun r9 s10 => (some (r9, s10)))) else (bd (M_knows a1 a2 s8) (fun r11 s12 => (if r11 = 0 then (rd 2235 (w32 (37 + a1)) (s12 5 (Int.toNat (w32 (37 + a1)))) (fun x13 => (wr 2235 (w32 (37 + a1)) (up_s s12 5 (Int.toNat (w32 (37 + a1))) (or32 x13 (sl32 1 a2))) (fun s14 => (bd (M_peopleWith 37 a2 s14) (fun r15 s16 => (bd (M_sizeOf r15 s16) (fun r17 s18 => (some (r17, s18)))))))))) else (bd (M_refuse 9 s12) (fun r19 s20 => (some (r19, s20)))))))))))))))))
theorem ok_M_learn (a1 : Int) (a2 : Int) (σ : Sg) : MC l Km Pm yX12_learn cX12_learn 3 0 3 [.inr (.inr 0), .inl a1, .inl a2] σ (M_learn a1 a2 σ) := by
  refine mc_of (by decide) (Nat.le_of_ble_eq_true rfl) ?_
  change G l Km Pm RX12 cX12_learn 3 0 3 0 [some (.inr (.inr 0)), some (.inl a1), some (.inl a2)] [] σ (M_learn a1 a2 σ)
  unfold M_learn
  refine g_aload_n dX12_learn_0 rfl rfl ?_
  refine g_iconst dX12_learn_1 (by decide) ?_
  refine g_puti fl_RX12_67 km_0 (by decide) dX12_learn_2 ?_
  intro s1
  refine g_aload_n dX12_learn_5 rfl rfl ?_
  refine g_iconst dX12_learn_6 (by decide) ?_
  refine g_puti fl_RX12_70 km_0 (by decide) dX12_learn_7 ?_
  intro s2
  refine g_aload_n dX12_learn_10 rfl rfl ?_
  refine g_iload_n dX12_learn_11 rfl rfl ?_
  refine g_callv3 (st := []) 10 mw_X12_isPersonAt lk_RX12_345 rfl km_0 (ok_M_isPersonAt a1 s2) (Nat.le_of_ble_eq_true rfl) rfl rfl (Nat.le_of_ble_eq_true rfl) dX12_learn_12 ?_
  intro r3 s4
  refine g_ifeq (tgt := 27) dX12_learn_15 (by decide) ?_ ?_
  · refine g_aload_n dX12_learn_27 rfl rfl ?_
    refine g_iconst dX12_learn_28 (by decide) ?_
    refine g_callv0 (st := []) 10 mw_X12_refuse lk_RX12_325 rfl km_0 (ok_M_refuse 2 s4) (Nat.le_of_ble_eq_true rfl) rfl rfl (Nat.le_of_ble_eq_true rfl) dX12_learn_29 ?_
    intro r5 s6
    exact g_iret dX12_learn_32
  · refine g_aload_n dX12_learn_18 rfl rfl ?_
    refine g_iload_n dX12_learn_19 rfl rfl ?_
    refine g_i2l dX12_learn_20 ?_
    refine g_callv3 (st := []) 10 mw_X12_isWordAt lk_RX12_334 rfl km_0 (ok_M_isWordAt a2 s4) (Nat.le_of_ble_eq_true rfl) rfl rfl (Nat.le_of_ble_eq_true rfl) dX12_learn_21 ?_
    intro r7 s8
    refine g_ifne (tgt := 33) dX12_learn_24 (by decide) ?_ ?_
    · refine g_aload_n dX12_learn_27 rfl rfl ?_
      refine g_iconst dX12_learn_28 (by decide) ?_
      refine g_callv0 (st := []) 10 mw_X12_refuse lk_RX12_325 rfl km_0 (ok_M_refuse 2 s8) (Nat.le_of_ble_eq_true rfl) rfl rfl (Nat.le_of_ble_eq_true rfl) dX12_learn_29 ?_
      intro r9 s10
      exact g_iret dX12_learn_32
    · refine g_aload_n dX12_learn_33 rfl rfl ?_
      refine g_iload_n dX12_learn_34 rfl rfl ?_
      refine g_iload_n dX12_learn_35 rfl rfl ?_
      refine g_callv3 (st := []) 10 mw_X12_knows lk_RX12_366 rfl km_0 (ok_M_knows a1 a2 s8) (Nat.le_of_ble_eq_true rfl) rfl rfl (Nat.le_of_ble_eq_true rfl) dX12_learn_36 ?_
      intro r11 s12
      refine g_ifeq (tgt := 49) dX12_learn_39 (by decide) ?_ ?_
      · refine g_aload_n dX12_learn_49 rfl rfl ?_
        refine g_getr' (q := 5) fl_RX12_35 km_0 (by decide) rfl dX12_learn_50 ?_
        refine g_bipush dX12_learn_53 (by decide) ?_
        refine g_iload_n dX12_learn_55 rfl rfl ?_
        refine g_iadd dX12_learn_56 ?_
        refine g_dup2 dX12_learn_57 rfl rfl ?_
        refine g_iald km_5 dX12_learn_58 ?_
        intro x13
        refine g_iconst dX12_learn_59 (by decide) ?_
        refine g_iload_n dX12_learn_60 rfl rfl ?_
        refine g_ishl dX12_learn_61 ?_
        refine g_ior dX12_learn_62 ?_
        refine g_iast km_5 dX12_learn_63 ?_
        intro s14
        refine g_aload_n dX12_learn_64 rfl rfl ?_
        refine g_bipush dX12_learn_65 (by decide) ?_
        refine g_iload_n dX12_learn_67 rfl rfl ?_
        refine g_callv0 (st := []) 10 mw_X12_peopleWith lk_RX12_339 rfl km_0 (ok_M_peopleWith 37 a2 s14) (Nat.le_of_ble_eq_true rfl) rfl rfl (Nat.le_of_ble_eq_true rfl) dX12_learn_68 ?_
        intro r15 s16
        refine g_calls0 (st := []) mw_X12_sizeOf lk_RX12_390 (ok_M_sizeOf r15 s16) (Nat.le_of_ble_eq_true rfl) rfl rfl (Nat.le_of_ble_eq_true rfl) dX12_learn_71 ?_
        intro r17 s18
        exact g_iret dX12_learn_74
      · refine g_aload_n dX12_learn_42 rfl rfl ?_
        refine g_bipush dX12_learn_43 (by decide) ?_
        refine g_callv0 (st := []) 10 mw_X12_refuse lk_RX12_325 rfl km_0 (ok_M_refuse 9 s12) (Nat.le_of_ble_eq_true rfl) rfl rfl (Nat.le_of_ble_eq_true rfl) dX12_learn_45 ?_
        intro r19 s20
        exact g_iret dX12_learn_48
theorem dX12_learnsIn_0 : decode cX12_learnsIn 0 = .ok (.aload_n 0, 1) := by decide +kernel
theorem dX12_learnsIn_1 : decode cX12_learnsIn 1 = .ok (.iconst 0, 1) := by decide +kernel
theorem dX12_learnsIn_2 : decode cX12_learnsIn 2 = .ok (.putfield 67, 3) := by decide +kernel
theorem dX12_learnsIn_5 : decode cX12_learnsIn 5 = .ok (.aload_n 0, 1) := by decide +kernel
theorem dX12_learnsIn_6 : decode cX12_learnsIn 6 = .ok (.iconst 0, 1) := by decide +kernel
theorem dX12_learnsIn_7 : decode cX12_learnsIn 7 = .ok (.putfield 70, 3) := by decide +kernel
theorem dX12_learnsIn_10 : decode cX12_learnsIn 10 = .ok (.aload_n 0, 1) := by decide +kernel
theorem dX12_learnsIn_11 : decode cX12_learnsIn 11 = .ok (.iload_n 1, 1) := by decide +kernel
theorem dX12_learnsIn_12 : decode cX12_learnsIn 12 = .ok (.invokevirtual 345, 3) := by decide +kernel
theorem dX12_learnsIn_15 : decode cX12_learnsIn 15 = .ok (.ifCond .eq 12, 3) := by decide +kernel
theorem dX12_learnsIn_18 : decode cX12_learnsIn 18 = .ok (.aload_n 0, 1) := by decide +kernel
theorem dX12_learnsIn_19 : decode cX12_learnsIn 19 = .ok (.iload_n 2, 1) := by decide +kernel
theorem dX12_learnsIn_20 : decode cX12_learnsIn 20 = .ok (.i2l, 1) := by decide +kernel
theorem dX12_learnsIn_21 : decode cX12_learnsIn 21 = .ok (.invokevirtual 334, 3) := by decide +kernel
theorem dX12_learnsIn_24 : decode cX12_learnsIn 24 = .ok (.ifCond .ne 9, 3) := by decide +kernel
theorem dX12_learnsIn_27 : decode cX12_learnsIn 27 = .ok (.aload_n 0, 1) := by decide +kernel
theorem dX12_learnsIn_28 : decode cX12_learnsIn 28 = .ok (.iconst 2, 1) := by decide +kernel
theorem dX12_learnsIn_29 : decode cX12_learnsIn 29 = .ok (.invokevirtual 325, 3) := by decide +kernel
theorem dX12_learnsIn_32 : decode cX12_learnsIn 32 = .ok (.ireturn, 1) := by decide +kernel
theorem dX12_learnsIn_33 : decode cX12_learnsIn 33 = .ok (.iconst (-1), 1) := by decide +kernel
theorem dX12_learnsIn_34 : decode cX12_learnsIn 34 = .ok (.istore_n 3, 1) := by decide +kernel
theorem dX12_learnsIn_35 : decode cX12_learnsIn 35 = .ok (.aload_n 0, 1) := by decide +kernel
theorem dX12_learnsIn_36 : decode cX12_learnsIn 36 = .ok (.invokevirtual 406, 3) := by decide +kernel
theorem dX12_learnsIn_39 : decode cX12_learnsIn 39 = .ok (.iconst 0, 1) := by decide +kernel
theorem dX12_learnsIn_40 : decode cX12_learnsIn 40 = .ok (.istore 4, 2) := by decide +kernel
theorem dX12_learnsIn_42 : decode cX12_learnsIn 42 = .ok (.iload 4, 2) := by decide +kernel
theorem dX12_learnsIn_44 : decode cX12_learnsIn 44 = .ok (.sipush 200, 3) := by decide +kernel
theorem dX12_learnsIn_47 : decode cX12_learnsIn 47 = .ok (.if_icmp .gt 30, 3) := by decide +kernel
theorem dX12_learnsIn_50 : decode cX12_learnsIn 50 = .ok (.iload_n 3, 1) := by decide +kernel
theorem dX12_learnsIn_51 : decode cX12_learnsIn 51 = .ok (.ifCond .ge 26, 3) := by decide +kernel
theorem dX12_learnsIn_54 : decode cX12_learnsIn 54 = .ok (.aload_n 0, 1) := by decide +kernel
theorem dX12_learnsIn_55 : decode cX12_learnsIn 55 = .ok (.iload_n 1, 1) := by decide +kernel
theorem dX12_learnsIn_56 : decode cX12_learnsIn 56 = .ok (.iload_n 2, 1) := by decide +kernel
theorem dX12_learnsIn_57 : decode cX12_learnsIn 57 = .ok (.invokevirtual 366, 3) := by decide +kernel
theorem dX12_learnsIn_60 : decode cX12_learnsIn 60 = .ok (.ifCond .eq 6, 3) := by decide +kernel
theorem dX12_learnsIn_63 : decode cX12_learnsIn 63 = .ok (.iload 4, 2) := by decide +kernel
theorem dX12_learnsIn_65 : decode cX12_learnsIn 65 = .ok (.istore_n 3, 1) := by decide +kernel
theorem dX12_learnsIn_66 : decode cX12_learnsIn 66 = .ok (.aload_n 0, 1) := by decide +kernel
theorem dX12_learnsIn_67 : decode cX12_learnsIn 67 = .ok (.invokevirtual 381, 3) := by decide +kernel
theorem dX12_learnsIn_70 : decode cX12_learnsIn 70 = .ok (.pop, 1) := by decide +kernel
theorem dX12_learnsIn_71 : decode cX12_learnsIn 71 = .ok (.iinc 4 1, 3) := by decide +kernel
theorem dX12_learnsIn_74 : decode cX12_learnsIn 74 = .ok (.goto (-32), 3) := by decide +kernel
theorem dX12_learnsIn_77 : decode cX12_learnsIn 77 = .ok (.aload_n 0, 1) := by decide +kernel
theorem dX12_learnsIn_78 : decode cX12_learnsIn 78 = .ok (.invokevirtual 415, 3) := by decide +kernel
theorem dX12_learnsIn_81 : decode cX12_learnsIn 81 = .ok (.iload_n 3, 1) := by decide +kernel
theorem dX12_learnsIn_82 : decode cX12_learnsIn 82 = .ok (.ifCond .ge 12, 3) := by decide +kernel
theorem dX12_learnsIn_85 : decode cX12_learnsIn 85 = .ok (.aload_n 0, 1) := by decide +kernel
theorem dX12_learnsIn_86 : decode cX12_learnsIn 86 = .ok (.bipush 8, 2) := by decide +kernel
theorem dX12_learnsIn_88 : decode cX12_learnsIn 88 = .ok (.invokevirtual 325, 3) := by decide +kernel
theorem dX12_learnsIn_91 : decode cX12_learnsIn 91 = .ok (.goto 4, 3) := by decide +kernel
theorem dX12_learnsIn_94 : decode cX12_learnsIn 94 = .ok (.iload_n 3, 1) := by decide +kernel
theorem dX12_learnsIn_95 : decode cX12_learnsIn 95 = .ok (.ireturn, 1) := by decide +kernel
theorem mw_X12_learnsIn : MW yX12_learnsIn cX12_learnsIn 5 0 2 false := ⟨tm 2169 (by decide +kernel) rfl, tm 249 (by decide +kernel) rfl, by decide, by decide, (by rw [if_neg (by decide)]; exact ⟨tm 2167 (by decide +kernel) rfl, tm 2168 (by decide +kernel) rfl⟩)⟩
def M_learnsIn_L42 (a1 : Int) (a2 : Int) (k77 : Int → Sg → Rs) : Nat → Int → Int → Sg → Rs
  | 0, _, _, _ => none
  | n + 1, v3, v4, σ => (if 200 < v4 then (k77 v3 σ) else (if v3 < 0 then (bd (M_knows a1 a2 σ) (fun r13 s14 => (if r13 = 0 then (bd (M_goesDay s14) (fun r15 s16 => (nm (w32 (v4 + 1)) (fun x17 => (M_learnsIn_L42 a1 a2 k77 n v3 x17 s16))))) else (bd (M_goesDay s14) (fun r18 s19 => (nm (w32 (v4 + 1)) (fun x20 => (M_learnsIn_L42 a1 a2 k77 n v4 x20 s19)))))))) else (k77 v3 σ)))
theorem ok_M_learnsIn_L42 (a1 : Int) (a2 : Int) (k77 : Int → Sg → Rs) (hk77 : ∀ (y3 : Int) (σ : Sg), G l Km Pm RX12 cX12_learnsIn 5 0 6 77 [some (.inr (.inr 0)), none, none, some (.inl y3), none] [] σ (k77 y3 σ)) : ∀ (n : Nat) (v3 v4 : Int) (σ : Sg), G l Km Pm RX12 cX12_learnsIn 5 0 6 42 [some (.inr (.inr 0)), some (.inl a1), some (.inl a2), some (.inl v3), some (.inl v4)] [] σ (M_learnsIn_L42 a1 a2 k77 n v3 v4 σ) := by
  intro n
  induction n with
  | zero => intros; exact G.none_
  | succ n ih =>
    intro v3 v4 σ
    rw [M_learnsIn_L42]
    refine g_iload dX12_learnsIn_42 rfl ?_
    refine g_sipush dX12_learnsIn_44 (by decide) ?_
    refine g_icmpgt (tgt := 77) dX12_learnsIn_47 (by decide) ?_ ?_
    · exact (g_weak [true, false, false, true, false] (hk77 v3 σ))
    · refine g_iload_n dX12_learnsIn_50 rfl rfl ?_
      refine g_ifge (tgt := 77) dX12_learnsIn_51 (by decide) ?_ ?_
      · refine g_aload_n dX12_learnsIn_54 rfl rfl ?_
        refine g_iload_n dX12_learnsIn_55 rfl rfl ?_
        refine g_iload_n dX12_learnsIn_56 rfl rfl ?_
        refine g_callv3 (st := []) 10 mw_X12_knows lk_RX12_366 rfl km_0 (ok_M_knows a1 a2 σ) (Nat.le_of_ble_eq_true rfl) rfl rfl (Nat.le_of_ble_eq_true rfl) dX12_learnsIn_57 ?_
        intro r13 s14
        refine g_ifeq (tgt := 66) dX12_learnsIn_60 (by decide) ?_ ?_
        · refine g_aload_n dX12_learnsIn_66 rfl rfl ?_
          refine g_callv0 (st := []) 10 mw_X12_goesDay lk_RX12_381 rfl km_0 (ok_M_goesDay s14) (Nat.le_of_ble_eq_true rfl) rfl rfl (Nat.le_of_ble_eq_true rfl) dX12_learnsIn_67 ?_
          intro r15 s16
          refine g_pop dX12_learnsIn_70 rfl ?_
          refine n_iinc (fun x17 => [some (.inr (.inr 0)), some (.inl a1), some (.inl a2), some (.inl v3), some (.inl x17)]) dX12_learnsIn_71 rfl (Nat.le_of_ble_eq_true rfl) (fun _ => rfl) ?_
          intro x17
          refine g_goto (tgt := 42) dX12_learnsIn_74 (by decide) ?_
          exact (ih v3 x17 s16)
        · refine g_iload dX12_learnsIn_63 rfl ?_
          refine g_istore_n (lv' := [some (.inr (.inr 0)), some (.inl a1), some (.inl a2), some (.inl v4), some (.inl v4)]) dX12_learnsIn_65 rfl (Nat.le_of_ble_eq_true rfl) rfl ?_
          refine g_aload_n dX12_learnsIn_66 rfl rfl ?_
          refine g_callv0 (st := []) 10 mw_X12_goesDay lk_RX12_381 rfl km_0 (ok_M_goesDay s14) (Nat.le_of_ble_eq_true rfl) rfl rfl (Nat.le_of_ble_eq_true rfl) dX12_learnsIn_67 ?_
          intro r18 s19
          refine g_pop dX12_learnsIn_70 rfl ?_
          refine n_iinc (fun x20 => [some (.inr (.inr 0)), some (.inl a1), some (.inl a2), some (.inl v4), some (.inl x20)]) dX12_learnsIn_71 rfl (Nat.le_of_ble_eq_true rfl) (fun _ => rfl) ?_
          intro x20
          refine g_goto (tgt := 42) dX12_learnsIn_74 (by decide) ?_
          exact (ih v4 x20 s19)
      · exact (g_weak [true, false, false, true, false] (hk77 v3 σ))
def M_learnsIn_J77 (v3 : Int) (σ : Sg) : Rs := (bd (M_gives σ) (fun r23 s24 => (if v3 < 0 then (bd (M_refuse 8 s24) (fun r25 s26 => (some (r25, s26)))) else (some (v3, s24)))))
theorem ok_M_learnsIn_J77 (v3 : Int) : ∀ (σ : Sg), G l Km Pm RX12 cX12_learnsIn 5 0 6 77 [some (.inr (.inr 0)), none, none, some (.inl v3), none] [] σ (M_learnsIn_J77 v3  σ) := by
  intro σ
  unfold M_learnsIn_J77
  refine g_aload_n dX12_learnsIn_77 rfl rfl ?_
  refine g_callv2 (st := []) 10 mw_X12_gives lk_RX12_415 rfl km_0 (ok_M_gives σ) (Nat.le_of_ble_eq_true rfl) rfl rfl (Nat.le_of_ble_eq_true rfl) dX12_learnsIn_78 ?_
  intro r23 s24
  refine g_iload_n dX12_learnsIn_81 rfl rfl ?_
  refine g_ifge (tgt := 94) dX12_learnsIn_82 (by decide) ?_ ?_
  · refine g_aload_n dX12_learnsIn_85 rfl rfl ?_
    refine g_bipush dX12_learnsIn_86 (by decide) ?_
    refine g_callv0 (st := []) 10 mw_X12_refuse lk_RX12_325 rfl km_0 (ok_M_refuse 8 s24) (Nat.le_of_ble_eq_true rfl) rfl rfl (Nat.le_of_ble_eq_true rfl) dX12_learnsIn_88 ?_
    intro r25 s26
    refine g_goto (tgt := 95) dX12_learnsIn_91 (by decide) ?_
    exact g_iret dX12_learnsIn_95
  · refine g_iload_n dX12_learnsIn_94 rfl rfl ?_
    exact g_iret dX12_learnsIn_95
def M_learnsIn (a1 : Int) (a2 : Int) (σ : Sg) : Rs := (nm (up_s σ 0 1 0) (fun s1 => (nm (up_s s1 0 0 0) (fun s2 => (bd (M_isPersonAt a1 s2) (fun r3 s4 => (if r3 = 0 then (bd (M_refuse 2 s4) (fun r5 s6 => (some (r5, s6)))) else (bd (M_isWordAt a2 s4) (fun r7 s8 => (if r7 = 0 then (bd (M_refuse 2 s8) (fun r9 s10 => (some (r9, s10)))) else (bd (M_puts s8) (fun r11 s12 => (M_learnsIn_L42 a1 a2 (fun x21 s22 => (M_learnsIn_J77 x21 s22)) fu (-1) 0 s12)))))))))))))
theorem ok_M_learnsIn (a1 : Int) (a2 : Int) (σ : Sg) : MC l Km Pm yX12_learnsIn cX12_learnsIn 5 0 6 [.inr (.inr 0), .inl a1, .inl a2] σ (M_learnsIn a1 a2 σ) := by
  refine mc_of (by decide) (Nat.le_of_ble_eq_true rfl) ?_
  change G l Km Pm RX12 cX12_learnsIn 5 0 6 0 [some (.inr (.inr 0)), some (.inl a1), some (.inl a2), none, none] [] σ (M_learnsIn a1 a2 σ)
  unfold M_learnsIn
  refine g_aload_n dX12_learnsIn_0 rfl rfl ?_
  refine g_iconst dX12_learnsIn_1 (by decide) ?_
  refine g_puti fl_RX12_67 km_0 (by decide) dX12_learnsIn_2 ?_
  intro s1
  refine g_aload_n dX12_learnsIn_5 rfl rfl ?_
  refine g_iconst dX12_learnsIn_6 (by decide) ?_
  refine g_puti fl_RX12_70 km_0 (by decide) dX12_learnsIn_7 ?_
  intro s2
  refine g_aload_n dX12_learnsIn_10 rfl rfl ?_
  refine g_iload_n dX12_learnsIn_11 rfl rfl ?_
  refine g_callv3 (st := []) 10 mw_X12_isPersonAt lk_RX12_345 rfl km_0 (ok_M_isPersonAt a1 s2) (Nat.le_of_ble_eq_true rfl) rfl rfl (Nat.le_of_ble_eq_true rfl) dX12_learnsIn_12 ?_
  intro r3 s4
  refine g_ifeq (tgt := 27) dX12_learnsIn_15 (by decide) ?_ ?_
  · refine g_aload_n dX12_learnsIn_27 rfl rfl ?_
    refine g_iconst dX12_learnsIn_28 (by decide) ?_
    refine g_callv0 (st := []) 10 mw_X12_refuse lk_RX12_325 rfl km_0 (ok_M_refuse 2 s4) (Nat.le_of_ble_eq_true rfl) rfl rfl (Nat.le_of_ble_eq_true rfl) dX12_learnsIn_29 ?_
    intro r5 s6
    exact g_iret dX12_learnsIn_32
  · refine g_aload_n dX12_learnsIn_18 rfl rfl ?_
    refine g_iload_n dX12_learnsIn_19 rfl rfl ?_
    refine g_i2l dX12_learnsIn_20 ?_
    refine g_callv3 (st := []) 10 mw_X12_isWordAt lk_RX12_334 rfl km_0 (ok_M_isWordAt a2 s4) (Nat.le_of_ble_eq_true rfl) rfl rfl (Nat.le_of_ble_eq_true rfl) dX12_learnsIn_21 ?_
    intro r7 s8
    refine g_ifne (tgt := 33) dX12_learnsIn_24 (by decide) ?_ ?_
    · refine g_aload_n dX12_learnsIn_27 rfl rfl ?_
      refine g_iconst dX12_learnsIn_28 (by decide) ?_
      refine g_callv0 (st := []) 10 mw_X12_refuse lk_RX12_325 rfl km_0 (ok_M_refuse 2 s8) (Nat.le_of_ble_eq_true rfl) rfl rfl (Nat.le_of_ble_eq_true rfl) dX12_learnsIn_29 ?_
      intro r9 s10
      exact g_iret dX12_learnsIn_32
    · refine g_iconst dX12_learnsIn_33 (by decide) ?_
      refine g_istore_n (lv' := [some (.inr (.inr 0)), some (.inl a1), some (.inl a2), some (.inl (-1)), none]) dX12_learnsIn_34 rfl (Nat.le_of_ble_eq_true rfl) rfl ?_
      refine g_aload_n dX12_learnsIn_35 rfl rfl ?_
      refine g_callv2 (st := []) 10 mw_X12_puts lk_RX12_406 rfl km_0 (ok_M_puts s8) (Nat.le_of_ble_eq_true rfl) rfl rfl (Nat.le_of_ble_eq_true rfl) dX12_learnsIn_36 ?_
      intro r11 s12
      refine g_iconst dX12_learnsIn_39 (by decide) ?_
      refine g_istore (lv' := [some (.inr (.inr 0)), some (.inl a1), some (.inl a2), some (.inl (-1)), some (.inl 0)]) dX12_learnsIn_40 (Nat.le_of_ble_eq_true rfl) rfl ?_
      refine (ok_M_learnsIn_L42 a1 a2 _ ?_ fu (-1) 0 s12)
      · intro x21 s22
        refine (ok_M_learnsIn_J77 x21 s22)
theorem dX12_lengthOf_0 : decode cX12_lengthOf 0 = .ok (.aload_n 0, 1) := by decide +kernel
theorem dX12_lengthOf_1 : decode cX12_lengthOf 1 = .ok (.iconst 0, 1) := by decide +kernel
theorem dX12_lengthOf_2 : decode cX12_lengthOf 2 = .ok (.putfield 67, 3) := by decide +kernel
theorem dX12_lengthOf_5 : decode cX12_lengthOf 5 = .ok (.aload_n 0, 1) := by decide +kernel
theorem dX12_lengthOf_6 : decode cX12_lengthOf 6 = .ok (.iconst 0, 1) := by decide +kernel
theorem dX12_lengthOf_7 : decode cX12_lengthOf 7 = .ok (.putfield 70, 3) := by decide +kernel
theorem dX12_lengthOf_10 : decode cX12_lengthOf 10 = .ok (.aload_n 0, 1) := by decide +kernel
theorem dX12_lengthOf_11 : decode cX12_lengthOf 11 = .ok (.iload_n 1, 1) := by decide +kernel
theorem dX12_lengthOf_12 : decode cX12_lengthOf 12 = .ok (.invokevirtual 464, 3) := by decide +kernel
theorem dX12_lengthOf_15 : decode cX12_lengthOf 15 = .ok (.ifCond .eq 24, 3) := by decide +kernel
theorem dX12_lengthOf_18 : decode cX12_lengthOf 18 = .ok (.iload_n 2, 1) := by decide +kernel
theorem dX12_lengthOf_19 : decode cX12_lengthOf 19 = .ok (.i2l, 1) := by decide +kernel
theorem dX12_lengthOf_20 : decode cX12_lengthOf 20 = .ok (.lconst 0, 1) := by decide +kernel
theorem dX12_lengthOf_21 : decode cX12_lengthOf 21 = .ok (.ldc2_w 396, 3) := by decide +kernel
theorem dX12_lengthOf_24 : decode cX12_lengthOf 24 = .ok (.invokestatic 102, 3) := by decide +kernel
theorem dX12_lengthOf_27 : decode cX12_lengthOf 27 = .ok (.ifCond .eq 12, 3) := by decide +kernel
theorem dX12_lengthOf_30 : decode cX12_lengthOf 30 = .ok (.aload_n 0, 1) := by decide +kernel
theorem dX12_lengthOf_31 : decode cX12_lengthOf 31 = .ok (.iload_n 1, 1) := by decide +kernel
theorem dX12_lengthOf_32 : decode cX12_lengthOf 32 = .ok (.iload_n 2, 1) := by decide +kernel
theorem dX12_lengthOf_33 : decode cX12_lengthOf 33 = .ok (.invokevirtual 443, 3) := by decide +kernel
theorem dX12_lengthOf_36 : decode cX12_lengthOf 36 = .ok (.goto 8, 3) := by decide +kernel
theorem dX12_lengthOf_39 : decode cX12_lengthOf 39 = .ok (.aload_n 0, 1) := by decide +kernel
theorem dX12_lengthOf_40 : decode cX12_lengthOf 40 = .ok (.iconst 5, 1) := by decide +kernel
theorem dX12_lengthOf_41 : decode cX12_lengthOf 41 = .ok (.invokevirtual 325, 3) := by decide +kernel
theorem dX12_lengthOf_44 : decode cX12_lengthOf 44 = .ok (.ireturn, 1) := by decide +kernel
theorem mw_X12_lengthOf : MW yX12_lengthOf cX12_lengthOf 3 0 2 false := ⟨tm 2250 (by decide +kernel) rfl, tm 249 (by decide +kernel) rfl, by decide, by decide, (by rw [if_neg (by decide)]; exact ⟨tm 2248 (by decide +kernel) rfl, tm 2249 (by decide +kernel) rfl⟩)⟩
def M_lengthOf (a1 : Int) (a2 : Int) (σ : Sg) : Rs := (nm (up_s σ 0 1 0) (fun s1 => (nm (up_s s1 0 0 0) (fun s2 => (bd (M_areWords a1 s2) (fun r3 s4 => (if r3 = 0 then (bd (M_refuse 5 s4) (fun r5 s6 => (some (r5, s6)))) else (bd (M_isIn a2 0 999 s4) (fun r7 s8 => (if r7 = 0 then (bd (M_refuse 5 s8) (fun r9 s10 => (some (r9, s10)))) else (bd (M_grown a1 a2 s8) (fun r11 s12 => (some (r11, s12))))))))))))))
theorem ok_M_lengthOf (a1 : Int) (a2 : Int) (σ : Sg) : MC l Km Pm yX12_lengthOf cX12_lengthOf 3 0 3 [.inr (.inr 0), .inl a1, .inl a2] σ (M_lengthOf a1 a2 σ) := by
  refine mc_of (by decide) (Nat.le_of_ble_eq_true rfl) ?_
  change G l Km Pm RX12 cX12_lengthOf 3 0 3 0 [some (.inr (.inr 0)), some (.inl a1), some (.inl a2)] [] σ (M_lengthOf a1 a2 σ)
  unfold M_lengthOf
  refine g_aload_n dX12_lengthOf_0 rfl rfl ?_
  refine g_iconst dX12_lengthOf_1 (by decide) ?_
  refine g_puti fl_RX12_67 km_0 (by decide) dX12_lengthOf_2 ?_
  intro s1
  refine g_aload_n dX12_lengthOf_5 rfl rfl ?_
  refine g_iconst dX12_lengthOf_6 (by decide) ?_
  refine g_puti fl_RX12_70 km_0 (by decide) dX12_lengthOf_7 ?_
  intro s2
  refine g_aload_n dX12_lengthOf_10 rfl rfl ?_
  refine g_iload_n dX12_lengthOf_11 rfl rfl ?_
  refine g_callv3 (st := []) 10 mw_X12_areWords lk_RX12_464 rfl km_0 (ok_M_areWords a1 s2) (Nat.le_of_ble_eq_true rfl) rfl rfl (Nat.le_of_ble_eq_true rfl) dX12_lengthOf_12 ?_
  intro r3 s4
  refine g_ifeq (tgt := 39) dX12_lengthOf_15 (by decide) ?_ ?_
  · refine g_aload_n dX12_lengthOf_39 rfl rfl ?_
    refine g_iconst dX12_lengthOf_40 (by decide) ?_
    refine g_callv0 (st := []) 10 mw_X12_refuse lk_RX12_325 rfl km_0 (ok_M_refuse 5 s4) (Nat.le_of_ble_eq_true rfl) rfl rfl (Nat.le_of_ble_eq_true rfl) dX12_lengthOf_41 ?_
    intro r5 s6
    exact g_iret dX12_lengthOf_44
  · refine g_iload_n dX12_lengthOf_18 rfl rfl ?_
    refine g_i2l dX12_lengthOf_19 ?_
    refine g_lconst (v := 0) dX12_lengthOf_20 (by decide) ?_
    refine g_ldc2 (n := 999) (tm 2118 (by decide +kernel) rfl) (by decide) dX12_lengthOf_21 ?_
    refine g_calls3 (st := []) mw_X12_isIn lk_RX12_102 (ok_M_isIn a2 0 999 s4) (Nat.le_of_ble_eq_true rfl) rfl rfl (Nat.le_of_ble_eq_true rfl) dX12_lengthOf_24 ?_
    intro r7 s8
    refine g_ifeq (tgt := 39) dX12_lengthOf_27 (by decide) ?_ ?_
    · refine g_aload_n dX12_lengthOf_39 rfl rfl ?_
      refine g_iconst dX12_lengthOf_40 (by decide) ?_
      refine g_callv0 (st := []) 10 mw_X12_refuse lk_RX12_325 rfl km_0 (ok_M_refuse 5 s8) (Nat.le_of_ble_eq_true rfl) rfl rfl (Nat.le_of_ble_eq_true rfl) dX12_lengthOf_41 ?_
      intro r9 s10
      exact g_iret dX12_lengthOf_44
    · refine g_aload_n dX12_lengthOf_30 rfl rfl ?_
      refine g_iload_n dX12_lengthOf_31 rfl rfl ?_
      refine g_iload_n dX12_lengthOf_32 rfl rfl ?_
      refine g_callv0 (st := []) 10 mw_X12_grown lk_RX12_443 rfl km_0 (ok_M_grown a1 a2 s8) (Nat.le_of_ble_eq_true rfl) rfl rfl (Nat.le_of_ble_eq_true rfl) dX12_lengthOf_33 ?_
      intro r11 s12
      refine g_goto (tgt := 44) dX12_lengthOf_36 (by decide) ?_
      exact g_iret dX12_lengthOf_44
theorem dX12_runsYears_0 : decode cX12_runsYears 0 = .ok (.aload_n 0, 1) := by decide +kernel
theorem dX12_runsYears_1 : decode cX12_runsYears 1 = .ok (.iload_n 1, 1) := by decide +kernel
theorem dX12_runsYears_2 : decode cX12_runsYears 2 = .ok (.putfield 517, 3) := by decide +kernel
theorem dX12_runsYears_5 : decode cX12_runsYears 5 = .ok (.aload_n 0, 1) := by decide +kernel
theorem dX12_runsYears_6 : decode cX12_runsYears 6 = .ok (.iconst 0, 1) := by decide +kernel
theorem dX12_runsYears_7 : decode cX12_runsYears 7 = .ok (.putfield 545, 3) := by decide +kernel
theorem dX12_runsYears_10 : decode cX12_runsYears 10 = .ok (.aload_n 0, 1) := by decide +kernel
theorem dX12_runsYears_11 : decode cX12_runsYears 11 = .ok (.iconst 0, 1) := by decide +kernel
theorem dX12_runsYears_12 : decode cX12_runsYears 12 = .ok (.putfield 555, 3) := by decide +kernel
theorem dX12_runsYears_15 : decode cX12_runsYears 15 = .ok (.aload_n 0, 1) := by decide +kernel
theorem dX12_runsYears_16 : decode cX12_runsYears 16 = .ok (.iconst 0, 1) := by decide +kernel
theorem dX12_runsYears_17 : decode cX12_runsYears 17 = .ok (.putfield 524, 3) := by decide +kernel
theorem dX12_runsYears_20 : decode cX12_runsYears 20 = .ok (.aload_n 0, 1) := by decide +kernel
theorem dX12_runsYears_21 : decode cX12_runsYears 21 = .ok (.iconst 0, 1) := by decide +kernel
theorem dX12_runsYears_22 : decode cX12_runsYears 22 = .ok (.putfield 521, 3) := by decide +kernel
theorem dX12_runsYears_25 : decode cX12_runsYears 25 = .ok (.aload_n 0, 1) := by decide +kernel
theorem dX12_runsYears_26 : decode cX12_runsYears 26 = .ok (.iconst 0, 1) := by decide +kernel
theorem dX12_runsYears_27 : decode cX12_runsYears 27 = .ok (.putfield 533, 3) := by decide +kernel
theorem dX12_runsYears_30 : decode cX12_runsYears 30 = .ok (.aload_n 0, 1) := by decide +kernel
theorem dX12_runsYears_31 : decode cX12_runsYears 31 = .ok (.iconst 0, 1) := by decide +kernel
theorem dX12_runsYears_32 : decode cX12_runsYears 32 = .ok (.putfield 552, 3) := by decide +kernel
theorem dX12_runsYears_35 : decode cX12_runsYears 35 = .ok (.aload_n 0, 1) := by decide +kernel
theorem dX12_runsYears_36 : decode cX12_runsYears 36 = .ok (.iconst 0, 1) := by decide +kernel
theorem dX12_runsYears_37 : decode cX12_runsYears 37 = .ok (.putfield 548, 3) := by decide +kernel
theorem dX12_runsYears_40 : decode cX12_runsYears 40 = .ok (.aload_n 0, 1) := by decide +kernel
theorem dX12_runsYears_41 : decode cX12_runsYears 41 = .ok (.iconst 0, 1) := by decide +kernel
theorem dX12_runsYears_42 : decode cX12_runsYears 42 = .ok (.aload_n 0, 1) := by decide +kernel
theorem dX12_runsYears_43 : decode cX12_runsYears 43 = .ok (.getfield 35, 3) := by decide +kernel
theorem dX12_runsYears_46 : decode cX12_runsYears 46 = .ok (.sipush 176, 3) := by decide +kernel
theorem dX12_runsYears_49 : decode cX12_runsYears 49 = .ok (.iaload, 1) := by decide +kernel
theorem dX12_runsYears_50 : decode cX12_runsYears 50 = .ok (.invokevirtual 564, 3) := by decide +kernel
theorem dX12_runsYears_53 : decode cX12_runsYears 53 = .ok (.return_, 1) := by decide +kernel
theorem mw_X12_runsYears : MW yX12_runsYears cX12_runsYears 2 2 1 false := ⟨tm 2366 (by decide +kernel) rfl, tm 249 (by decide +kernel) rfl, by decide, by decide, (by rw [if_neg (by decide)]; exact ⟨tm 2365 (by decide +kernel) rfl, tm 224 (by decide +kernel) rfl⟩)⟩
def M_runsYears (a1 : Int) (σ : Sg) : Rs := (nm (up_s σ 0 37 a1) (fun s1 => (nm (up_s s1 0 38 0) (fun s2 => (nm (up_s s2 0 39 0) (fun s3 => (nm (up_s s3 0 40 0) (fun s4 => (nm (up_s s4 0 41 0) (fun s5 => (nm (up_s s5 0 42 0) (fun s6 => (nm (up_s s6 0 43 0) (fun s7 => (zb 0 (nm (up_s s7 0 36 0) (fun s8 => (rd 2235 176 (s8 5 (Int.toNat 176)) (fun x9 => (bd (M_doAll 20 0 x9 s8) (fun r10 s11 => (some (0, s11)))))))))))))))))))))))
theorem ok_M_runsYears (a1 : Int) (σ : Sg) : MC l Km Pm yX12_runsYears cX12_runsYears 2 2 51 [.inr (.inr 0), .inl a1] σ (M_runsYears a1 σ) := by
  refine mc_of (by decide) (Nat.le_of_ble_eq_true rfl) ?_
  change G l Km Pm RX12 cX12_runsYears 2 2 51 0 [some (.inr (.inr 0)), some (.inl a1)] [] σ (M_runsYears a1 σ)
  unfold M_runsYears
  refine g_aload_n dX12_runsYears_0 rfl rfl ?_
  refine g_iload_n dX12_runsYears_1 rfl rfl ?_
  refine g_puti fl_RX12_517 km_0 (by decide) dX12_runsYears_2 ?_
  intro s1
  refine g_aload_n dX12_runsYears_5 rfl rfl ?_
  refine g_iconst dX12_runsYears_6 (by decide) ?_
  refine g_puti fl_RX12_545 km_0 (by decide) dX12_runsYears_7 ?_
  intro s2
  refine g_aload_n dX12_runsYears_10 rfl rfl ?_
  refine g_iconst dX12_runsYears_11 (by decide) ?_
  refine g_puti fl_RX12_555 km_0 (by decide) dX12_runsYears_12 ?_
  intro s3
  refine g_aload_n dX12_runsYears_15 rfl rfl ?_
  refine g_iconst dX12_runsYears_16 (by decide) ?_
  refine g_puti fl_RX12_524 km_0 (by decide) dX12_runsYears_17 ?_
  intro s4
  refine g_aload_n dX12_runsYears_20 rfl rfl ?_
  refine g_iconst dX12_runsYears_21 (by decide) ?_
  refine g_puti fl_RX12_521 km_0 (by decide) dX12_runsYears_22 ?_
  intro s5
  refine g_aload_n dX12_runsYears_25 rfl rfl ?_
  refine g_iconst dX12_runsYears_26 (by decide) ?_
  refine g_puti fl_RX12_533 km_0 (by decide) dX12_runsYears_27 ?_
  intro s6
  refine g_aload_n dX12_runsYears_30 rfl rfl ?_
  refine g_iconst dX12_runsYears_31 (by decide) ?_
  refine g_puti fl_RX12_552 km_0 (by decide) dX12_runsYears_32 ?_
  intro s7
  refine g_aload_n dX12_runsYears_35 rfl rfl ?_
  refine g_iconst dX12_runsYears_36 (by decide) ?_
  refine g_putz fl_RX12_548 km_0 (by decide) dX12_runsYears_37 ?_
  intro s8
  refine g_aload_n dX12_runsYears_40 rfl rfl ?_
  refine g_iconst dX12_runsYears_41 (by decide) ?_
  refine g_aload_n dX12_runsYears_42 rfl rfl ?_
  refine g_getr' (q := 5) fl_RX12_35 km_0 (by decide) rfl dX12_runsYears_43 ?_
  refine g_sipush dX12_runsYears_46 (by decide) ?_
  refine g_iald km_5 dX12_runsYears_49 ?_
  intro x9
  refine g_callv2 (st := []) 10 mw_X12_doAll lk_RX12_564 rfl km_0 (ok_M_doAll 20 0 x9 s8) (Nat.le_of_ble_eq_true rfl) rfl rfl (Nat.le_of_ble_eq_true rfl) dX12_runsYears_50 ?_
  intro r10 s11
  exact g_vret dX12_runsYears_53
theorem dX12_live_0 : decode cX12_live 0 = .ok (.aload_n 0, 1) := by decide +kernel
theorem dX12_live_1 : decode cX12_live 1 = .ok (.iconst 0, 1) := by decide +kernel
theorem dX12_live_2 : decode cX12_live 2 = .ok (.putfield 67, 3) := by decide +kernel
theorem dX12_live_5 : decode cX12_live 5 = .ok (.aload_n 0, 1) := by decide +kernel
theorem dX12_live_6 : decode cX12_live 6 = .ok (.iconst 0, 1) := by decide +kernel
theorem dX12_live_7 : decode cX12_live 7 = .ok (.putfield 70, 3) := by decide +kernel
theorem dX12_live_10 : decode cX12_live 10 = .ok (.iload_n 1, 1) := by decide +kernel
theorem dX12_live_11 : decode cX12_live 11 = .ok (.i2l, 1) := by decide +kernel
theorem dX12_live_12 : decode cX12_live 12 = .ok (.lconst 0, 1) := by decide +kernel
theorem dX12_live_13 : decode cX12_live 13 = .ok (.ldc2_w 467, 3) := by decide +kernel
theorem dX12_live_16 : decode cX12_live 16 = .ok (.invokestatic 102, 3) := by decide +kernel
theorem dX12_live_19 : decode cX12_live 19 = .ok (.ifCond .ne 9, 3) := by decide +kernel
theorem dX12_live_22 : decode cX12_live 22 = .ok (.aload_n 0, 1) := by decide +kernel
theorem dX12_live_23 : decode cX12_live 23 = .ok (.iconst 5, 1) := by decide +kernel
theorem dX12_live_24 : decode cX12_live 24 = .ok (.invokevirtual 325, 3) := by decide +kernel
theorem dX12_live_27 : decode cX12_live 27 = .ok (.ireturn, 1) := by decide +kernel
theorem dX12_live_28 : decode cX12_live 28 = .ok (.aload_n 0, 1) := by decide +kernel
theorem dX12_live_29 : decode cX12_live 29 = .ok (.getfield 35, 3) := by decide +kernel
theorem dX12_live_32 : decode cX12_live 32 = .ok (.sipush 175, 3) := by decide +kernel
theorem dX12_live_35 : decode cX12_live 35 = .ok (.iaload, 1) := by decide +kernel
theorem dX12_live_36 : decode cX12_live 36 = .ok (.ifCond .ne 10, 3) := by decide +kernel
theorem dX12_live_39 : decode cX12_live 39 = .ok (.aload_n 0, 1) := by decide +kernel
theorem dX12_live_40 : decode cX12_live 40 = .ok (.bipush 8, 2) := by decide +kernel
theorem dX12_live_42 : decode cX12_live 42 = .ok (.invokevirtual 325, 3) := by decide +kernel
theorem dX12_live_45 : decode cX12_live 45 = .ok (.ireturn, 1) := by decide +kernel
theorem dX12_live_46 : decode cX12_live 46 = .ok (.aload_n 0, 1) := by decide +kernel
theorem dX12_live_47 : decode cX12_live 47 = .ok (.iload_n 1, 1) := by decide +kernel
theorem dX12_live_48 : decode cX12_live 48 = .ok (.invokevirtual 570, 3) := by decide +kernel
theorem dX12_live_51 : decode cX12_live 51 = .ok (.aload_n 0, 1) := by decide +kernel
theorem dX12_live_52 : decode cX12_live 52 = .ok (.getfield 60, 3) := by decide +kernel
theorem dX12_live_55 : decode cX12_live 55 = .ok (.iconst 0, 1) := by decide +kernel
theorem dX12_live_56 : decode cX12_live 56 = .ok (.aload_n 0, 1) := by decide +kernel
theorem dX12_live_57 : decode cX12_live 57 = .ok (.getfield 555, 3) := by decide +kernel
theorem dX12_live_60 : decode cX12_live 60 = .ok (.iastore, 1) := by decide +kernel
theorem dX12_live_61 : decode cX12_live 61 = .ok (.aload_n 0, 1) := by decide +kernel
theorem dX12_live_62 : decode cX12_live 62 = .ok (.getfield 60, 3) := by decide +kernel
theorem dX12_live_65 : decode cX12_live 65 = .ok (.iconst 1, 1) := by decide +kernel
theorem dX12_live_66 : decode cX12_live 66 = .ok (.aload_n 0, 1) := by decide +kernel
theorem dX12_live_67 : decode cX12_live 67 = .ok (.getfield 524, 3) := by decide +kernel
theorem dX12_live_70 : decode cX12_live 70 = .ok (.iastore, 1) := by decide +kernel
theorem dX12_live_71 : decode cX12_live 71 = .ok (.aload_n 0, 1) := by decide +kernel
theorem dX12_live_72 : decode cX12_live 72 = .ok (.getfield 60, 3) := by decide +kernel
theorem dX12_live_75 : decode cX12_live 75 = .ok (.iconst 2, 1) := by decide +kernel
theorem dX12_live_76 : decode cX12_live 76 = .ok (.aload_n 0, 1) := by decide +kernel
theorem dX12_live_77 : decode cX12_live 77 = .ok (.getfield 521, 3) := by decide +kernel
theorem dX12_live_80 : decode cX12_live 80 = .ok (.iastore, 1) := by decide +kernel
theorem dX12_live_81 : decode cX12_live 81 = .ok (.aload_n 0, 1) := by decide +kernel
theorem dX12_live_82 : decode cX12_live 82 = .ok (.getfield 60, 3) := by decide +kernel
theorem dX12_live_85 : decode cX12_live 85 = .ok (.iconst 3, 1) := by decide +kernel
theorem dX12_live_86 : decode cX12_live 86 = .ok (.aload_n 0, 1) := by decide +kernel
theorem dX12_live_87 : decode cX12_live 87 = .ok (.getfield 533, 3) := by decide +kernel
theorem dX12_live_90 : decode cX12_live 90 = .ok (.iastore, 1) := by decide +kernel
theorem dX12_live_91 : decode cX12_live 91 = .ok (.aload_n 0, 1) := by decide +kernel
theorem dX12_live_92 : decode cX12_live 92 = .ok (.getfield 60, 3) := by decide +kernel
theorem dX12_live_95 : decode cX12_live 95 = .ok (.iconst 4, 1) := by decide +kernel
theorem dX12_live_96 : decode cX12_live 96 = .ok (.aload_n 0, 1) := by decide +kernel
theorem dX12_live_97 : decode cX12_live 97 = .ok (.getfield 552, 3) := by decide +kernel
theorem dX12_live_100 : decode cX12_live 100 = .ok (.iastore, 1) := by decide +kernel
theorem dX12_live_101 : decode cX12_live 101 = .ok (.aload_n 0, 1) := by decide +kernel
theorem dX12_live_102 : decode cX12_live 102 = .ok (.iconst 1, 1) := by decide +kernel
theorem dX12_live_103 : decode cX12_live 103 = .ok (.putfield 573, 3) := by decide +kernel
theorem dX12_live_106 : decode cX12_live 106 = .ok (.aload_n 0, 1) := by decide +kernel
theorem dX12_live_107 : decode cX12_live 107 = .ok (.getfield 545, 3) := by decide +kernel
theorem dX12_live_110 : decode cX12_live 110 = .ok (.ireturn, 1) := by decide +kernel
theorem mw_X12_live : MW yX12_live cX12_live 2 0 1 false := ⟨tm 2362 (by decide +kernel) rfl, tm 249 (by decide +kernel) rfl, by decide, by decide, (by rw [if_neg (by decide)]; exact ⟨tm 2360 (by decide +kernel) rfl, tm 2361 (by decide +kernel) rfl⟩)⟩
theorem lk_RX12_570 : LK RX12 570 yX12_runsYears := Or.inl (tm 2363 (by decide +kernel) rfl)
theorem fl_RX12_60 : FL RX12 60 10 34 := ⟨_, _, _, _, cw_10, by decide, Or.inr (Or.inr (Or.inr (by decide))), Or.inl (by decide), Or.inl (tm 1602 (by decide +kernel) rfl)⟩
theorem fl_RX12_573 : FL RX12 573 10 35 := ⟨_, _, _, _, cw_10, by decide, Or.inr (Or.inr (Or.inl (by decide))), Or.inr (by decide), Or.inl (tm 1603 (by decide +kernel) rfl)⟩
def M_live (a1 : Int) (σ : Sg) : Rs := (nm (up_s σ 0 1 0) (fun s1 => (nm (up_s s1 0 0 0) (fun s2 => (bd (M_isIn a1 0 9999 s2) (fun r3 s4 => (if r3 = 0 then (bd (M_refuse 5 s4) (fun r5 s6 => (some (r5, s6)))) else (rd 2235 175 (s4 5 (Int.toNat 175)) (fun x7 => (if x7 = 0 then (bd (M_refuse 8 s4) (fun r8 s9 => (some (r8, s9)))) else (bd (M_runsYears a1 s4) (fun r10 s11 => (wr 5 0 (up_s s11 13 (Int.toNat 0) (s11 0 39)) (fun s12 => (wr 5 1 (up_s s12 13 (Int.toNat 1) (s12 0 40)) (fun s13 => (wr 5 2 (up_s s13 13 (Int.toNat 2) (s13 0 41)) (fun s14 => (wr 5 3 (up_s s14 13 (Int.toNat 3) (s14 0 42)) (fun s15 => (wr 5 4 (up_s s15 13 (Int.toNat 4) (s15 0 43)) (fun s16 => (zb 1 (nm (up_s s16 0 35 1) (fun s17 => (some ((s17 0 38), s17)))))))))))))))))))))))))))
theorem ok_M_live (a1 : Int) (σ : Sg) : MC l Km Pm yX12_live cX12_live 2 0 52 [.inr (.inr 0), .inl a1] σ (M_live a1 σ) := by
  refine mc_of (by decide) (Nat.le_of_ble_eq_true rfl) ?_
  change G l Km Pm RX12 cX12_live 2 0 52 0 [some (.inr (.inr 0)), some (.inl a1)] [] σ (M_live a1 σ)
  unfold M_live
  refine g_aload_n dX12_live_0 rfl rfl ?_
  refine g_iconst dX12_live_1 (by decide) ?_
  refine g_puti fl_RX12_67 km_0 (by decide) dX12_live_2 ?_
  intro s1
  refine g_aload_n dX12_live_5 rfl rfl ?_
  refine g_iconst dX12_live_6 (by decide) ?_
  refine g_puti fl_RX12_70 km_0 (by decide) dX12_live_7 ?_
  intro s2
  refine g_iload_n dX12_live_10 rfl rfl ?_
  refine g_i2l dX12_live_11 ?_
  refine g_lconst (v := 0) dX12_live_12 (by decide) ?_
  refine g_ldc2 (n := 9999) (tm 2259 (by decide +kernel) rfl) (by decide) dX12_live_13 ?_
  refine g_calls3 (st := []) mw_X12_isIn lk_RX12_102 (ok_M_isIn a1 0 9999 s2) (Nat.le_of_ble_eq_true rfl) rfl rfl (Nat.le_of_ble_eq_true rfl) dX12_live_16 ?_
  intro r3 s4
  refine g_ifne (tgt := 28) dX12_live_19 (by decide) ?_ ?_
  · refine g_aload_n dX12_live_22 rfl rfl ?_
    refine g_iconst dX12_live_23 (by decide) ?_
    refine g_callv0 (st := []) 10 mw_X12_refuse lk_RX12_325 rfl km_0 (ok_M_refuse 5 s4) (Nat.le_of_ble_eq_true rfl) rfl rfl (Nat.le_of_ble_eq_true rfl) dX12_live_24 ?_
    intro r5 s6
    exact g_iret dX12_live_27
  · refine g_aload_n dX12_live_28 rfl rfl ?_
    refine g_getr' (q := 5) fl_RX12_35 km_0 (by decide) rfl dX12_live_29 ?_
    refine g_sipush dX12_live_32 (by decide) ?_
    refine g_iald km_5 dX12_live_35 ?_
    intro x7
    refine g_ifne (tgt := 46) dX12_live_36 (by decide) ?_ ?_
    · refine g_aload_n dX12_live_39 rfl rfl ?_
      refine g_bipush dX12_live_40 (by decide) ?_
      refine g_callv0 (st := []) 10 mw_X12_refuse lk_RX12_325 rfl km_0 (ok_M_refuse 8 s4) (Nat.le_of_ble_eq_true rfl) rfl rfl (Nat.le_of_ble_eq_true rfl) dX12_live_42 ?_
      intro r8 s9
      exact g_iret dX12_live_45
    · refine g_aload_n dX12_live_46 rfl rfl ?_
      refine g_iload_n dX12_live_47 rfl rfl ?_
      refine g_callv2 (st := []) 10 mw_X12_runsYears lk_RX12_570 rfl km_0 (ok_M_runsYears a1 s4) (Nat.le_of_ble_eq_true rfl) rfl rfl (Nat.le_of_ble_eq_true rfl) dX12_live_48 ?_
      intro r10 s11
      refine g_aload_n dX12_live_51 rfl rfl ?_
      refine g_getr' (q := 13) fl_RX12_60 km_0 (by decide) rfl dX12_live_52 ?_
      refine g_iconst dX12_live_55 (by decide) ?_
      refine g_aload_n dX12_live_56 rfl rfl ?_
      refine g_geti fl_RX12_555 km_0 (by decide) dX12_live_57 ?_
      refine g_iast km_13 dX12_live_60 ?_
      intro s12
      refine g_aload_n dX12_live_61 rfl rfl ?_
      refine g_getr' (q := 13) fl_RX12_60 km_0 (by decide) rfl dX12_live_62 ?_
      refine g_iconst dX12_live_65 (by decide) ?_
      refine g_aload_n dX12_live_66 rfl rfl ?_
      refine g_geti fl_RX12_524 km_0 (by decide) dX12_live_67 ?_
      refine g_iast km_13 dX12_live_70 ?_
      intro s13
      refine g_aload_n dX12_live_71 rfl rfl ?_
      refine g_getr' (q := 13) fl_RX12_60 km_0 (by decide) rfl dX12_live_72 ?_
      refine g_iconst dX12_live_75 (by decide) ?_
      refine g_aload_n dX12_live_76 rfl rfl ?_
      refine g_geti fl_RX12_521 km_0 (by decide) dX12_live_77 ?_
      refine g_iast km_13 dX12_live_80 ?_
      intro s14
      refine g_aload_n dX12_live_81 rfl rfl ?_
      refine g_getr' (q := 13) fl_RX12_60 km_0 (by decide) rfl dX12_live_82 ?_
      refine g_iconst dX12_live_85 (by decide) ?_
      refine g_aload_n dX12_live_86 rfl rfl ?_
      refine g_geti fl_RX12_533 km_0 (by decide) dX12_live_87 ?_
      refine g_iast km_13 dX12_live_90 ?_
      intro s15
      refine g_aload_n dX12_live_91 rfl rfl ?_
      refine g_getr' (q := 13) fl_RX12_60 km_0 (by decide) rfl dX12_live_92 ?_
      refine g_iconst dX12_live_95 (by decide) ?_
      refine g_aload_n dX12_live_96 rfl rfl ?_
      refine g_geti fl_RX12_552 km_0 (by decide) dX12_live_97 ?_
      refine g_iast km_13 dX12_live_100 ?_
      intro s16
      refine g_aload_n dX12_live_101 rfl rfl ?_
      refine g_iconst dX12_live_102 (by decide) ?_
      refine g_putz fl_RX12_573 km_0 (by decide) dX12_live_103 ?_
      intro s17
      refine g_aload_n dX12_live_106 rfl rfl ?_
      refine g_geti fl_RX12_545 km_0 (by decide) dX12_live_107 ?_
      exact g_iret dX12_live_110
theorem dX12_lived_0 : decode cX12_lived 0 = .ok (.aload_n 0, 1) := by decide +kernel
theorem dX12_lived_1 : decode cX12_lived 1 = .ok (.iconst 0, 1) := by decide +kernel
theorem dX12_lived_2 : decode cX12_lived 2 = .ok (.putfield 67, 3) := by decide +kernel
theorem dX12_lived_5 : decode cX12_lived 5 = .ok (.aload_n 0, 1) := by decide +kernel
theorem dX12_lived_6 : decode cX12_lived 6 = .ok (.iconst 0, 1) := by decide +kernel
theorem dX12_lived_7 : decode cX12_lived 7 = .ok (.putfield 70, 3) := by decide +kernel
theorem dX12_lived_10 : decode cX12_lived 10 = .ok (.iload_n 1, 1) := by decide +kernel
theorem dX12_lived_11 : decode cX12_lived 11 = .ok (.i2l, 1) := by decide +kernel
theorem dX12_lived_12 : decode cX12_lived 12 = .ok (.lconst 0, 1) := by decide +kernel
theorem dX12_lived_13 : decode cX12_lived 13 = .ok (.ldc2_w 337, 3) := by decide +kernel
theorem dX12_lived_16 : decode cX12_lived 16 = .ok (.invokestatic 102, 3) := by decide +kernel
theorem dX12_lived_19 : decode cX12_lived 19 = .ok (.ifCond .ne 9, 3) := by decide +kernel
theorem dX12_lived_22 : decode cX12_lived 22 = .ok (.aload_n 0, 1) := by decide +kernel
theorem dX12_lived_23 : decode cX12_lived 23 = .ok (.iconst 5, 1) := by decide +kernel
theorem dX12_lived_24 : decode cX12_lived 24 = .ok (.invokevirtual 325, 3) := by decide +kernel
theorem dX12_lived_27 : decode cX12_lived 27 = .ok (.ireturn, 1) := by decide +kernel
theorem dX12_lived_28 : decode cX12_lived 28 = .ok (.aload_n 0, 1) := by decide +kernel
theorem dX12_lived_29 : decode cX12_lived 29 = .ok (.getfield 573, 3) := by decide +kernel
theorem dX12_lived_32 : decode cX12_lived 32 = .ok (.ifCond .eq 12, 3) := by decide +kernel
theorem dX12_lived_35 : decode cX12_lived 35 = .ok (.aload_n 0, 1) := by decide +kernel
theorem dX12_lived_36 : decode cX12_lived 36 = .ok (.getfield 60, 3) := by decide +kernel
theorem dX12_lived_39 : decode cX12_lived 39 = .ok (.iload_n 1, 1) := by decide +kernel
theorem dX12_lived_40 : decode cX12_lived 40 = .ok (.iaload, 1) := by decide +kernel
theorem dX12_lived_41 : decode cX12_lived 41 = .ok (.goto 9, 3) := by decide +kernel
theorem dX12_lived_44 : decode cX12_lived 44 = .ok (.aload_n 0, 1) := by decide +kernel
theorem dX12_lived_45 : decode cX12_lived 45 = .ok (.bipush 8, 2) := by decide +kernel
theorem dX12_lived_47 : decode cX12_lived 47 = .ok (.invokevirtual 325, 3) := by decide +kernel
theorem dX12_lived_50 : decode cX12_lived 50 = .ok (.ireturn, 1) := by decide +kernel
theorem mw_X12_lived : MW yX12_lived cX12_lived 2 0 1 false := ⟨tm 2407 (by decide +kernel) rfl, tm 249 (by decide +kernel) rfl, by decide, by decide, (by rw [if_neg (by decide)]; exact ⟨tm 2405 (by decide +kernel) rfl, tm 2406 (by decide +kernel) rfl⟩)⟩
def M_lived (a1 : Int) (σ : Sg) : Rs := (nm (up_s σ 0 1 0) (fun s1 => (nm (up_s s1 0 0 0) (fun s2 => (bd (M_isIn a1 0 4 s2) (fun r3 s4 => (if r3 = 0 then (bd (M_refuse 5 s4) (fun r5 s6 => (some (r5, s6)))) else (if (s4 0 35) = 0 then (bd (M_refuse 8 s4) (fun r7 s8 => (some (r7, s8)))) else (rd 5 a1 (s4 13 (Int.toNat a1)) (fun x9 => (some (x9, s4))))))))))))
theorem ok_M_lived (a1 : Int) (σ : Sg) : MC l Km Pm yX12_lived cX12_lived 2 0 2 [.inr (.inr 0), .inl a1] σ (M_lived a1 σ) := by
  refine mc_of (by decide) (Nat.le_of_ble_eq_true rfl) ?_
  change G l Km Pm RX12 cX12_lived 2 0 2 0 [some (.inr (.inr 0)), some (.inl a1)] [] σ (M_lived a1 σ)
  unfold M_lived
  refine g_aload_n dX12_lived_0 rfl rfl ?_
  refine g_iconst dX12_lived_1 (by decide) ?_
  refine g_puti fl_RX12_67 km_0 (by decide) dX12_lived_2 ?_
  intro s1
  refine g_aload_n dX12_lived_5 rfl rfl ?_
  refine g_iconst dX12_lived_6 (by decide) ?_
  refine g_puti fl_RX12_70 km_0 (by decide) dX12_lived_7 ?_
  intro s2
  refine g_iload_n dX12_lived_10 rfl rfl ?_
  refine g_i2l dX12_lived_11 ?_
  refine g_lconst (v := 0) dX12_lived_12 (by decide) ?_
  refine g_ldc2 (n := 4) (tm 2009 (by decide +kernel) rfl) (by decide) dX12_lived_13 ?_
  refine g_calls3 (st := []) mw_X12_isIn lk_RX12_102 (ok_M_isIn a1 0 4 s2) (Nat.le_of_ble_eq_true rfl) rfl rfl (Nat.le_of_ble_eq_true rfl) dX12_lived_16 ?_
  intro r3 s4
  refine g_ifne (tgt := 28) dX12_lived_19 (by decide) ?_ ?_
  · refine g_aload_n dX12_lived_22 rfl rfl ?_
    refine g_iconst dX12_lived_23 (by decide) ?_
    refine g_callv0 (st := []) 10 mw_X12_refuse lk_RX12_325 rfl km_0 (ok_M_refuse 5 s4) (Nat.le_of_ble_eq_true rfl) rfl rfl (Nat.le_of_ble_eq_true rfl) dX12_lived_24 ?_
    intro r5 s6
    exact g_iret dX12_lived_27
  · refine g_aload_n dX12_lived_28 rfl rfl ?_
    refine g_getz fl_RX12_573 km_0 (by decide) dX12_lived_29 ?_
    refine g_ifeq (tgt := 44) dX12_lived_32 (by decide) ?_ ?_
    · refine g_aload_n dX12_lived_44 rfl rfl ?_
      refine g_bipush dX12_lived_45 (by decide) ?_
      refine g_callv0 (st := []) 10 mw_X12_refuse lk_RX12_325 rfl km_0 (ok_M_refuse 8 s4) (Nat.le_of_ble_eq_true rfl) rfl rfl (Nat.le_of_ble_eq_true rfl) dX12_lived_47 ?_
      intro r7 s8
      exact g_iret dX12_lived_50
    · refine g_aload_n dX12_lived_35 rfl rfl ?_
      refine g_getr' (q := 13) fl_RX12_60 km_0 (by decide) rfl dX12_lived_36 ?_
      refine g_iload_n dX12_lived_39 rfl rfl ?_
      refine g_iald km_13 dX12_lived_40 ?_
      intro x9
      refine g_goto (tgt := 50) dX12_lived_41 (by decide) ?_
      exact g_iret dX12_lived_50
theorem dX12_longest_0 : decode cX12_longest 0 = .ok (.aload_n 0, 1) := by decide +kernel
theorem dX12_longest_1 : decode cX12_longest 1 = .ok (.iconst 0, 1) := by decide +kernel
theorem dX12_longest_2 : decode cX12_longest 2 = .ok (.putfield 67, 3) := by decide +kernel
theorem dX12_longest_5 : decode cX12_longest 5 = .ok (.aload_n 0, 1) := by decide +kernel
theorem dX12_longest_6 : decode cX12_longest 6 = .ok (.iconst 0, 1) := by decide +kernel
theorem dX12_longest_7 : decode cX12_longest 7 = .ok (.putfield 70, 3) := by decide +kernel
theorem dX12_longest_10 : decode cX12_longest 10 = .ok (.aload_n 0, 1) := by decide +kernel
theorem dX12_longest_11 : decode cX12_longest 11 = .ok (.iload_n 1, 1) := by decide +kernel
theorem dX12_longest_12 : decode cX12_longest 12 = .ok (.invokevirtual 345, 3) := by decide +kernel
theorem dX12_longest_15 : decode cX12_longest 15 = .ok (.ifCond .ne 9, 3) := by decide +kernel
theorem dX12_longest_18 : decode cX12_longest 18 = .ok (.aload_n 0, 1) := by decide +kernel
theorem dX12_longest_19 : decode cX12_longest 19 = .ok (.iconst 2, 1) := by decide +kernel
theorem dX12_longest_20 : decode cX12_longest 20 = .ok (.invokevirtual 325, 3) := by decide +kernel
theorem dX12_longest_23 : decode cX12_longest 23 = .ok (.ireturn, 1) := by decide +kernel
theorem dX12_longest_24 : decode cX12_longest 24 = .ok (.aload_n 0, 1) := by decide +kernel
theorem dX12_longest_25 : decode cX12_longest 25 = .ok (.iload_n 1, 1) := by decide +kernel
theorem dX12_longest_26 : decode cX12_longest 26 = .ok (.aload_n 0, 1) := by decide +kernel
theorem dX12_longest_27 : decode cX12_longest 27 = .ok (.getfield 35, 3) := by decide +kernel
theorem dX12_longest_30 : decode cX12_longest 30 = .ok (.bipush 43, 2) := by decide +kernel
theorem dX12_longest_32 : decode cX12_longest 32 = .ok (.iload_n 1, 1) := by decide +kernel
theorem dX12_longest_33 : decode cX12_longest 33 = .ok (.iadd, 1) := by decide +kernel
theorem dX12_longest_34 : decode cX12_longest 34 = .ok (.iaload, 1) := by decide +kernel
theorem dX12_longest_35 : decode cX12_longest 35 = .ok (.invokevirtual 353, 3) := by decide +kernel
theorem dX12_longest_38 : decode cX12_longest 38 = .ok (.istore_n 2, 1) := by decide +kernel
theorem dX12_longest_39 : decode cX12_longest 39 = .ok (.iload_n 2, 1) := by decide +kernel
theorem dX12_longest_40 : decode cX12_longest 40 = .ok (.ifCond .ge 12, 3) := by decide +kernel
theorem dX12_longest_43 : decode cX12_longest 43 = .ok (.aload_n 0, 1) := by decide +kernel
theorem dX12_longest_44 : decode cX12_longest 44 = .ok (.bipush 8, 2) := by decide +kernel
theorem dX12_longest_46 : decode cX12_longest 46 = .ok (.invokevirtual 325, 3) := by decide +kernel
theorem dX12_longest_49 : decode cX12_longest 49 = .ok (.goto 4, 3) := by decide +kernel
theorem dX12_longest_52 : decode cX12_longest 52 = .ok (.iload_n 2, 1) := by decide +kernel
theorem dX12_longest_53 : decode cX12_longest 53 = .ok (.ireturn, 1) := by decide +kernel
theorem mw_X12_longest : MW yX12_longest cX12_longest 3 0 1 false := ⟨tm 2042 (by decide +kernel) rfl, tm 249 (by decide +kernel) rfl, by decide, by decide, (by rw [if_neg (by decide)]; exact ⟨tm 2040 (by decide +kernel) rfl, tm 2041 (by decide +kernel) rfl⟩)⟩
def M_longest (a1 : Int) (σ : Sg) : Rs := (nm (up_s σ 0 1 0) (fun s1 => (nm (up_s s1 0 0 0) (fun s2 => (bd (M_isPersonAt a1 s2) (fun r3 s4 => (if r3 = 0 then (bd (M_refuse 2 s4) (fun r5 s6 => (some (r5, s6)))) else (rd 2235 (w32 (43 + a1)) (s4 5 (Int.toNat (w32 (43 + a1)))) (fun x7 => (bd (M_longestOf a1 x7 s4) (fun r8 s9 => (if r8 < 0 then (bd (M_refuse 8 s9) (fun r10 s11 => (some (r10, s11)))) else (some (r8, s9))))))))))))))
theorem ok_M_longest (a1 : Int) (σ : Sg) : MC l Km Pm yX12_longest cX12_longest 3 0 4 [.inr (.inr 0), .inl a1] σ (M_longest a1 σ) := by
  refine mc_of (by decide) (Nat.le_of_ble_eq_true rfl) ?_
  change G l Km Pm RX12 cX12_longest 3 0 4 0 [some (.inr (.inr 0)), some (.inl a1), none] [] σ (M_longest a1 σ)
  unfold M_longest
  refine g_aload_n dX12_longest_0 rfl rfl ?_
  refine g_iconst dX12_longest_1 (by decide) ?_
  refine g_puti fl_RX12_67 km_0 (by decide) dX12_longest_2 ?_
  intro s1
  refine g_aload_n dX12_longest_5 rfl rfl ?_
  refine g_iconst dX12_longest_6 (by decide) ?_
  refine g_puti fl_RX12_70 km_0 (by decide) dX12_longest_7 ?_
  intro s2
  refine g_aload_n dX12_longest_10 rfl rfl ?_
  refine g_iload_n dX12_longest_11 rfl rfl ?_
  refine g_callv3 (st := []) 10 mw_X12_isPersonAt lk_RX12_345 rfl km_0 (ok_M_isPersonAt a1 s2) (Nat.le_of_ble_eq_true rfl) rfl rfl (Nat.le_of_ble_eq_true rfl) dX12_longest_12 ?_
  intro r3 s4
  refine g_ifne (tgt := 24) dX12_longest_15 (by decide) ?_ ?_
  · refine g_aload_n dX12_longest_18 rfl rfl ?_
    refine g_iconst dX12_longest_19 (by decide) ?_
    refine g_callv0 (st := []) 10 mw_X12_refuse lk_RX12_325 rfl km_0 (ok_M_refuse 2 s4) (Nat.le_of_ble_eq_true rfl) rfl rfl (Nat.le_of_ble_eq_true rfl) dX12_longest_20 ?_
    intro r5 s6
    exact g_iret dX12_longest_23
  · refine g_aload_n dX12_longest_24 rfl rfl ?_
    refine g_iload_n dX12_longest_25 rfl rfl ?_
    refine g_aload_n dX12_longest_26 rfl rfl ?_
    refine g_getr' (q := 5) fl_RX12_35 km_0 (by decide) rfl dX12_longest_27 ?_
    refine g_bipush dX12_longest_30 (by decide) ?_
    refine g_iload_n dX12_longest_32 rfl rfl ?_
    refine g_iadd dX12_longest_33 ?_
    refine g_iald km_5 dX12_longest_34 ?_
    intro x7
    refine g_callv0 (st := []) 10 mw_X12_longestOf lk_RX12_353 rfl km_0 (ok_M_longestOf a1 x7 s4) (Nat.le_of_ble_eq_true rfl) rfl rfl (Nat.le_of_ble_eq_true rfl) dX12_longest_35 ?_
    intro r8 s9
    refine g_istore_n (lv' := [some (.inr (.inr 0)), some (.inl a1), some (.inl r8)]) dX12_longest_38 rfl (Nat.le_of_ble_eq_true rfl) rfl ?_
    refine g_iload_n dX12_longest_39 rfl rfl ?_
    refine g_ifge (tgt := 52) dX12_longest_40 (by decide) ?_ ?_
    · refine g_aload_n dX12_longest_43 rfl rfl ?_
      refine g_bipush dX12_longest_44 (by decide) ?_
      refine g_callv0 (st := []) 10 mw_X12_refuse lk_RX12_325 rfl km_0 (ok_M_refuse 8 s9) (Nat.le_of_ble_eq_true rfl) rfl rfl (Nat.le_of_ble_eq_true rfl) dX12_longest_46 ?_
      intro r10 s11
      refine g_goto (tgt := 53) dX12_longest_49 (by decide) ?_
      exact g_iret dX12_longest_53
    · refine g_iload_n dX12_longest_52 rfl rfl ?_
      exact g_iret dX12_longest_53
theorem dX12_many_0 : decode cX12_many 0 = .ok (.aload_n 0, 1) := by decide +kernel
theorem dX12_many_1 : decode cX12_many 1 = .ok (.iconst 0, 1) := by decide +kernel
theorem dX12_many_2 : decode cX12_many 2 = .ok (.putfield 67, 3) := by decide +kernel
theorem dX12_many_5 : decode cX12_many 5 = .ok (.aload_n 0, 1) := by decide +kernel
theorem dX12_many_6 : decode cX12_many 6 = .ok (.iconst 0, 1) := by decide +kernel
theorem dX12_many_7 : decode cX12_many 7 = .ok (.putfield 70, 3) := by decide +kernel
theorem dX12_many_10 : decode cX12_many 10 = .ok (.iload_n 1, 1) := by decide +kernel
theorem dX12_many_11 : decode cX12_many 11 = .ok (.i2l, 1) := by decide +kernel
theorem dX12_many_12 : decode cX12_many 12 = .ok (.lconst 0, 1) := by decide +kernel
theorem dX12_many_13 : decode cX12_many 13 = .ok (.ldc2_w 323, 3) := by decide +kernel
theorem dX12_many_16 : decode cX12_many 16 = .ok (.invokestatic 102, 3) := by decide +kernel
theorem dX12_many_19 : decode cX12_many 19 = .ok (.ifCond .ne 9, 3) := by decide +kernel
theorem dX12_many_22 : decode cX12_many 22 = .ok (.aload_n 0, 1) := by decide +kernel
theorem dX12_many_23 : decode cX12_many 23 = .ok (.iconst 5, 1) := by decide +kernel
theorem dX12_many_24 : decode cX12_many 24 = .ok (.invokevirtual 325, 3) := by decide +kernel
theorem dX12_many_27 : decode cX12_many 27 = .ok (.ireturn, 1) := by decide +kernel
theorem dX12_many_28 : decode cX12_many 28 = .ok (.iload_n 1, 1) := by decide +kernel
theorem dX12_many_29 : decode cX12_many 29 = .ok (.bipush 7, 2) := by decide +kernel
theorem dX12_many_31 : decode cX12_many 31 = .ok (.if_icmp .ge 10, 3) := by decide +kernel
theorem dX12_many_34 : decode cX12_many 34 = .ok (.aload_n 0, 1) := by decide +kernel
theorem dX12_many_35 : decode cX12_many 35 = .ok (.getfield 35, 3) := by decide +kernel
theorem dX12_many_38 : decode cX12_many 38 = .ok (.iload_n 1, 1) := by decide +kernel
theorem dX12_many_39 : decode cX12_many 39 = .ok (.iaload, 1) := by decide +kernel
theorem dX12_many_40 : decode cX12_many 40 = .ok (.ireturn, 1) := by decide +kernel
theorem dX12_many_41 : decode cX12_many 41 = .ok (.iload_n 1, 1) := by decide +kernel
theorem dX12_many_42 : decode cX12_many 42 = .ok (.bipush 7, 2) := by decide +kernel
theorem dX12_many_44 : decode cX12_many 44 = .ok (.if_icmp .ne 10, 3) := by decide +kernel
theorem dX12_many_47 : decode cX12_many 47 = .ok (.aload_n 0, 1) := by decide +kernel
theorem dX12_many_48 : decode cX12_many 48 = .ok (.invokevirtual 328, 3) := by decide +kernel
theorem dX12_many_51 : decode cX12_many 51 = .ok (.goto 24, 3) := by decide +kernel
theorem dX12_many_54 : decode cX12_many 54 = .ok (.iload_n 1, 1) := by decide +kernel
theorem dX12_many_55 : decode cX12_many 55 = .ok (.bipush 10, 2) := by decide +kernel
theorem dX12_many_57 : decode cX12_many 57 = .ok (.if_icmp .ne 10, 3) := by decide +kernel
theorem dX12_many_60 : decode cX12_many 60 = .ok (.aload_n 0, 1) := by decide +kernel
theorem dX12_many_61 : decode cX12_many 61 = .ok (.invokevirtual 331, 3) := by decide +kernel
theorem dX12_many_64 : decode cX12_many 64 = .ok (.goto 11, 3) := by decide +kernel
theorem dX12_many_67 : decode cX12_many 67 = .ok (.aload_n 0, 1) := by decide +kernel
theorem dX12_many_68 : decode cX12_many 68 = .ok (.getfield 35, 3) := by decide +kernel
theorem dX12_many_71 : decode cX12_many 71 = .ok (.iload_n 1, 1) := by decide +kernel
theorem dX12_many_72 : decode cX12_many 72 = .ok (.iconst 1, 1) := by decide +kernel
theorem dX12_many_73 : decode cX12_many 73 = .ok (.isub, 1) := by decide +kernel
theorem dX12_many_74 : decode cX12_many 74 = .ok (.iaload, 1) := by decide +kernel
theorem dX12_many_75 : decode cX12_many 75 = .ok (.ireturn, 1) := by decide +kernel
theorem mw_X12_many : MW yX12_many cX12_many 2 0 1 false := ⟨tm 1979 (by decide +kernel) rfl, tm 249 (by decide +kernel) rfl, by decide, by decide, (by rw [if_neg (by decide)]; exact ⟨tm 1977 (by decide +kernel) rfl, tm 1978 (by decide +kernel) rfl⟩)⟩
theorem lk_RX12_328 : LK RX12 328 yX12_barbers := Or.inl (tm 1985 (by decide +kernel) rfl)
theorem lk_RX12_331 : LK RX12 331 yX12_allHair := Or.inl (tm 1989 (by decide +kernel) rfl)
def M_many (a1 : Int) (σ : Sg) : Rs := (nm (up_s σ 0 1 0) (fun s1 => (nm (up_s s1 0 0 0) (fun s2 => (bd (M_isIn a1 0 10 s2) (fun r3 s4 => (if r3 = 0 then (bd (M_refuse 5 s4) (fun r5 s6 => (some (r5, s6)))) else (if a1 < 7 then (rd 2235 a1 (s4 5 (Int.toNat a1)) (fun x7 => (some (x7, s4)))) else (if a1 = 7 then (bd (M_barbers s4) (fun r8 s9 => (some (r8, s9)))) else (if a1 = 10 then (bd (M_allHair s4) (fun r10 s11 => (some (r10, s11)))) else (rd 2235 (w32 (a1 - 1)) (s4 5 (Int.toNat (w32 (a1 - 1)))) (fun x12 => (some (x12, s4))))))))))))))
theorem ok_M_many (a1 : Int) (σ : Sg) : MC l Km Pm yX12_many cX12_many 2 0 5 [.inr (.inr 0), .inl a1] σ (M_many a1 σ) := by
  refine mc_of (by decide) (Nat.le_of_ble_eq_true rfl) ?_
  change G l Km Pm RX12 cX12_many 2 0 5 0 [some (.inr (.inr 0)), some (.inl a1)] [] σ (M_many a1 σ)
  unfold M_many
  refine g_aload_n dX12_many_0 rfl rfl ?_
  refine g_iconst dX12_many_1 (by decide) ?_
  refine g_puti fl_RX12_67 km_0 (by decide) dX12_many_2 ?_
  intro s1
  refine g_aload_n dX12_many_5 rfl rfl ?_
  refine g_iconst dX12_many_6 (by decide) ?_
  refine g_puti fl_RX12_70 km_0 (by decide) dX12_many_7 ?_
  intro s2
  refine g_iload_n dX12_many_10 rfl rfl ?_
  refine g_i2l dX12_many_11 ?_
  refine g_lconst (v := 0) dX12_many_12 (by decide) ?_
  refine g_ldc2 (n := 10) (tm 1980 (by decide +kernel) rfl) (by decide) dX12_many_13 ?_
  refine g_calls3 (st := []) mw_X12_isIn lk_RX12_102 (ok_M_isIn a1 0 10 s2) (Nat.le_of_ble_eq_true rfl) rfl rfl (Nat.le_of_ble_eq_true rfl) dX12_many_16 ?_
  intro r3 s4
  refine g_ifne (tgt := 28) dX12_many_19 (by decide) ?_ ?_
  · refine g_aload_n dX12_many_22 rfl rfl ?_
    refine g_iconst dX12_many_23 (by decide) ?_
    refine g_callv0 (st := []) 10 mw_X12_refuse lk_RX12_325 rfl km_0 (ok_M_refuse 5 s4) (Nat.le_of_ble_eq_true rfl) rfl rfl (Nat.le_of_ble_eq_true rfl) dX12_many_24 ?_
    intro r5 s6
    exact g_iret dX12_many_27
  · refine g_iload_n dX12_many_28 rfl rfl ?_
    refine g_bipush dX12_many_29 (by decide) ?_
    refine g_icmpge (tgt := 41) dX12_many_31 (by decide) ?_ ?_
    · refine g_aload_n dX12_many_34 rfl rfl ?_
      refine g_getr' (q := 5) fl_RX12_35 km_0 (by decide) rfl dX12_many_35 ?_
      refine g_iload_n dX12_many_38 rfl rfl ?_
      refine g_iald km_5 dX12_many_39 ?_
      intro x7
      exact g_iret dX12_many_40
    · refine g_iload_n dX12_many_41 rfl rfl ?_
      refine g_bipush dX12_many_42 (by decide) ?_
      refine g_icmpne (tgt := 54) dX12_many_44 (by decide) ?_ ?_
      · refine g_aload_n dX12_many_47 rfl rfl ?_
        refine g_callv0 (st := []) 10 mw_X12_barbers lk_RX12_328 rfl km_0 (ok_M_barbers s4) (Nat.le_of_ble_eq_true rfl) rfl rfl (Nat.le_of_ble_eq_true rfl) dX12_many_48 ?_
        intro r8 s9
        refine g_goto (tgt := 75) dX12_many_51 (by decide) ?_
        exact g_iret dX12_many_75
      · refine g_iload_n dX12_many_54 rfl rfl ?_
        refine g_bipush dX12_many_55 (by decide) ?_
        refine g_icmpne (tgt := 67) dX12_many_57 (by decide) ?_ ?_
        · refine g_aload_n dX12_many_60 rfl rfl ?_
          refine g_callv0 (st := []) 10 mw_X12_allHair lk_RX12_331 rfl km_0 (ok_M_allHair s4) (Nat.le_of_ble_eq_true rfl) rfl rfl (Nat.le_of_ble_eq_true rfl) dX12_many_61 ?_
          intro r10 s11
          refine g_goto (tgt := 75) dX12_many_64 (by decide) ?_
          exact g_iret dX12_many_75
        · refine g_aload_n dX12_many_67 rfl rfl ?_
          refine g_getr' (q := 5) fl_RX12_35 km_0 (by decide) rfl dX12_many_68 ?_
          refine g_iload_n dX12_many_71 rfl rfl ?_
          refine g_iconst dX12_many_72 (by decide) ?_
          refine g_isub dX12_many_73 ?_
          refine g_iald km_5 dX12_many_74 ?_
          intro x12
          exact g_iret dX12_many_75
theorem dX12_mark_0 : decode cX12_mark 0 = .ok (.aload_n 0, 1) := by decide +kernel
theorem dX12_mark_1 : decode cX12_mark 1 = .ok (.iconst 0, 1) := by decide +kernel
theorem dX12_mark_2 : decode cX12_mark 2 = .ok (.putfield 67, 3) := by decide +kernel
theorem dX12_mark_5 : decode cX12_mark 5 = .ok (.aload_n 0, 1) := by decide +kernel
theorem dX12_mark_6 : decode cX12_mark 6 = .ok (.iconst 0, 1) := by decide +kernel
theorem dX12_mark_7 : decode cX12_mark 7 = .ok (.putfield 70, 3) := by decide +kernel
theorem dX12_mark_10 : decode cX12_mark 10 = .ok (.aload_n 0, 1) := by decide +kernel
theorem dX12_mark_11 : decode cX12_mark 11 = .ok (.getfield 576, 3) := by decide +kernel
theorem dX12_mark_14 : decode cX12_mark 14 = .ok (.iconst 3, 1) := by decide +kernel
theorem dX12_mark_15 : decode cX12_mark 15 = .ok (.if_icmp .ne 10, 3) := by decide +kernel
theorem dX12_mark_18 : decode cX12_mark 18 = .ok (.aload_n 0, 1) := by decide +kernel
theorem dX12_mark_19 : decode cX12_mark 19 = .ok (.bipush 7, 2) := by decide +kernel
theorem dX12_mark_21 : decode cX12_mark 21 = .ok (.invokevirtual 325, 3) := by decide +kernel
theorem dX12_mark_24 : decode cX12_mark 24 = .ok (.ireturn, 1) := by decide +kernel
theorem dX12_mark_25 : decode cX12_mark 25 = .ok (.aload_n 0, 1) := by decide +kernel
theorem dX12_mark_26 : decode cX12_mark 26 = .ok (.dup, 1) := by decide +kernel
theorem dX12_mark_27 : decode cX12_mark 27 = .ok (.getfield 576, 3) := by decide +kernel
theorem dX12_mark_30 : decode cX12_mark 30 = .ok (.iconst 1, 1) := by decide +kernel
theorem dX12_mark_31 : decode cX12_mark 31 = .ok (.iadd, 1) := by decide +kernel
theorem dX12_mark_32 : decode cX12_mark 32 = .ok (.putfield 576, 3) := by decide +kernel
theorem dX12_mark_35 : decode cX12_mark 35 = .ok (.aload_n 0, 1) := by decide +kernel
theorem dX12_mark_36 : decode cX12_mark 36 = .ok (.iconst 0, 1) := by decide +kernel
theorem dX12_mark_37 : decode cX12_mark 37 = .ok (.aload_n 0, 1) := by decide +kernel
theorem dX12_mark_38 : decode cX12_mark 38 = .ok (.getfield 576, 3) := by decide +kernel
theorem dX12_mark_41 : decode cX12_mark 41 = .ok (.invokevirtual 302, 3) := by decide +kernel
theorem dX12_mark_44 : decode cX12_mark 44 = .ok (.aload_n 0, 1) := by decide +kernel
theorem dX12_mark_45 : decode cX12_mark 45 = .ok (.getfield 576, 3) := by decide +kernel
theorem dX12_mark_48 : decode cX12_mark 48 = .ok (.ireturn, 1) := by decide +kernel
theorem mw_X12_mark : MW yX12_mark cX12_mark 1 0 0 false := ⟨tm 2415 (by decide +kernel) rfl, tm 249 (by decide +kernel) rfl, by decide, by decide, (by rw [if_neg (by decide)]; exact ⟨tm 2413 (by decide +kernel) rfl, tm 2414 (by decide +kernel) rfl⟩)⟩
def M_mark  (σ : Sg) : Rs := (nm (up_s σ 0 1 0) (fun s1 => (nm (up_s s1 0 0 0) (fun s2 => (if (s2 0 24) = 3 then (bd (M_refuse 7 s2) (fun r3 s4 => (some (r3, s4)))) else (nm (up_s s2 0 24 (w32 ((s2 0 24) + 1))) (fun s5 => (bd (M_copy 0 (s5 0 24) s5) (fun r6 s7 => (some ((s7 0 24), s7)))))))))))
theorem ok_M_mark (σ : Sg) : MC l Km Pm yX12_mark cX12_mark 1 0 2 [.inr (.inr 0)] σ (M_mark σ) := by
  refine mc_of (by decide) (Nat.le_of_ble_eq_true rfl) ?_
  change G l Km Pm RX12 cX12_mark 1 0 2 0 [some (.inr (.inr 0))] [] σ (M_mark  σ)
  unfold M_mark
  refine g_aload_n dX12_mark_0 rfl rfl ?_
  refine g_iconst dX12_mark_1 (by decide) ?_
  refine g_puti fl_RX12_67 km_0 (by decide) dX12_mark_2 ?_
  intro s1
  refine g_aload_n dX12_mark_5 rfl rfl ?_
  refine g_iconst dX12_mark_6 (by decide) ?_
  refine g_puti fl_RX12_70 km_0 (by decide) dX12_mark_7 ?_
  intro s2
  refine g_aload_n dX12_mark_10 rfl rfl ?_
  refine g_geti fl_RX12_576 km_0 (by decide) dX12_mark_11 ?_
  refine g_iconst dX12_mark_14 (by decide) ?_
  refine g_icmpne (tgt := 25) dX12_mark_15 (by decide) ?_ ?_
  · refine g_aload_n dX12_mark_18 rfl rfl ?_
    refine g_bipush dX12_mark_19 (by decide) ?_
    refine g_callv0 (st := []) 10 mw_X12_refuse lk_RX12_325 rfl km_0 (ok_M_refuse 7 s2) (Nat.le_of_ble_eq_true rfl) rfl rfl (Nat.le_of_ble_eq_true rfl) dX12_mark_21 ?_
    intro r3 s4
    exact g_iret dX12_mark_24
  · refine g_aload_n dX12_mark_25 rfl rfl ?_
    refine g_dup dX12_mark_26 rfl ?_
    refine g_geti fl_RX12_576 km_0 (by decide) dX12_mark_27 ?_
    refine g_iconst dX12_mark_30 (by decide) ?_
    refine g_iadd dX12_mark_31 ?_
    refine g_puti fl_RX12_576 km_0 (by decide) dX12_mark_32 ?_
    intro s5
    refine g_aload_n dX12_mark_35 rfl rfl ?_
    refine g_iconst dX12_mark_36 (by decide) ?_
    refine g_aload_n dX12_mark_37 rfl rfl ?_
    refine g_geti fl_RX12_576 km_0 (by decide) dX12_mark_38 ?_
    refine g_callv2 (st := []) 10 mw_X12_copy lk_RX12_302 rfl km_0 (ok_M_copy 0 (s5 0 24) s5) (Nat.le_of_ble_eq_true rfl) rfl rfl (Nat.le_of_ble_eq_true rfl) dX12_mark_41 ?_
    intro r6 s7
    refine g_aload_n dX12_mark_44 rfl rfl ?_
    refine g_geti fl_RX12_576 km_0 (by decide) dX12_mark_45 ?_
    exact g_iret dX12_mark_48
theorem dX12_mean_0 : decode cX12_mean 0 = .ok (.aload_n 0, 1) := by decide +kernel
theorem dX12_mean_1 : decode cX12_mean 1 = .ok (.iconst 0, 1) := by decide +kernel
theorem dX12_mean_2 : decode cX12_mean 2 = .ok (.putfield 67, 3) := by decide +kernel
theorem dX12_mean_5 : decode cX12_mean 5 = .ok (.aload_n 0, 1) := by decide +kernel
theorem dX12_mean_6 : decode cX12_mean 6 = .ok (.iconst 0, 1) := by decide +kernel
theorem dX12_mean_7 : decode cX12_mean 7 = .ok (.putfield 70, 3) := by decide +kernel
theorem dX12_mean_10 : decode cX12_mean 10 = .ok (.iload_n 2, 1) := by decide +kernel
theorem dX12_mean_11 : decode cX12_mean 11 = .ok (.i2l, 1) := by decide +kernel
theorem dX12_mean_12 : decode cX12_mean 12 = .ok (.lconst 1, 1) := by decide +kernel
theorem dX12_mean_13 : decode cX12_mean 13 = .ok (.ldc2_w 434, 3) := by decide +kernel
theorem dX12_mean_16 : decode cX12_mean 16 = .ok (.invokestatic 102, 3) := by decide +kernel
theorem dX12_mean_19 : decode cX12_mean 19 = .ok (.ifCond .eq 18, 3) := by decide +kernel
theorem dX12_mean_22 : decode cX12_mean 22 = .ok (.iload_n 1, 1) := by decide +kernel
theorem dX12_mean_23 : decode cX12_mean 23 = .ok (.i2l, 1) := by decide +kernel
theorem dX12_mean_24 : decode cX12_mean 24 = .ok (.lconst 0, 1) := by decide +kernel
theorem dX12_mean_25 : decode cX12_mean 25 = .ok (.sipush 10000, 3) := by decide +kernel
theorem dX12_mean_28 : decode cX12_mean 28 = .ok (.iload_n 2, 1) := by decide +kernel
theorem dX12_mean_29 : decode cX12_mean 29 = .ok (.isub, 1) := by decide +kernel
theorem dX12_mean_30 : decode cX12_mean 30 = .ok (.i2l, 1) := by decide +kernel
theorem dX12_mean_31 : decode cX12_mean 31 = .ok (.invokestatic 102, 3) := by decide +kernel
theorem dX12_mean_34 : decode cX12_mean 34 = .ok (.ifCond .ne 9, 3) := by decide +kernel
theorem dX12_mean_37 : decode cX12_mean 37 = .ok (.aload_n 0, 1) := by decide +kernel
theorem dX12_mean_38 : decode cX12_mean 38 = .ok (.iconst 5, 1) := by decide +kernel
theorem dX12_mean_39 : decode cX12_mean 39 = .ok (.invokevirtual 82, 3) := by decide +kernel
theorem dX12_mean_42 : decode cX12_mean 42 = .ok (.ireturn, 1) := by decide +kernel
theorem dX12_mean_43 : decode cX12_mean 43 = .ok (.aload_n 0, 1) := by decide +kernel
theorem dX12_mean_44 : decode cX12_mean 44 = .ok (.getfield 35, 3) := by decide +kernel
theorem dX12_mean_47 : decode cX12_mean 47 = .ok (.sipush 175, 3) := by decide +kernel
theorem dX12_mean_50 : decode cX12_mean 50 = .ok (.iaload, 1) := by decide +kernel
theorem dX12_mean_51 : decode cX12_mean 51 = .ok (.ifCond .ne 10, 3) := by decide +kernel
theorem dX12_mean_54 : decode cX12_mean 54 = .ok (.aload_n 0, 1) := by decide +kernel
theorem dX12_mean_55 : decode cX12_mean 55 = .ok (.bipush 8, 2) := by decide +kernel
theorem dX12_mean_57 : decode cX12_mean 57 = .ok (.invokevirtual 82, 3) := by decide +kernel
theorem dX12_mean_60 : decode cX12_mean 60 = .ok (.ireturn, 1) := by decide +kernel
theorem dX12_mean_61 : decode cX12_mean 61 = .ok (.iconst 0, 1) := by decide +kernel
theorem dX12_mean_62 : decode cX12_mean 62 = .ok (.istore_n 3, 1) := by decide +kernel
theorem dX12_mean_63 : decode cX12_mean 63 = .ok (.iload_n 3, 1) := by decide +kernel
theorem dX12_mean_64 : decode cX12_mean 64 = .ok (.sipush 175, 3) := by decide +kernel
theorem dX12_mean_67 : decode cX12_mean 67 = .ok (.if_icmp .ge 21, 3) := by decide +kernel
theorem dX12_mean_70 : decode cX12_mean 70 = .ok (.aload_n 0, 1) := by decide +kernel
theorem dX12_mean_71 : decode cX12_mean 71 = .ok (.getfield 41, 3) := by decide +kernel
theorem dX12_mean_74 : decode cX12_mean 74 = .ok (.iload_n 3, 1) := by decide +kernel
theorem dX12_mean_75 : decode cX12_mean 75 = .ok (.aload_n 0, 1) := by decide +kernel
theorem dX12_mean_76 : decode cX12_mean 76 = .ok (.getfield 35, 3) := by decide +kernel
theorem dX12_mean_79 : decode cX12_mean 79 = .ok (.iload_n 3, 1) := by decide +kernel
theorem dX12_mean_80 : decode cX12_mean 80 = .ok (.iaload, 1) := by decide +kernel
theorem dX12_mean_81 : decode cX12_mean 81 = .ok (.iastore, 1) := by decide +kernel
theorem dX12_mean_82 : decode cX12_mean 82 = .ok (.iinc 3 1, 3) := by decide +kernel
theorem dX12_mean_85 : decode cX12_mean 85 = .ok (.goto (-22), 3) := by decide +kernel
theorem dX12_mean_88 : decode cX12_mean 88 = .ok (.lconst 0, 1) := by decide +kernel
theorem dX12_mean_89 : decode cX12_mean 89 = .ok (.lstore_n 3, 1) := by decide +kernel
theorem dX12_mean_90 : decode cX12_mean 90 = .ok (.iconst 0, 1) := by decide +kernel
theorem dX12_mean_91 : decode cX12_mean 91 = .ok (.istore 5, 2) := by decide +kernel
theorem dX12_mean_93 : decode cX12_mean 93 = .ok (.iload 5, 2) := by decide +kernel
theorem dX12_mean_95 : decode cX12_mean 95 = .ok (.iload_n 2, 1) := by decide +kernel
theorem dX12_mean_96 : decode cX12_mean 96 = .ok (.if_icmp .ge 56, 3) := by decide +kernel
theorem dX12_mean_99 : decode cX12_mean 99 = .ok (.aload_n 0, 1) := by decide +kernel
theorem dX12_mean_100 : decode cX12_mean 100 = .ok (.iload_n 1, 1) := by decide +kernel
theorem dX12_mean_101 : decode cX12_mean 101 = .ok (.iload 5, 2) := by decide +kernel
theorem dX12_mean_103 : decode cX12_mean 103 = .ok (.iadd, 1) := by decide +kernel
theorem dX12_mean_104 : decode cX12_mean 104 = .ok (.invokevirtual 570, 3) := by decide +kernel
theorem dX12_mean_107 : decode cX12_mean 107 = .ok (.lload_n 3, 1) := by decide +kernel
theorem dX12_mean_108 : decode cX12_mean 108 = .ok (.aload_n 0, 1) := by decide +kernel
theorem dX12_mean_109 : decode cX12_mean 109 = .ok (.invokevirtual 331, 3) := by decide +kernel
theorem dX12_mean_112 : decode cX12_mean 112 = .ok (.i2l, 1) := by decide +kernel
theorem dX12_mean_113 : decode cX12_mean 113 = .ok (.ladd, 1) := by decide +kernel
theorem dX12_mean_114 : decode cX12_mean 114 = .ok (.lstore_n 3, 1) := by decide +kernel
theorem dX12_mean_115 : decode cX12_mean 115 = .ok (.iconst 0, 1) := by decide +kernel
theorem dX12_mean_116 : decode cX12_mean 116 = .ok (.istore 6, 2) := by decide +kernel
theorem dX12_mean_118 : decode cX12_mean 118 = .ok (.iload 6, 2) := by decide +kernel
theorem dX12_mean_120 : decode cX12_mean 120 = .ok (.sipush 175, 3) := by decide +kernel
theorem dX12_mean_123 : decode cX12_mean 123 = .ok (.if_icmp .ge 23, 3) := by decide +kernel
theorem dX12_mean_126 : decode cX12_mean 126 = .ok (.aload_n 0, 1) := by decide +kernel
theorem dX12_mean_127 : decode cX12_mean 127 = .ok (.getfield 35, 3) := by decide +kernel
theorem dX12_mean_130 : decode cX12_mean 130 = .ok (.iload 6, 2) := by decide +kernel
theorem dX12_mean_132 : decode cX12_mean 132 = .ok (.aload_n 0, 1) := by decide +kernel
theorem dX12_mean_133 : decode cX12_mean 133 = .ok (.getfield 41, 3) := by decide +kernel
theorem dX12_mean_136 : decode cX12_mean 136 = .ok (.iload 6, 2) := by decide +kernel
theorem dX12_mean_138 : decode cX12_mean 138 = .ok (.iaload, 1) := by decide +kernel
theorem dX12_mean_139 : decode cX12_mean 139 = .ok (.iastore, 1) := by decide +kernel
theorem dX12_mean_140 : decode cX12_mean 140 = .ok (.iinc 6 1, 3) := by decide +kernel
theorem dX12_mean_143 : decode cX12_mean 143 = .ok (.goto (-25), 3) := by decide +kernel
theorem dX12_mean_146 : decode cX12_mean 146 = .ok (.iinc 5 1, 3) := by decide +kernel
theorem dX12_mean_149 : decode cX12_mean 149 = .ok (.goto (-56), 3) := by decide +kernel
theorem dX12_mean_152 : decode cX12_mean 152 = .ok (.aload_n 0, 1) := by decide +kernel
theorem dX12_mean_153 : decode cX12_mean 153 = .ok (.lload_n 3, 1) := by decide +kernel
theorem dX12_mean_154 : decode cX12_mean 154 = .ok (.iload_n 2, 1) := by decide +kernel
theorem dX12_mean_155 : decode cX12_mean 155 = .ok (.i2l, 1) := by decide +kernel
theorem dX12_mean_156 : decode cX12_mean 156 = .ok (.invokevirtual 513, 3) := by decide +kernel
theorem dX12_mean_159 : decode cX12_mean 159 = .ok (.ireturn, 1) := by decide +kernel
theorem mw_X12_mean : MW yX12_mean cX12_mean 7 3 2 false := ⟨tm 2411 (by decide +kernel) rfl, tm 249 (by decide +kernel) rfl, by decide, by decide, (by rw [if_neg (by decide)]; exact ⟨tm 2409 (by decide +kernel) rfl, tm 2410 (by decide +kernel) rfl⟩)⟩
theorem lk_RX12_513 : LK RX12 513 yX12_fraction := Or.inl (tm 2348 (by decide +kernel) rfl)
theorem fl_RX12_41 : FL RX12 41 10 22 := ⟨_, _, _, _, cw_10, by decide, Or.inr (Or.inr (Or.inr (by decide))), Or.inl (by decide), Or.inl (tm 1590 (by decide +kernel) rfl)⟩
def M_mean_L63 (a1 : Int) (a2 : Int) (k93 : Int → Int → Sg → Rs) : Nat → Int → Sg → Rs
  | 0, _, _ => none
  | n + 1, v3, σ => (if v3 < 175 then (rd 2235 v3 (σ 5 (Int.toNat v3)) (fun x14 => (wr 175 v3 (up_s σ 7 (Int.toNat v3) x14) (fun s15 => (nm (w32 (v3 + 1)) (fun x16 => (M_mean_L63 a1 a2 k93 n x16 s15))))))) else (k93 0 0 σ))
theorem ok_M_mean_L63 (a1 : Int) (a2 : Int) (k93 : Int → Int → Sg → Rs) (hk93 : ∀ (y3 y5 : Int) (σ : Sg), G l Km Pm RX12 cX12_mean 7 3 52 93 [some (.inr (.inr 0)), some (.inl a1), some (.inl a2), some (.inr (.inl y3)), none, some (.inl y5), none] [] σ (k93 y3 y5 σ)) : ∀ (n : Nat) (v3 : Int) (σ : Sg), G l Km Pm RX12 cX12_mean 7 3 52 63 [some (.inr (.inr 0)), some (.inl a1), some (.inl a2), some (.inl v3), none, none, none] [] σ (M_mean_L63 a1 a2 k93 n v3 σ) := by
  intro n
  induction n with
  | zero => intros; exact G.none_
  | succ n ih =>
    intro v3 σ
    rw [M_mean_L63]
    refine g_iload_n dX12_mean_63 rfl rfl ?_
    refine g_sipush dX12_mean_64 (by decide) ?_
    refine g_icmpge (tgt := 88) dX12_mean_67 (by decide) ?_ ?_
    · refine g_aload_n dX12_mean_70 rfl rfl ?_
      refine g_getr' (q := 7) fl_RX12_41 km_0 (by decide) rfl dX12_mean_71 ?_
      refine g_iload_n dX12_mean_74 rfl rfl ?_
      refine g_aload_n dX12_mean_75 rfl rfl ?_
      refine g_getr' (q := 5) fl_RX12_35 km_0 (by decide) rfl dX12_mean_76 ?_
      refine g_iload_n dX12_mean_79 rfl rfl ?_
      refine g_iald km_5 dX12_mean_80 ?_
      intro x14
      refine g_iast km_7 dX12_mean_81 ?_
      intro s15
      refine n_iinc (fun x16 => [some (.inr (.inr 0)), some (.inl a1), some (.inl a2), some (.inl x16), none, none, none]) dX12_mean_82 rfl (Nat.le_of_ble_eq_true rfl) (fun _ => rfl) ?_
      intro x16
      refine g_goto (tgt := 63) dX12_mean_85 (by decide) ?_
      exact (ih x16 s15)
    · refine g_lconst (v := 0) dX12_mean_88 (by decide) ?_
      refine g_lstore_n (lv' := [some (.inr (.inr 0)), some (.inl a1), some (.inl a2), some (.inr (.inl 0)), none, none, none]) dX12_mean_89 rfl (Nat.le_of_ble_eq_true rfl) rfl ?_
      refine g_iconst dX12_mean_90 (by decide) ?_
      refine g_istore (lv' := [some (.inr (.inr 0)), some (.inl a1), some (.inl a2), some (.inr (.inl 0)), none, some (.inl 0), none]) dX12_mean_91 (Nat.le_of_ble_eq_true rfl) rfl ?_
      exact (hk93 0 0 σ)
def M_mean_L118 (a1 : Int) (a2 : Int) (v3 : Int) (v5 : Int) (k93 : Int → Int → Sg → Rs) : Nat → Int → Sg → Rs
  | 0, _, _ => none
  | n + 1, v6, σ => (if v6 < 175 then (rd 175 v6 (σ 7 (Int.toNat v6)) (fun x25 => (wr 2235 v6 (up_s σ 5 (Int.toNat v6) x25) (fun s26 => (nm (w32 (v6 + 1)) (fun x27 => (M_mean_L118 a1 a2 v3 v5 k93 n x27 s26))))))) else (nm (w32 (v5 + 1)) (fun x28 => (k93 v3 x28 σ))))
theorem ok_M_mean_L118 (a1 : Int) (a2 : Int) (v3 : Int) (v5 : Int) (k93 : Int → Int → Sg → Rs) (hk93 : ∀ (y3 y5 : Int) (σ : Sg), G l Km Pm RX12 cX12_mean 7 3 52 93 [some (.inr (.inr 0)), some (.inl a1), some (.inl a2), some (.inr (.inl y3)), none, some (.inl y5), none] [] σ (k93 y3 y5 σ)) : ∀ (n : Nat) (v6 : Int) (σ : Sg), G l Km Pm RX12 cX12_mean 7 3 52 118 [some (.inr (.inr 0)), some (.inl a1), some (.inl a2), some (.inr (.inl v3)), none, some (.inl v5), some (.inl v6)] [] σ (M_mean_L118 a1 a2 v3 v5 k93 n v6 σ) := by
  intro n
  induction n with
  | zero => intros; exact G.none_
  | succ n ih =>
    intro v6 σ
    rw [M_mean_L118]
    refine g_iload dX12_mean_118 rfl ?_
    refine g_sipush dX12_mean_120 (by decide) ?_
    refine g_icmpge (tgt := 146) dX12_mean_123 (by decide) ?_ ?_
    · refine g_aload_n dX12_mean_126 rfl rfl ?_
      refine g_getr' (q := 5) fl_RX12_35 km_0 (by decide) rfl dX12_mean_127 ?_
      refine g_iload dX12_mean_130 rfl ?_
      refine g_aload_n dX12_mean_132 rfl rfl ?_
      refine g_getr' (q := 7) fl_RX12_41 km_0 (by decide) rfl dX12_mean_133 ?_
      refine g_iload dX12_mean_136 rfl ?_
      refine g_iald km_7 dX12_mean_138 ?_
      intro x25
      refine g_iast km_5 dX12_mean_139 ?_
      intro s26
      refine n_iinc (fun x27 => [some (.inr (.inr 0)), some (.inl a1), some (.inl a2), some (.inr (.inl v3)), none, some (.inl v5), some (.inl x27)]) dX12_mean_140 rfl (Nat.le_of_ble_eq_true rfl) (fun _ => rfl) ?_
      intro x27
      refine g_goto (tgt := 118) dX12_mean_143 (by decide) ?_
      exact (ih x27 s26)
    · refine n_iinc (fun x28 => [some (.inr (.inr 0)), some (.inl a1), some (.inl a2), some (.inr (.inl v3)), none, some (.inl x28), some (.inl v6)]) dX12_mean_146 rfl (Nat.le_of_ble_eq_true rfl) (fun _ => rfl) ?_
      intro x28
      refine g_goto (tgt := 93) dX12_mean_149 (by decide) ?_
      exact (g_weak [true, true, true, true, false, true, false] (hk93 v3 x28 σ))
def M_mean_L93 (a1 : Int) (a2 : Int) : Nat → Int → Int → Sg → Rs
  | 0, _, _, _ => none
  | n + 1, v3, v5, σ => (if v5 < a2 then (bd (M_runsYears (w32 (a1 + v5)) σ) (fun r20 s21 => (bd (M_allHair s21) (fun r22 s23 => (nm (w64 (v3 + r22)) (fun x24 => (M_mean_L118 a1 a2 x24 v5 (fun x29 x30 s31 => (M_mean_L93 a1 a2 n x29 x30 s31)) fu 0 s23))))))) else (bd (M_fraction v3 a2 σ) (fun r32 s33 => (zb r32 (some (r32, s33))))))
theorem ok_M_mean_L93 (a1 : Int) (a2 : Int) : ∀ (n : Nat) (v3 v5 : Int) (σ : Sg), G l Km Pm RX12 cX12_mean 7 3 52 93 [some (.inr (.inr 0)), some (.inl a1), some (.inl a2), some (.inr (.inl v3)), none, some (.inl v5), none] [] σ (M_mean_L93 a1 a2 n v3 v5 σ) := by
  intro n
  induction n with
  | zero => intros; exact G.none_
  | succ n ih =>
    intro v3 v5 σ
    rw [M_mean_L93]
    refine g_iload dX12_mean_93 rfl ?_
    refine g_iload_n dX12_mean_95 rfl rfl ?_
    refine g_icmpge (tgt := 152) dX12_mean_96 (by decide) ?_ ?_
    · refine g_aload_n dX12_mean_99 rfl rfl ?_
      refine g_iload_n dX12_mean_100 rfl rfl ?_
      refine g_iload dX12_mean_101 rfl ?_
      refine g_iadd dX12_mean_103 ?_
      refine g_callv2 (st := []) 10 mw_X12_runsYears lk_RX12_570 rfl km_0 (ok_M_runsYears (w32 (a1 + v5)) σ) (Nat.le_of_ble_eq_true rfl) rfl rfl (Nat.le_of_ble_eq_true rfl) dX12_mean_104 ?_
      intro r20 s21
      refine g_lload_n dX12_mean_107 rfl rfl ?_
      refine g_aload_n dX12_mean_108 rfl rfl ?_
      refine g_callv0 (st := [.inr (.inl v3)]) 10 mw_X12_allHair lk_RX12_331 rfl km_0 (ok_M_allHair s21) (Nat.le_of_ble_eq_true rfl) rfl rfl (Nat.le_of_ble_eq_true rfl) dX12_mean_109 ?_
      intro r22 s23
      refine g_i2l dX12_mean_112 ?_
      refine g_ladd dX12_mean_113 ?_
      refine n_lstore_n (fun x24 => [some (.inr (.inr 0)), some (.inl a1), some (.inl a2), some (.inr (.inl x24)), none, some (.inl v5), none]) dX12_mean_114 rfl (Nat.le_of_ble_eq_true rfl) (fun _ => rfl) ?_
      intro x24
      refine g_iconst dX12_mean_115 (by decide) ?_
      refine g_istore (lv' := [some (.inr (.inr 0)), some (.inl a1), some (.inl a2), some (.inr (.inl x24)), none, some (.inl v5), some (.inl 0)]) dX12_mean_116 (Nat.le_of_ble_eq_true rfl) rfl ?_
      refine (ok_M_mean_L118 a1 a2 x24 v5 _ ?_ fu 0 s23)
      · intro x29 x30 s31
        exact (ih x29 x30 s31)
    · refine g_aload_n dX12_mean_152 rfl rfl ?_
      refine g_lload_n dX12_mean_153 rfl rfl ?_
      refine g_iload_n dX12_mean_154 rfl rfl ?_
      refine g_i2l dX12_mean_155 ?_
      refine g_callv3 (st := []) 10 mw_X12_fraction lk_RX12_513 rfl km_0 (ok_M_fraction v3 a2 σ) (Nat.le_of_ble_eq_true rfl) rfl rfl (Nat.le_of_ble_eq_true rfl) dX12_mean_156 ?_
      intro r32 s33
      exact g_zret dX12_mean_159
def M_mean (a1 : Int) (a2 : Int) (σ : Sg) : Rs := (nm (up_s σ 0 1 0) (fun s1 => (nm (up_s s1 0 0 0) (fun s2 => (bd (M_isIn a2 1 20 s2) (fun r3 s4 => (if r3 = 0 then (bd (M_no 5 s4) (fun r5 s6 => (zb r5 (some (r5, s6))))) else (bd (M_isIn a1 0 (w32 (10000 - a2)) s4) (fun r7 s8 => (if r7 = 0 then (bd (M_no 5 s8) (fun r9 s10 => (zb r9 (some (r9, s10))))) else (rd 2235 175 (s8 5 (Int.toNat 175)) (fun x11 => (if x11 = 0 then (bd (M_no 8 s8) (fun r12 s13 => (zb r12 (some (r12, s13))))) else (M_mean_L63 a1 a2 (fun x17 x18 s19 => (M_mean_L93 a1 a2 fu x17 x18 s19)) fu 0 s8))))))))))))))
theorem ok_M_mean (a1 : Int) (a2 : Int) (σ : Sg) : MC l Km Pm yX12_mean cX12_mean 7 3 52 [.inr (.inr 0), .inl a1, .inl a2] σ (M_mean a1 a2 σ) := by
  refine mc_of (by decide) (Nat.le_of_ble_eq_true rfl) ?_
  change G l Km Pm RX12 cX12_mean 7 3 52 0 [some (.inr (.inr 0)), some (.inl a1), some (.inl a2), none, none, none, none] [] σ (M_mean a1 a2 σ)
  unfold M_mean
  refine g_aload_n dX12_mean_0 rfl rfl ?_
  refine g_iconst dX12_mean_1 (by decide) ?_
  refine g_puti fl_RX12_67 km_0 (by decide) dX12_mean_2 ?_
  intro s1
  refine g_aload_n dX12_mean_5 rfl rfl ?_
  refine g_iconst dX12_mean_6 (by decide) ?_
  refine g_puti fl_RX12_70 km_0 (by decide) dX12_mean_7 ?_
  intro s2
  refine g_iload_n dX12_mean_10 rfl rfl ?_
  refine g_i2l dX12_mean_11 ?_
  refine g_lconst (v := 1) dX12_mean_12 (by decide) ?_
  refine g_ldc2 (n := 20) (tm 2214 (by decide +kernel) rfl) (by decide) dX12_mean_13 ?_
  refine g_calls3 (st := []) mw_X12_isIn lk_RX12_102 (ok_M_isIn a2 1 20 s2) (Nat.le_of_ble_eq_true rfl) rfl rfl (Nat.le_of_ble_eq_true rfl) dX12_mean_16 ?_
  intro r3 s4
  refine g_ifeq (tgt := 37) dX12_mean_19 (by decide) ?_ ?_
  · refine g_aload_n dX12_mean_37 rfl rfl ?_
    refine g_iconst dX12_mean_38 (by decide) ?_
    refine g_callv3 (st := []) 10 mw_X12_no lk_RX12_82 rfl km_0 (ok_M_no 5 s4) (Nat.le_of_ble_eq_true rfl) rfl rfl (Nat.le_of_ble_eq_true rfl) dX12_mean_39 ?_
    intro r5 s6
    exact g_zret dX12_mean_42
  · refine g_iload_n dX12_mean_22 rfl rfl ?_
    refine g_i2l dX12_mean_23 ?_
    refine g_lconst (v := 0) dX12_mean_24 (by decide) ?_
    refine g_sipush dX12_mean_25 (by decide) ?_
    refine g_iload_n dX12_mean_28 rfl rfl ?_
    refine g_isub dX12_mean_29 ?_
    refine g_i2l dX12_mean_30 ?_
    refine g_calls3 (st := []) mw_X12_isIn lk_RX12_102 (ok_M_isIn a1 0 (w32 (10000 - a2)) s4) (Nat.le_of_ble_eq_true rfl) rfl rfl (Nat.le_of_ble_eq_true rfl) dX12_mean_31 ?_
    intro r7 s8
    refine g_ifne (tgt := 43) dX12_mean_34 (by decide) ?_ ?_
    · refine g_aload_n dX12_mean_37 rfl rfl ?_
      refine g_iconst dX12_mean_38 (by decide) ?_
      refine g_callv3 (st := []) 10 mw_X12_no lk_RX12_82 rfl km_0 (ok_M_no 5 s8) (Nat.le_of_ble_eq_true rfl) rfl rfl (Nat.le_of_ble_eq_true rfl) dX12_mean_39 ?_
      intro r9 s10
      exact g_zret dX12_mean_42
    · refine g_aload_n dX12_mean_43 rfl rfl ?_
      refine g_getr' (q := 5) fl_RX12_35 km_0 (by decide) rfl dX12_mean_44 ?_
      refine g_sipush dX12_mean_47 (by decide) ?_
      refine g_iald km_5 dX12_mean_50 ?_
      intro x11
      refine g_ifne (tgt := 61) dX12_mean_51 (by decide) ?_ ?_
      · refine g_aload_n dX12_mean_54 rfl rfl ?_
        refine g_bipush dX12_mean_55 (by decide) ?_
        refine g_callv3 (st := []) 10 mw_X12_no lk_RX12_82 rfl km_0 (ok_M_no 8 s8) (Nat.le_of_ble_eq_true rfl) rfl rfl (Nat.le_of_ble_eq_true rfl) dX12_mean_57 ?_
        intro r12 s13
        exact g_zret dX12_mean_60
      · refine g_iconst dX12_mean_61 (by decide) ?_
        refine g_istore_n (lv' := [some (.inr (.inr 0)), some (.inl a1), some (.inl a2), some (.inl 0), none, none, none]) dX12_mean_62 rfl (Nat.le_of_ble_eq_true rfl) rfl ?_
        refine (ok_M_mean_L63 a1 a2 _ ?_ fu 0 s8)
        · intro x17 x18 s19
          refine (ok_M_mean_L93 a1 a2 fu x17 x18 s19)
theorem dX12_moveOf_0 : decode cX12_moveOf 0 = .ok (.aload_n 0, 1) := by decide +kernel
theorem dX12_moveOf_1 : decode cX12_moveOf 1 = .ok (.iconst 0, 1) := by decide +kernel
theorem dX12_moveOf_2 : decode cX12_moveOf 2 = .ok (.putfield 67, 3) := by decide +kernel
theorem dX12_moveOf_5 : decode cX12_moveOf 5 = .ok (.aload_n 0, 1) := by decide +kernel
theorem dX12_moveOf_6 : decode cX12_moveOf 6 = .ok (.aload_n 0, 1) := by decide +kernel
theorem dX12_moveOf_7 : decode cX12_moveOf 7 = .ok (.iload_n 1, 1) := by decide +kernel
theorem dX12_moveOf_8 : decode cX12_moveOf 8 = .ok (.iload_n 2, 1) := by decide +kernel
theorem dX12_moveOf_9 : decode cX12_moveOf 9 = .ok (.iload_n 3, 1) := by decide +kernel
theorem dX12_moveOf_10 : decode cX12_moveOf 10 = .ok (.iconst 1, 1) := by decide +kernel
theorem dX12_moveOf_11 : decode cX12_moveOf 11 = .ok (.invokevirtual 507, 3) := by decide +kernel
theorem dX12_moveOf_14 : decode cX12_moveOf 14 = .ok (.putfield 70, 3) := by decide +kernel
theorem dX12_moveOf_17 : decode cX12_moveOf 17 = .ok (.aload_n 0, 1) := by decide +kernel
theorem dX12_moveOf_18 : decode cX12_moveOf 18 = .ok (.getfield 70, 3) := by decide +kernel
theorem dX12_moveOf_21 : decode cX12_moveOf 21 = .ok (.ifCond .le 5, 3) := by decide +kernel
theorem dX12_moveOf_24 : decode cX12_moveOf 24 = .ok (.iconst (-1), 1) := by decide +kernel
theorem dX12_moveOf_25 : decode cX12_moveOf 25 = .ok (.ireturn, 1) := by decide +kernel
theorem dX12_moveOf_26 : decode cX12_moveOf 26 = .ok (.aload_n 0, 1) := by decide +kernel
theorem dX12_moveOf_27 : decode cX12_moveOf 27 = .ok (.iload_n 1, 1) := by decide +kernel
theorem dX12_moveOf_28 : decode cX12_moveOf 28 = .ok (.iload_n 2, 1) := by decide +kernel
theorem dX12_moveOf_29 : decode cX12_moveOf 29 = .ok (.iconst 0, 1) := by decide +kernel
theorem dX12_moveOf_30 : decode cX12_moveOf 30 = .ok (.iload_n 3, 1) := by decide +kernel
theorem dX12_moveOf_31 : decode cX12_moveOf 31 = .ok (.invokevirtual 497, 3) := by decide +kernel
theorem dX12_moveOf_34 : decode cX12_moveOf 34 = .ok (.pop, 1) := by decide +kernel
theorem dX12_moveOf_35 : decode cX12_moveOf 35 = .ok (.aload_n 0, 1) := by decide +kernel
theorem dX12_moveOf_36 : decode cX12_moveOf 36 = .ok (.getfield 504, 3) := by decide +kernel
theorem dX12_moveOf_39 : decode cX12_moveOf 39 = .ok (.aload_n 0, 1) := by decide +kernel
theorem dX12_moveOf_40 : decode cX12_moveOf 40 = .ok (.getfield 35, 3) := by decide +kernel
theorem dX12_moveOf_43 : decode cX12_moveOf 43 = .ok (.iconst 0, 1) := by decide +kernel
theorem dX12_moveOf_44 : decode cX12_moveOf 44 = .ok (.iaload, 1) := by decide +kernel
theorem dX12_moveOf_45 : decode cX12_moveOf 45 = .ok (.if_icmp .ne 12, 3) := by decide +kernel
theorem dX12_moveOf_48 : decode cX12_moveOf 48 = .ok (.aload_n 0, 1) := by decide +kernel
theorem dX12_moveOf_49 : decode cX12_moveOf 49 = .ok (.bipush 8, 2) := by decide +kernel
theorem dX12_moveOf_51 : decode cX12_moveOf 51 = .ok (.invokevirtual 325, 3) := by decide +kernel
theorem dX12_moveOf_54 : decode cX12_moveOf 54 = .ok (.goto 7, 3) := by decide +kernel
theorem dX12_moveOf_57 : decode cX12_moveOf 57 = .ok (.aload_n 0, 1) := by decide +kernel
theorem dX12_moveOf_58 : decode cX12_moveOf 58 = .ok (.getfield 504, 3) := by decide +kernel
theorem dX12_moveOf_61 : decode cX12_moveOf 61 = .ok (.ireturn, 1) := by decide +kernel
theorem mw_X12_moveOf : MW yX12_moveOf cX12_moveOf 4 0 3 false := ⟨tm 2339 (by decide +kernel) rfl, tm 249 (by decide +kernel) rfl, by decide, by decide, (by rw [if_neg (by decide)]; exact ⟨tm 2337 (by decide +kernel) rfl, tm 2338 (by decide +kernel) rfl⟩)⟩
def M_moveOf (a1 : Int) (a2 : Int) (a3 : Int) (σ : Sg) : Rs := (nm (up_s σ 0 1 0) (fun s1 => (bd (M_whyNoGame a1 a2 a3 1 s1) (fun r2 s3 => (nm (up_s s3 0 0 r2) (fun s4 => (if 0 < (s4 0 0) then (some ((-1), s4)) else (bd (M_plays 20 a1 a2 0 a3 s4) (fun r5 s6 => (rd 2235 0 (s6 5 (Int.toNat 0)) (fun x7 => (if (s6 0 33) = x7 then (bd (M_refuse 8 s6) (fun r8 s9 => (some (r8, s9)))) else (some ((s6 0 33), s6))))))))))))))
theorem ok_M_moveOf (a1 : Int) (a2 : Int) (a3 : Int) (σ : Sg) : MC l Km Pm yX12_moveOf cX12_moveOf 4 0 25 [.inr (.inr 0), .inl a1, .inl a2, .inl a3] σ (M_moveOf a1 a2 a3 σ) := by
  refine mc_of (by decide) (Nat.le_of_ble_eq_true rfl) ?_
  change G l Km Pm RX12 cX12_moveOf 4 0 25 0 [some (.inr (.inr 0)), some (.inl a1), some (.inl a2), some (.inl a3)] [] σ (M_moveOf a1 a2 a3 σ)
  unfold M_moveOf
  refine g_aload_n dX12_moveOf_0 rfl rfl ?_
  refine g_iconst dX12_moveOf_1 (by decide) ?_
  refine g_puti fl_RX12_67 km_0 (by decide) dX12_moveOf_2 ?_
  intro s1
  refine g_aload_n dX12_moveOf_5 rfl rfl ?_
  refine g_aload_n dX12_moveOf_6 rfl rfl ?_
  refine g_iload_n dX12_moveOf_7 rfl rfl ?_
  refine g_iload_n dX12_moveOf_8 rfl rfl ?_
  refine g_iload_n dX12_moveOf_9 rfl rfl ?_
  refine g_iconst dX12_moveOf_10 (by decide) ?_
  refine g_callv0 (st := [.inr (.inr 0)]) 10 mw_X12_whyNoGame lk_RX12_507 rfl km_0 (ok_M_whyNoGame a1 a2 a3 1 s1) (Nat.le_of_ble_eq_true rfl) rfl rfl (Nat.le_of_ble_eq_true rfl) dX12_moveOf_11 ?_
  intro r2 s3
  refine g_puti fl_RX12_70 km_0 (by decide) dX12_moveOf_14 ?_
  intro s4
  refine g_aload_n dX12_moveOf_17 rfl rfl ?_
  refine g_geti fl_RX12_70 km_0 (by decide) dX12_moveOf_18 ?_
  refine g_ifle (tgt := 26) dX12_moveOf_21 (by decide) ?_ ?_
  · refine g_iconst dX12_moveOf_24 (by decide) ?_
    exact g_iret dX12_moveOf_25
  · refine g_aload_n dX12_moveOf_26 rfl rfl ?_
    refine g_iload_n dX12_moveOf_27 rfl rfl ?_
    refine g_iload_n dX12_moveOf_28 rfl rfl ?_
    refine g_iconst dX12_moveOf_29 (by decide) ?_
    refine g_iload_n dX12_moveOf_30 rfl rfl ?_
    refine g_callv0 (st := []) 10 mw_X12_plays lk_RX12_497 rfl km_0 (ok_M_plays 20 a1 a2 0 a3 s4) (Nat.le_of_ble_eq_true rfl) rfl rfl (Nat.le_of_ble_eq_true rfl) dX12_moveOf_31 ?_
    intro r5 s6
    refine g_pop dX12_moveOf_34 rfl ?_
    refine g_aload_n dX12_moveOf_35 rfl rfl ?_
    refine g_geti fl_RX12_504 km_0 (by decide) dX12_moveOf_36 ?_
    refine g_aload_n dX12_moveOf_39 rfl rfl ?_
    refine g_getr' (q := 5) fl_RX12_35 km_0 (by decide) rfl dX12_moveOf_40 ?_
    refine g_iconst dX12_moveOf_43 (by decide) ?_
    refine g_iald km_5 dX12_moveOf_44 ?_
    intro x7
    refine g_icmpne (tgt := 57) dX12_moveOf_45 (by decide) ?_ ?_
    · refine g_aload_n dX12_moveOf_48 rfl rfl ?_
      refine g_bipush dX12_moveOf_49 (by decide) ?_
      refine g_callv0 (st := []) 10 mw_X12_refuse lk_RX12_325 rfl km_0 (ok_M_refuse 8 s6) (Nat.le_of_ble_eq_true rfl) rfl rfl (Nat.le_of_ble_eq_true rfl) dX12_moveOf_51 ?_
      intro r8 s9
      refine g_goto (tgt := 61) dX12_moveOf_54 (by decide) ?_
      exact g_iret dX12_moveOf_61
    · refine g_aload_n dX12_moveOf_57 rfl rfl ?_
      refine g_geti fl_RX12_504 km_0 (by decide) dX12_moveOf_58 ?_
      exact g_iret dX12_moveOf_61
theorem dX12_named_0 : decode cX12_named 0 = .ok (.iconst 0, 1) := by decide +kernel
theorem dX12_named_1 : decode cX12_named 1 = .ok (.istore_n 3, 1) := by decide +kernel
theorem dX12_named_2 : decode cX12_named 2 = .ok (.iload_n 3, 1) := by decide +kernel
theorem dX12_named_3 : decode cX12_named 3 = .ok (.aload_n 0, 1) := by decide +kernel
theorem dX12_named_4 : decode cX12_named 4 = .ok (.getfield 35, 3) := by decide +kernel
theorem dX12_named_7 : decode cX12_named 7 = .ok (.sipush 447, 3) := by decide +kernel
theorem dX12_named_10 : decode cX12_named 10 = .ok (.iload_n 1, 1) := by decide +kernel
theorem dX12_named_11 : decode cX12_named 11 = .ok (.imul, 1) := by decide +kernel
theorem dX12_named_12 : decode cX12_named 12 = .ok (.iload_n 2, 1) := by decide +kernel
theorem dX12_named_13 : decode cX12_named 13 = .ok (.iadd, 1) := by decide +kernel
theorem dX12_named_14 : decode cX12_named 14 = .ok (.iaload, 1) := by decide +kernel
theorem dX12_named_15 : decode cX12_named 15 = .ok (.if_icmp .ge 35, 3) := by decide +kernel
theorem dX12_named_18 : decode cX12_named 18 = .ok (.aload_n 0, 1) := by decide +kernel
theorem dX12_named_19 : decode cX12_named 19 = .ok (.getfield 44, 3) := by decide +kernel
theorem dX12_named_22 : decode cX12_named 22 = .ok (.bipush 14, 2) := by decide +kernel
theorem dX12_named_24 : decode cX12_named 24 = .ok (.iload_n 1, 1) := by decide +kernel
theorem dX12_named_25 : decode cX12_named 25 = .ok (.imul, 1) := by decide +kernel
theorem dX12_named_26 : decode cX12_named 26 = .ok (.bipush 8, 2) := by decide +kernel
theorem dX12_named_28 : decode cX12_named 28 = .ok (.iload_n 2, 1) := by decide +kernel
theorem dX12_named_29 : decode cX12_named 29 = .ok (.imul, 1) := by decide +kernel
theorem dX12_named_30 : decode cX12_named 30 = .ok (.iadd, 1) := by decide +kernel
theorem dX12_named_31 : decode cX12_named 31 = .ok (.iload_n 3, 1) := by decide +kernel
theorem dX12_named_32 : decode cX12_named 32 = .ok (.iadd, 1) := by decide +kernel
theorem dX12_named_33 : decode cX12_named 33 = .ok (.laload, 1) := by decide +kernel
theorem dX12_named_34 : decode cX12_named 34 = .ok (.aload_n 0, 1) := by decide +kernel
theorem dX12_named_35 : decode cX12_named 35 = .ok (.getfield 128, 3) := by decide +kernel
theorem dX12_named_38 : decode cX12_named 38 = .ok (.lcmp, 1) := by decide +kernel
theorem dX12_named_39 : decode cX12_named 39 = .ok (.ifCond .ne 5, 3) := by decide +kernel
theorem dX12_named_42 : decode cX12_named 42 = .ok (.iload_n 3, 1) := by decide +kernel
theorem dX12_named_43 : decode cX12_named 43 = .ok (.ireturn, 1) := by decide +kernel
theorem dX12_named_44 : decode cX12_named 44 = .ok (.iinc 3 1, 3) := by decide +kernel
theorem dX12_named_47 : decode cX12_named 47 = .ok (.goto (-45), 3) := by decide +kernel
theorem dX12_named_50 : decode cX12_named 50 = .ok (.iconst (-1), 1) := by decide +kernel
theorem dX12_named_51 : decode cX12_named 51 = .ok (.ireturn, 1) := by decide +kernel
theorem mw_X12_named : MW yX12_named cX12_named 4 0 2 false := ⟨tm 1906 (by decide +kernel) rfl, tm 249 (by decide +kernel) rfl, by decide, by decide, (by rw [if_neg (by decide)]; exact ⟨tm 1905 (by decide +kernel) rfl, tm 157 (by decide +kernel) rfl⟩)⟩
def M_named_L2 (a1 : Int) (a2 : Int) : Nat → Int → Sg → Rs
  | 0, _, _ => none
  | n + 1, v3, σ => (rd 2235 (w32 ((w32 (447 * a1)) + a2)) (σ 5 (Int.toNat (w32 ((w32 (447 * a1)) + a2)))) (fun x1 => (if v3 < x1 then (rd 70 (w32 ((w32 ((w32 (14 * a1)) + (w32 (8 * a2)))) + v3)) (σ 8 (Int.toNat (w32 ((w32 ((w32 (14 * a1)) + (w32 (8 * a2)))) + v3)))) (fun x2 => (if x2 = (σ 0 19) then (some (v3, σ)) else (nm (w32 (v3 + 1)) (fun x3 => (M_named_L2 a1 a2 n x3 σ)))))) else (some ((-1), σ)))))
theorem ok_M_named_L2 (a1 : Int) (a2 : Int) : ∀ (n : Nat) (v3 : Int) (σ : Sg), G l Km Pm RX12 cX12_named 4 0 1 2 [some (.inr (.inr 0)), some (.inl a1), some (.inl a2), some (.inl v3)] [] σ (M_named_L2 a1 a2 n v3 σ) := by
  intro n
  induction n with
  | zero => intros; exact G.none_
  | succ n ih =>
    intro v3 σ
    rw [M_named_L2]
    refine g_iload_n dX12_named_2 rfl rfl ?_
    refine g_aload_n dX12_named_3 rfl rfl ?_
    refine g_getr' (q := 5) fl_RX12_35 km_0 (by decide) rfl dX12_named_4 ?_
    refine g_sipush dX12_named_7 (by decide) ?_
    refine g_iload_n dX12_named_10 rfl rfl ?_
    refine g_imul dX12_named_11 ?_
    refine g_iload_n dX12_named_12 rfl rfl ?_
    refine g_iadd dX12_named_13 ?_
    refine g_iald km_5 dX12_named_14 ?_
    intro x1
    refine g_icmpge (tgt := 50) dX12_named_15 (by decide) ?_ ?_
    · refine g_aload_n dX12_named_18 rfl rfl ?_
      refine g_getr' (q := 8) fl_RX12_44 km_0 (by decide) rfl dX12_named_19 ?_
      refine g_bipush dX12_named_22 (by decide) ?_
      refine g_iload_n dX12_named_24 rfl rfl ?_
      refine g_imul dX12_named_25 ?_
      refine g_bipush dX12_named_26 (by decide) ?_
      refine g_iload_n dX12_named_28 rfl rfl ?_
      refine g_imul dX12_named_29 ?_
      refine g_iadd dX12_named_30 ?_
      refine g_iload_n dX12_named_31 rfl rfl ?_
      refine g_iadd dX12_named_32 ?_
      refine g_lald km_8 dX12_named_33 ?_
      intro x2
      refine g_aload_n dX12_named_34 rfl rfl ?_
      refine g_getl fl_RX12_128 km_0 (by decide) dX12_named_35 ?_
      refine g_lcmpne (tgt := 44) dX12_named_38 dX12_named_39 (by decide) ?_ ?_
      · refine g_iload_n dX12_named_42 rfl rfl ?_
        exact g_iret dX12_named_43
      · refine n_iinc (fun x3 => [some (.inr (.inr 0)), some (.inl a1), some (.inl a2), some (.inl x3)]) dX12_named_44 rfl (Nat.le_of_ble_eq_true rfl) (fun _ => rfl) ?_
        intro x3
        refine g_goto (tgt := 2) dX12_named_47 (by decide) ?_
        exact (ih x3 σ)
    · refine g_iconst dX12_named_50 (by decide) ?_
      exact g_iret dX12_named_51
def M_named (a1 : Int) (a2 : Int) (σ : Sg) : Rs := (M_named_L2 a1 a2 fu 0 σ)
theorem ok_M_named (a1 : Int) (a2 : Int) (σ : Sg) : MC l Km Pm yX12_named cX12_named 4 0 1 [.inr (.inr 0), .inl a1, .inl a2] σ (M_named a1 a2 σ) := by
  refine mc_of (by decide) (Nat.le_of_ble_eq_true rfl) ?_
  change G l Km Pm RX12 cX12_named 4 0 1 0 [some (.inr (.inr 0)), some (.inl a1), some (.inl a2), none] [] σ (M_named a1 a2 σ)
  unfold M_named
  refine g_iconst dX12_named_0 (by decide) ?_
  refine g_istore_n (lv' := [some (.inr (.inr 0)), some (.inl a1), some (.inl a2), some (.inl 0)]) dX12_named_1 rfl (Nat.le_of_ble_eq_true rfl) rfl ?_
  refine (ok_M_named_L2 a1 a2 fu 0 σ)
theorem dX12_oneRound_0 : decode cX12_oneRound 0 = .ok (.aload_n 0, 1) := by decide +kernel
theorem dX12_oneRound_1 : decode cX12_oneRound 1 = .ok (.iconst 0, 1) := by decide +kernel
theorem dX12_oneRound_2 : decode cX12_oneRound 2 = .ok (.putfield 67, 3) := by decide +kernel
theorem dX12_oneRound_5 : decode cX12_oneRound 5 = .ok (.aload_n 0, 1) := by decide +kernel
theorem dX12_oneRound_6 : decode cX12_oneRound 6 = .ok (.iconst 0, 1) := by decide +kernel
theorem dX12_oneRound_7 : decode cX12_oneRound 7 = .ok (.putfield 70, 3) := by decide +kernel
theorem dX12_oneRound_10 : decode cX12_oneRound 10 = .ok (.iconst 0, 1) := by decide +kernel
theorem dX12_oneRound_11 : decode cX12_oneRound 11 = .ok (.istore_n 1, 1) := by decide +kernel
theorem dX12_oneRound_12 : decode cX12_oneRound 12 = .ok (.iconst 1, 1) := by decide +kernel
theorem dX12_oneRound_13 : decode cX12_oneRound 13 = .ok (.istore_n 2, 1) := by decide +kernel
theorem dX12_oneRound_14 : decode cX12_oneRound 14 = .ok (.iload_n 2, 1) := by decide +kernel
theorem dX12_oneRound_15 : decode cX12_oneRound 15 = .ok (.iconst 1, 1) := by decide +kernel
theorem dX12_oneRound_16 : decode cX12_oneRound 16 = .ok (.aload_n 0, 1) := by decide +kernel
theorem dX12_oneRound_17 : decode cX12_oneRound 17 = .ok (.getfield 35, 3) := by decide +kernel
theorem dX12_oneRound_20 : decode cX12_oneRound 20 = .ok (.iconst 1, 1) := by decide +kernel
theorem dX12_oneRound_21 : decode cX12_oneRound 21 = .ok (.iaload, 1) := by decide +kernel
theorem dX12_oneRound_22 : decode cX12_oneRound 22 = .ok (.ishl, 1) := by decide +kernel
theorem dX12_oneRound_23 : decode cX12_oneRound 23 = .ok (.if_icmp .ge 30, 3) := by decide +kernel
theorem dX12_oneRound_26 : decode cX12_oneRound 26 = .ok (.iload_n 2, 1) := by decide +kernel
theorem dX12_oneRound_27 : decode cX12_oneRound 27 = .ok (.invokestatic 390, 3) := by decide +kernel
theorem dX12_oneRound_30 : decode cX12_oneRound 30 = .ok (.iload_n 1, 1) := by decide +kernel
theorem dX12_oneRound_31 : decode cX12_oneRound 31 = .ok (.invokestatic 390, 3) := by decide +kernel
theorem dX12_oneRound_34 : decode cX12_oneRound 34 = .ok (.if_icmp .le 13, 3) := by decide +kernel
theorem dX12_oneRound_37 : decode cX12_oneRound 37 = .ok (.aload_n 0, 1) := by decide +kernel
theorem dX12_oneRound_38 : decode cX12_oneRound 38 = .ok (.iload_n 2, 1) := by decide +kernel
theorem dX12_oneRound_39 : decode cX12_oneRound 39 = .ok (.invokevirtual 472, 3) := by decide +kernel
theorem dX12_oneRound_42 : decode cX12_oneRound 42 = .ok (.ifCond .eq 5, 3) := by decide +kernel
theorem dX12_oneRound_45 : decode cX12_oneRound 45 = .ok (.iload_n 2, 1) := by decide +kernel
theorem dX12_oneRound_46 : decode cX12_oneRound 46 = .ok (.istore_n 1, 1) := by decide +kernel
theorem dX12_oneRound_47 : decode cX12_oneRound 47 = .ok (.iinc 2 1, 3) := by decide +kernel
theorem dX12_oneRound_50 : decode cX12_oneRound 50 = .ok (.goto (-36), 3) := by decide +kernel
theorem dX12_oneRound_53 : decode cX12_oneRound 53 = .ok (.iload_n 1, 1) := by decide +kernel
theorem dX12_oneRound_54 : decode cX12_oneRound 54 = .ok (.ireturn, 1) := by decide +kernel
theorem mw_X12_oneRound : MW yX12_oneRound cX12_oneRound 3 0 0 false := ⟨tm 2283 (by decide +kernel) rfl, tm 249 (by decide +kernel) rfl, by decide, by decide, (by rw [if_neg (by decide)]; exact ⟨tm 2281 (by decide +kernel) rfl, tm 2282 (by decide +kernel) rfl⟩)⟩
theorem lk_RX12_472 : LK RX12 472 yX12_isOne := Or.inl (tm 2272 (by decide +kernel) rfl)
def M_oneRound_L14  : Nat → Int → Int → Sg → Rs
  | 0, _, _, _ => none
  | n + 1, v1, v2, σ => (rd 2235 1 (σ 5 (Int.toNat 1)) (fun x3 => (if v2 < (sl32 1 x3) then (bd (M_sizeOf v2 σ) (fun r4 s5 => (bd (M_sizeOf v1 s5) (fun r6 s7 => (if r6 < r4 then (bd (M_isOne v2 s7) (fun r8 s9 => (if r8 = 0 then (nm (w32 (v2 + 1)) (fun x10 => (M_oneRound_L14 n v1 x10 s9))) else (nm (w32 (v2 + 1)) (fun x11 => (M_oneRound_L14 n v2 x11 s9)))))) else (nm (w32 (v2 + 1)) (fun x12 => (M_oneRound_L14 n v1 x12 s7)))))))) else (some (v1, σ)))))
theorem ok_M_oneRound_L14 : ∀ (n : Nat) (v1 v2 : Int) (σ : Sg), G l Km Pm RX12 cX12_oneRound 3 0 4 14 [some (.inr (.inr 0)), some (.inl v1), some (.inl v2)] [] σ (M_oneRound_L14  n v1 v2 σ) := by
  intro n
  induction n with
  | zero => intros; exact G.none_
  | succ n ih =>
    intro v1 v2 σ
    rw [M_oneRound_L14]
    refine g_iload_n dX12_oneRound_14 rfl rfl ?_
    refine g_iconst dX12_oneRound_15 (by decide) ?_
    refine g_aload_n dX12_oneRound_16 rfl rfl ?_
    refine g_getr' (q := 5) fl_RX12_35 km_0 (by decide) rfl dX12_oneRound_17 ?_
    refine g_iconst dX12_oneRound_20 (by decide) ?_
    refine g_iald km_5 dX12_oneRound_21 ?_
    intro x3
    refine g_ishl dX12_oneRound_22 ?_
    refine g_icmpge (tgt := 53) dX12_oneRound_23 (by decide) ?_ ?_
    · refine g_iload_n dX12_oneRound_26 rfl rfl ?_
      refine g_calls0 (st := []) mw_X12_sizeOf lk_RX12_390 (ok_M_sizeOf v2 σ) (Nat.le_of_ble_eq_true rfl) rfl rfl (Nat.le_of_ble_eq_true rfl) dX12_oneRound_27 ?_
      intro r4 s5
      refine g_iload_n dX12_oneRound_30 rfl rfl ?_
      refine g_calls0 (st := [.inl r4]) mw_X12_sizeOf lk_RX12_390 (ok_M_sizeOf v1 s5) (Nat.le_of_ble_eq_true rfl) rfl rfl (Nat.le_of_ble_eq_true rfl) dX12_oneRound_31 ?_
      intro r6 s7
      refine g_icmple (tgt := 47) dX12_oneRound_34 (by decide) ?_ ?_
      · refine g_aload_n dX12_oneRound_37 rfl rfl ?_
        refine g_iload_n dX12_oneRound_38 rfl rfl ?_
        refine g_callv3 (st := []) 10 mw_X12_isOne lk_RX12_472 rfl km_0 (ok_M_isOne v2 s7) (Nat.le_of_ble_eq_true rfl) rfl rfl (Nat.le_of_ble_eq_true rfl) dX12_oneRound_39 ?_
        intro r8 s9
        refine g_ifeq (tgt := 47) dX12_oneRound_42 (by decide) ?_ ?_
        · refine n_iinc (fun x10 => [some (.inr (.inr 0)), some (.inl v1), some (.inl x10)]) dX12_oneRound_47 rfl (Nat.le_of_ble_eq_true rfl) (fun _ => rfl) ?_
          intro x10
          refine g_goto (tgt := 14) dX12_oneRound_50 (by decide) ?_
          exact (ih v1 x10 s9)
        · refine g_iload_n dX12_oneRound_45 rfl rfl ?_
          refine g_istore_n (lv' := [some (.inr (.inr 0)), some (.inl v2), some (.inl v2)]) dX12_oneRound_46 rfl (Nat.le_of_ble_eq_true rfl) rfl ?_
          refine n_iinc (fun x11 => [some (.inr (.inr 0)), some (.inl v2), some (.inl x11)]) dX12_oneRound_47 rfl (Nat.le_of_ble_eq_true rfl) (fun _ => rfl) ?_
          intro x11
          refine g_goto (tgt := 14) dX12_oneRound_50 (by decide) ?_
          exact (ih v2 x11 s9)
      · refine n_iinc (fun x12 => [some (.inr (.inr 0)), some (.inl v1), some (.inl x12)]) dX12_oneRound_47 rfl (Nat.le_of_ble_eq_true rfl) (fun _ => rfl) ?_
        intro x12
        refine g_goto (tgt := 14) dX12_oneRound_50 (by decide) ?_
        exact (ih v1 x12 s7)
    · refine g_iload_n dX12_oneRound_53 rfl rfl ?_
      exact g_iret dX12_oneRound_54
def M_oneRound  (σ : Sg) : Rs := (nm (up_s σ 0 1 0) (fun s1 => (nm (up_s s1 0 0 0) (fun s2 => (M_oneRound_L14 fu 0 1 s2)))))
theorem ok_M_oneRound (σ : Sg) : MC l Km Pm yX12_oneRound cX12_oneRound 3 0 4 [.inr (.inr 0)] σ (M_oneRound σ) := by
  refine mc_of (by decide) (Nat.le_of_ble_eq_true rfl) ?_
  change G l Km Pm RX12 cX12_oneRound 3 0 4 0 [some (.inr (.inr 0)), none, none] [] σ (M_oneRound  σ)
  unfold M_oneRound
  refine g_aload_n dX12_oneRound_0 rfl rfl ?_
  refine g_iconst dX12_oneRound_1 (by decide) ?_
  refine g_puti fl_RX12_67 km_0 (by decide) dX12_oneRound_2 ?_
  intro s1
  refine g_aload_n dX12_oneRound_5 rfl rfl ?_
  refine g_iconst dX12_oneRound_6 (by decide) ?_
  refine g_puti fl_RX12_70 km_0 (by decide) dX12_oneRound_7 ?_
  intro s2
  refine g_iconst dX12_oneRound_10 (by decide) ?_
  refine g_istore_n (lv' := [some (.inr (.inr 0)), some (.inl 0), none]) dX12_oneRound_11 rfl (Nat.le_of_ble_eq_true rfl) rfl ?_
  refine g_iconst dX12_oneRound_12 (by decide) ?_
  refine g_istore_n (lv' := [some (.inr (.inr 0)), some (.inl 0), some (.inl 1)]) dX12_oneRound_13 rfl (Nat.le_of_ble_eq_true rfl) rfl ?_
  refine (ok_M_oneRound_L14 fu 0 1 s2)
end WK
