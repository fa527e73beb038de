section WK
variable {l : Launch}
theorem dX11_strand_0 : decode cX11_strand 0 = .ok (.aload_n 0, 1) := by decide +kernel
theorem dX11_strand_1 : decode cX11_strand 1 = .ok (.getfield 43, 3) := by decide +kernel
theorem dX11_strand_4 : decode cX11_strand 4 = .ok (.iload_n 1, 1) := by decide +kernel
theorem dX11_strand_5 : decode cX11_strand 5 = .ok (.invokevirtual 266, 3) := by decide +kernel
theorem dX11_strand_8 : decode cX11_strand 8 = .ok (.ifCond .eq 14, 3) := by decide +kernel
theorem dX11_strand_11 : decode cX11_strand 11 = .ok (.aload_n 0, 1) := by decide +kernel
theorem dX11_strand_12 : decode cX11_strand 12 = .ok (.getfield 43, 3) := by decide +kernel
theorem dX11_strand_15 : decode cX11_strand 15 = .ok (.iload_n 2, 1) := by decide +kernel
theorem dX11_strand_16 : decode cX11_strand 16 = .ok (.invokevirtual 248, 3) := by decide +kernel
theorem dX11_strand_19 : decode cX11_strand 19 = .ok (.ifCond .ne 9, 3) := by decide +kernel
theorem dX11_strand_22 : decode cX11_strand 22 = .ok (.aload_n 0, 1) := by decide +kernel
theorem dX11_strand_23 : decode cX11_strand 23 = .ok (.iconst 2, 1) := by decide +kernel
theorem dX11_strand_24 : decode cX11_strand 24 = .ok (.invokevirtual 147, 3) := by decide +kernel
theorem dX11_strand_27 : decode cX11_strand 27 = .ok (.ireturn, 1) := by decide +kernel
theorem dX11_strand_28 : decode cX11_strand 28 = .ok (.iload_n 3, 1) := by decide +kernel
theorem dX11_strand_29 : decode cX11_strand 29 = .ok (.iconst 0, 1) := by decide +kernel
theorem dX11_strand_30 : decode cX11_strand 30 = .ok (.iconst 1, 1) := by decide +kernel
theorem dX11_strand_31 : decode cX11_strand 31 = .ok (.invokestatic 135, 3) := by decide +kernel
theorem dX11_strand_34 : decode cX11_strand 34 = .ok (.ifCond .ne 9, 3) := by decide +kernel
theorem dX11_strand_37 : decode cX11_strand 37 = .ok (.aload_n 0, 1) := by decide +kernel
theorem dX11_strand_38 : decode cX11_strand 38 = .ok (.iconst 5, 1) := by decide +kernel
theorem dX11_strand_39 : decode cX11_strand 39 = .ok (.invokevirtual 147, 3) := by decide +kernel
theorem dX11_strand_42 : decode cX11_strand 42 = .ok (.ireturn, 1) := by decide +kernel
theorem dX11_strand_43 : decode cX11_strand 43 = .ok (.aload_n 0, 1) := by decide +kernel
theorem dX11_strand_44 : decode cX11_strand 44 = .ok (.getfield 43, 3) := by decide +kernel
theorem dX11_strand_47 : decode cX11_strand 47 = .ok (.iload_n 1, 1) := by decide +kernel
theorem dX11_strand_48 : decode cX11_strand 48 = .ok (.iload_n 2, 1) := by decide +kernel
theorem dX11_strand_49 : decode cX11_strand 49 = .ok (.invokevirtual 284, 3) := by decide +kernel
theorem dX11_strand_52 : decode cX11_strand 52 = .ok (.ifCond .ne 10, 3) := by decide +kernel
theorem dX11_strand_55 : decode cX11_strand 55 = .ok (.aload_n 0, 1) := by decide +kernel
theorem dX11_strand_56 : decode cX11_strand 56 = .ok (.bipush 8, 2) := by decide +kernel
theorem dX11_strand_58 : decode cX11_strand 58 = .ok (.invokevirtual 147, 3) := by decide +kernel
theorem dX11_strand_61 : decode cX11_strand 61 = .ok (.ireturn, 1) := by decide +kernel
theorem dX11_strand_62 : decode cX11_strand 62 = .ok (.aload_n 0, 1) := by decide +kernel
theorem dX11_strand_63 : decode cX11_strand 63 = .ok (.iload_n 3, 1) := by decide +kernel
theorem dX11_strand_64 : decode cX11_strand 64 = .ok (.ifCond .ne 15, 3) := by decide +kernel
theorem dX11_strand_67 : decode cX11_strand 67 = .ok (.aload_n 0, 1) := by decide +kernel
theorem dX11_strand_68 : decode cX11_strand 68 = .ok (.getfield 43, 3) := by decide +kernel
theorem dX11_strand_71 : decode cX11_strand 71 = .ok (.iload_n 1, 1) := by decide +kernel
theorem dX11_strand_72 : decode cX11_strand 72 = .ok (.iload_n 2, 1) := by decide +kernel
theorem dX11_strand_73 : decode cX11_strand 73 = .ok (.invokevirtual 288, 3) := by decide +kernel
theorem dX11_strand_76 : decode cX11_strand 76 = .ok (.goto 12, 3) := by decide +kernel
theorem dX11_strand_79 : decode cX11_strand 79 = .ok (.aload_n 0, 1) := by decide +kernel
theorem dX11_strand_80 : decode cX11_strand 80 = .ok (.getfield 43, 3) := by decide +kernel
theorem dX11_strand_83 : decode cX11_strand 83 = .ok (.iload_n 1, 1) := by decide +kernel
theorem dX11_strand_84 : decode cX11_strand 84 = .ok (.iload_n 2, 1) := by decide +kernel
theorem dX11_strand_85 : decode cX11_strand 85 = .ok (.invokevirtual 291, 3) := by decide +kernel
theorem dX11_strand_88 : decode cX11_strand 88 = .ok (.invokevirtual 194, 3) := by decide +kernel
theorem dX11_strand_91 : decode cX11_strand 91 = .ok (.ireturn, 1) := by decide +kernel
theorem mw_X11_strand : MW yX11_strand cX11_strand 4 0 3 false := ⟨tm 1102 (by decide +kernel) rfl, tm 235 (by decide +kernel) rfl, by decide, by decide, (by rw [if_neg (by decide)]; exact ⟨tm 1100 (by decide +kernel) rfl, tm 1101 (by decide +kernel) rfl⟩)⟩
theorem lk_RX11_284 : LK RX11 284 yX4_isKept := Or.inr ⟨"HairProvince", tm 1103 (by decide +kernel) rfl⟩
theorem lk_RX11_288 : LK RX11 288 yX4_strandLength := Or.inr ⟨"HairProvince", tm 1104 (by decide +kernel) rfl⟩
theorem lk_RX11_291 : LK RX11 291 yX4_strandAge := Or.inr ⟨"HairProvince", tm 1108 (by decide +kernel) rfl⟩
def H_strand (a1 : Int) (a2 : Int) (a3 : Int) (σ : Sg) : Rs := (bd (Pr_isPerson 8 a1 σ) (fun r1 s2 => (if r1 = 0 then (bd (H_fail 2 s2) (fun r3 s4 => (some (r3, s4)))) else (bd (Pr_isWord 8 a2 s2) (fun r5 s6 => (if r5 = 0 then (bd (H_fail 2 s6) (fun r7 s8 => (some (r7, s8)))) else (bd (H_within a3 0 1 s6) (fun r9 s10 => (if r9 = 0 then (bd (H_fail 5 s10) (fun r11 s12 => (some (r11, s12)))) else (bd (Pr_isKept 8 a1 a2 s10) (fun r13 s14 => (if r13 = 0 then (bd (H_fail 8 s14) (fun r15 s16 => (some (r15, s16)))) else (if a3 = 0 then (bd (Pr_strandLength 8 a1 a2 s14) (fun r17 s18 => (bd (H_give r17 s18) (fun r19 s20 => (some (r19, s20)))))) else (bd (Pr_strandAge 8 a1 a2 s14) (fun r21 s22 => (bd (H_give r21 s22) (fun r23 s24 => (some (r23, s24)))))))))))))))))))
theorem ok_H_strand (a1 : Int) (a2 : Int) (a3 : Int) (σ : Sg) : MC l Kh Ph yX11_strand cX11_strand 4 0 3 [.inr (.inr 0), .inl a1, .inl a2, .inl a3] σ (H_strand a1 a2 a3 σ) := by
  refine mc_of (by decide) (Nat.le_of_ble_eq_true rfl) ?_
  change G l Kh Ph RX11 cX11_strand 4 0 3 0 [some (.inr (.inr 0)), some (.inl a1), some (.inl a2), some (.inl a3)] [] σ (H_strand a1 a2 a3 σ)
  unfold H_strand
  refine g_aload_n dX11_strand_0 rfl rfl ?_
  refine g_getr' (q := 8) fl_RX11_43 kh_0 (by decide) rfl dX11_strand_1 ?_
  refine g_iload_n dX11_strand_4 rfl rfl ?_
  refine g_callv3 (st := []) 4 mw_X4_isPerson lk_RX11_266 rfl kh_8 (ok_Pr_isPerson 8 a1 kh_8 σ) (Nat.le_of_ble_eq_true rfl) rfl rfl (Nat.le_of_ble_eq_true rfl) dX11_strand_5 ?_
  intro r1 s2
  refine g_ifeq (tgt := 22) dX11_strand_8 (by decide) ?_ ?_
  · refine g_aload_n dX11_strand_22 rfl rfl ?_
    refine g_iconst dX11_strand_23 (by decide) ?_
    refine g_callv0 (st := []) 9 mw_X11_fail lk_RX11_147 rfl kh_0 (ok_H_fail 2 s2) (Nat.le_of_ble_eq_true rfl) rfl rfl (Nat.le_of_ble_eq_true rfl) dX11_strand_24 ?_
    intro r3 s4
    exact g_iret dX11_strand_27
  · refine g_aload_n dX11_strand_11 rfl rfl ?_
    refine g_getr' (q := 8) fl_RX11_43 kh_0 (by decide) rfl dX11_strand_12 ?_
    refine g_iload_n dX11_strand_15 rfl rfl ?_
    refine g_callv3 (st := []) 4 mw_X4_isWord lk_RX11_248 rfl kh_8 (ok_Pr_isWord 8 a2 kh_8 s2) (Nat.le_of_ble_eq_true rfl) rfl rfl (Nat.le_of_ble_eq_true rfl) dX11_strand_16 ?_
    intro r5 s6
    refine g_ifne (tgt := 28) dX11_strand_19 (by decide) ?_ ?_
    · refine g_aload_n dX11_strand_22 rfl rfl ?_
      refine g_iconst dX11_strand_23 (by decide) ?_
      refine g_callv0 (st := []) 9 mw_X11_fail lk_RX11_147 rfl kh_0 (ok_H_fail 2 s6) (Nat.le_of_ble_eq_true rfl) rfl rfl (Nat.le_of_ble_eq_true rfl) dX11_strand_24 ?_
      intro r7 s8
      exact g_iret dX11_strand_27
    · refine g_iload_n dX11_strand_28 rfl rfl ?_
      refine g_iconst dX11_strand_29 (by decide) ?_
      refine g_iconst dX11_strand_30 (by decide) ?_
      refine g_calls3 (st := []) mw_X11_within lk_RX11_135 (ok_H_within a3 0 1 s6) (Nat.le_of_ble_eq_true rfl) rfl rfl (Nat.le_of_ble_eq_true rfl) dX11_strand_31 ?_
      intro r9 s10
      refine g_ifne (tgt := 43) dX11_strand_34 (by decide) ?_ ?_
      · refine g_aload_n dX11_strand_37 rfl rfl ?_
        refine g_iconst dX11_strand_38 (by decide) ?_
        refine g_callv0 (st := []) 9 mw_X11_fail lk_RX11_147 rfl kh_0 (ok_H_fail 5 s10) (Nat.le_of_ble_eq_true rfl) rfl rfl (Nat.le_of_ble_eq_true rfl) dX11_strand_39 ?_
        intro r11 s12
        exact g_iret dX11_strand_42
      · refine g_aload_n dX11_strand_43 rfl rfl ?_
        refine g_getr' (q := 8) fl_RX11_43 kh_0 (by decide) rfl dX11_strand_44 ?_
        refine g_iload_n dX11_strand_47 rfl rfl ?_
        refine g_iload_n dX11_strand_48 rfl rfl ?_
        refine g_callv3 (st := []) 4 mw_X4_isKept lk_RX11_284 rfl kh_8 (ok_Pr_isKept 8 a1 a2 kh_8 s10) (Nat.le_of_ble_eq_true rfl) rfl rfl (Nat.le_of_ble_eq_true rfl) dX11_strand_49 ?_
        intro r13 s14
        refine g_ifne (tgt := 62) dX11_strand_52 (by decide) ?_ ?_
        · refine g_aload_n dX11_strand_55 rfl rfl ?_
          refine g_bipush dX11_strand_56 (by decide) ?_
          refine g_callv0 (st := []) 9 mw_X11_fail lk_RX11_147 rfl kh_0 (ok_H_fail 8 s14) (Nat.le_of_ble_eq_true rfl) rfl rfl (Nat.le_of_ble_eq_true rfl) dX11_strand_58 ?_
          intro r15 s16
          exact g_iret dX11_strand_61
        · refine g_aload_n dX11_strand_62 rfl rfl ?_
          refine g_iload_n dX11_strand_63 rfl rfl ?_
          refine g_ifne (tgt := 79) dX11_strand_64 (by decide) ?_ ?_
          · refine g_aload_n dX11_strand_67 rfl rfl ?_
            refine g_getr' (q := 8) fl_RX11_43 kh_0 (by decide) rfl dX11_strand_68 ?_
            refine g_iload_n dX11_strand_71 rfl rfl ?_
            refine g_iload_n dX11_strand_72 rfl rfl ?_
            refine g_callv0 (st := [.inr (.inr 0)]) 4 mw_X4_strandLength lk_RX11_288 rfl kh_8 (ok_Pr_strandLength 8 a1 a2 kh_8 s14) (Nat.le_of_ble_eq_true rfl) rfl rfl (Nat.le_of_ble_eq_true rfl) dX11_strand_73 ?_
            intro r17 s18
            refine g_goto (tgt := 88) dX11_strand_76 (by decide) ?_
            refine g_callv0 (st := []) 9 mw_X11_give lk_RX11_194 rfl kh_0 (ok_H_give r17 s18) (Nat.le_of_ble_eq_true rfl) rfl rfl (Nat.le_of_ble_eq_true rfl) dX11_strand_88 ?_
            intro r19 s20
            exact g_iret dX11_strand_91
          · refine g_aload_n dX11_strand_79 rfl rfl ?_
            refine g_getr' (q := 8) fl_RX11_43 kh_0 (by decide) rfl dX11_strand_80 ?_
            refine g_iload_n dX11_strand_83 rfl rfl ?_
            refine g_iload_n dX11_strand_84 rfl rfl ?_
            refine g_callv0 (st := [.inr (.inr 0)]) 4 mw_X4_strandAge lk_RX11_291 rfl kh_8 (ok_Pr_strandAge 8 a1 a2 kh_8 s14) (Nat.le_of_ble_eq_true rfl) rfl rfl (Nat.le_of_ble_eq_true rfl) dX11_strand_85 ?_
            intro r21 s22
            refine g_callv0 (st := []) 9 mw_X11_give lk_RX11_194 rfl kh_0 (ok_H_give r21 s22) (Nat.le_of_ble_eq_true rfl) rfl rfl (Nat.le_of_ble_eq_true rfl) dX11_strand_88 ?_
            intro r23 s24
            exact g_iret dX11_strand_91
theorem dX1_common_0 : decode cX1_common 0 = .ok (.sipush 255, 3) := by decide +kernel
theorem dX1_common_3 : decode cX1_common 3 = .ok (.istore_n 1, 1) := by decide +kernel
theorem dX1_common_4 : decode cX1_common 4 = .ok (.iconst 0, 1) := by decide +kernel
theorem dX1_common_5 : decode cX1_common 5 = .ok (.istore_n 2, 1) := by decide +kernel
theorem dX1_common_6 : decode cX1_common 6 = .ok (.iload_n 2, 1) := by decide +kernel
theorem dX1_common_7 : decode cX1_common 7 = .ok (.aload_n 0, 1) := by decide +kernel
theorem dX1_common_8 : decode cX1_common 8 = .ok (.getfield 22, 3) := by decide +kernel
theorem dX1_common_11 : decode cX1_common 11 = .ok (.if_icmp .ge 25, 3) := by decide +kernel
theorem dX1_common_14 : decode cX1_common 14 = .ok (.iload_n 2, 1) := by decide +kernel
theorem dX1_common_15 : decode cX1_common 15 = .ok (.sipush 256, 3) := by decide +kernel
theorem dX1_common_18 : decode cX1_common 18 = .ok (.if_icmp .ge 18, 3) := by decide +kernel
theorem dX1_common_21 : decode cX1_common 21 = .ok (.iload_n 1, 1) := by decide +kernel
theorem dX1_common_22 : decode cX1_common 22 = .ok (.aload_n 0, 1) := by decide +kernel
theorem dX1_common_23 : decode cX1_common 23 = .ok (.getfield 11, 3) := by decide +kernel
theorem dX1_common_26 : decode cX1_common 26 = .ok (.iload_n 2, 1) := by decide +kernel
theorem dX1_common_27 : decode cX1_common 27 = .ok (.iaload, 1) := by decide +kernel
theorem dX1_common_28 : decode cX1_common 28 = .ok (.iand, 1) := by decide +kernel
theorem dX1_common_29 : decode cX1_common 29 = .ok (.istore_n 1, 1) := by decide +kernel
theorem dX1_common_30 : decode cX1_common 30 = .ok (.iinc 2 1, 3) := by decide +kernel
theorem dX1_common_33 : decode cX1_common 33 = .ok (.goto (-27), 3) := by decide +kernel
theorem dX1_common_36 : decode cX1_common 36 = .ok (.iload_n 1, 1) := by decide +kernel
theorem dX1_common_37 : decode cX1_common 37 = .ok (.ireturn, 1) := by decide +kernel
theorem mw_X1_common : MW yX1_common cX1_common 3 0 0 false := ⟨tm 1314 (by decide +kernel) rfl, tm 245 (by decide +kernel) rfl, by decide, by decide, (by rw [if_neg (by decide)]; exact ⟨tm 1313 (by decide +kernel) rfl, tm 85 (by decide +kernel) rfl⟩)⟩
def Fi_common_L6  : Nat → Int → Int → Sg → Rs
  | 0, _, _, _ => none
  | n + 1, v1, v2, σ => (if v2 < (σ 99 1) then (if v2 < 256 then (rd 256 v2 (σ 100 (Int.toNat v2)) (fun x1 => (nm (an32 v1 x1) (fun x2 => (nm (w32 (v2 + 1)) (fun x3 => (Fi_common_L6 n x2 x3 σ))))))) else (some (v1, σ))) else (some (v1, σ)))
theorem ok_Fi_common_L6 : ∀ (n : Nat) (v1 v2 : Int) (σ : Sg), G l Kh Ph RX1 cX1_common 3 0 1 6 [some (.inr (.inr 99)), some (.inl v1), some (.inl v2)] [] σ (Fi_common_L6  n v1 v2 σ) := by
  intro n
  induction n with
  | zero => intros; exact G.none_
  | succ n ih =>
    intro v1 v2 σ
    rw [Fi_common_L6]
    refine g_iload_n dX1_common_6 rfl rfl ?_
    refine g_aload_n dX1_common_7 rfl rfl ?_
    refine g_geti fl_RX1_22 kh_99 (by decide) dX1_common_8 ?_
    refine g_icmpge (tgt := 36) dX1_common_11 (by decide) ?_ ?_
    · refine g_iload_n dX1_common_14 rfl rfl ?_
      refine g_sipush dX1_common_15 (by decide) ?_
      refine g_icmpge (tgt := 36) dX1_common_18 (by decide) ?_ ?_
      · refine g_iload_n dX1_common_21 rfl rfl ?_
        refine g_aload_n dX1_common_22 rfl rfl ?_
        refine g_getr' (q := 100) fl_RX1_11 kh_99 (by decide) rfl dX1_common_23 ?_
        refine g_iload_n dX1_common_26 rfl rfl ?_
        refine g_iald kh_100 dX1_common_27 ?_
        intro x1
        refine g_iand dX1_common_28 ?_
        refine n_istore_n (fun x2 => [some (.inr (.inr 99)), some (.inl x2), some (.inl v2)]) dX1_common_29 rfl (Nat.le_of_ble_eq_true rfl) (fun _ => rfl) ?_
        intro x2
        refine n_iinc (fun x3 => [some (.inr (.inr 99)), some (.inl x2), some (.inl x3)]) dX1_common_30 rfl (Nat.le_of_ble_eq_true rfl) (fun _ => rfl) ?_
        intro x3
        refine g_goto (tgt := 6) dX1_common_33 (by decide) ?_
        exact (ih x2 x3 σ)
      · refine g_iload_n dX1_common_36 rfl rfl ?_
        exact g_iret dX1_common_37
    · refine g_iload_n dX1_common_36 rfl rfl ?_
      exact g_iret dX1_common_37
def Fi_common  (σ : Sg) : Rs := (Fi_common_L6 fu 255 0 σ)
theorem ok_Fi_common (σ : Sg) : MC l Kh Ph yX1_common cX1_common 3 0 1 [.inr (.inr 99)] σ (Fi_common σ) := by
  refine mc_of (by decide) (Nat.le_of_ble_eq_true rfl) ?_
  change G l Kh Ph RX1 cX1_common 3 0 1 0 [some (.inr (.inr 99)), none, none] [] σ (Fi_common  σ)
  unfold Fi_common
  refine g_sipush dX1_common_0 (by decide) ?_
  refine g_istore_n (lv' := [some (.inr (.inr 99)), some (.inl 255), none]) dX1_common_3 rfl (Nat.le_of_ble_eq_true rfl) rfl ?_
  refine g_iconst dX1_common_4 (by decide) ?_
  refine g_istore_n (lv' := [some (.inr (.inr 99)), some (.inl 255), some (.inl 0)]) dX1_common_5 rfl (Nat.le_of_ble_eq_true rfl) rfl ?_
  refine (ok_Fi_common_L6 fu 255 0 σ)
theorem dX11_sure_0 : decode cX11_sure 0 = .ok (.aload_n 0, 1) := by decide +kernel
theorem dX11_sure_1 : decode cX11_sure 1 = .ok (.iload_n 1, 1) := by decide +kernel
theorem dX11_sure_2 : decode cX11_sure 2 = .ok (.iload_n 2, 1) := by decide +kernel
theorem dX11_sure_3 : decode cX11_sure 3 = .ok (.invokevirtual 363, 3) := by decide +kernel
theorem dX11_sure_6 : decode cX11_sure 6 = .ok (.istore_n 3, 1) := by decide +kernel
theorem dX11_sure_7 : decode cX11_sure 7 = .ok (.iload_n 3, 1) := by decide +kernel
theorem dX11_sure_8 : decode cX11_sure 8 = .ok (.ifCond .eq 9, 3) := by decide +kernel
theorem dX11_sure_11 : decode cX11_sure 11 = .ok (.aload_n 0, 1) := by decide +kernel
theorem dX11_sure_12 : decode cX11_sure 12 = .ok (.iload_n 3, 1) := by decide +kernel
theorem dX11_sure_13 : decode cX11_sure 13 = .ok (.invokevirtual 147, 3) := by decide +kernel
theorem dX11_sure_16 : decode cX11_sure 16 = .ok (.ireturn, 1) := by decide +kernel
theorem dX11_sure_17 : decode cX11_sure 17 = .ok (.aload_n 0, 1) := by decide +kernel
theorem dX11_sure_18 : decode cX11_sure 18 = .ok (.getfield 82, 3) := by decide +kernel
theorem dX11_sure_21 : decode cX11_sure 21 = .ok (.getfield 366, 3) := by decide +kernel
theorem dX11_sure_24 : decode cX11_sure 24 = .ok (.ifCond .ne 12, 3) := by decide +kernel
theorem dX11_sure_27 : decode cX11_sure 27 = .ok (.aload_n 0, 1) := by decide +kernel
theorem dX11_sure_28 : decode cX11_sure 28 = .ok (.bipush 8, 2) := by decide +kernel
theorem dX11_sure_30 : decode cX11_sure 30 = .ok (.invokevirtual 147, 3) := by decide +kernel
theorem dX11_sure_33 : decode cX11_sure 33 = .ok (.goto 14, 3) := by decide +kernel
theorem dX11_sure_36 : decode cX11_sure 36 = .ok (.aload_n 0, 1) := by decide +kernel
theorem dX11_sure_37 : decode cX11_sure 37 = .ok (.aload_n 0, 1) := by decide +kernel
theorem dX11_sure_38 : decode cX11_sure 38 = .ok (.getfield 82, 3) := by decide +kernel
theorem dX11_sure_41 : decode cX11_sure 41 = .ok (.invokevirtual 369, 3) := by decide +kernel
theorem dX11_sure_44 : decode cX11_sure 44 = .ok (.invokevirtual 194, 3) := by decide +kernel
theorem dX11_sure_47 : decode cX11_sure 47 = .ok (.ireturn, 1) := by decide +kernel
theorem mw_X11_sure : MW yX11_sure cX11_sure 4 0 2 false := ⟨tm 1310 (by decide +kernel) rfl, tm 235 (by decide +kernel) rfl, by decide, by decide, (by rw [if_neg (by decide)]; exact ⟨tm 1308 (by decide +kernel) rfl, tm 1309 (by decide +kernel) rfl⟩)⟩
theorem lk_RX11_369 : LK RX11 369 yX1_common := Or.inr ⟨"HairProvince", tm 1311 (by decide +kernel) rfl⟩
def H_sure (a1 : Int) (a2 : Int) (σ : Sg) : Rs := (bd (H_gather a1 a2 σ) (fun r1 s2 => (if r1 = 0 then (if (s2 99 1) = 0 then (bd (H_fail 8 s2) (fun r3 s4 => (some (r3, s4)))) else (bd (Fi_common s2) (fun r5 s6 => (bd (H_give r5 s6) (fun r7 s8 => (some (r7, s8))))))) else (bd (H_fail r1 s2) (fun r9 s10 => (some (r9, s10)))))))
theorem ok_H_sure (a1 : Int) (a2 : Int) (σ : Sg) : MC l Kh Ph yX11_sure cX11_sure 4 0 6 [.inr (.inr 0), .inl a1, .inl a2] σ (H_sure a1 a2 σ) := by
  refine mc_of (by decide) (Nat.le_of_ble_eq_true rfl) ?_
  change G l Kh Ph RX11 cX11_sure 4 0 6 0 [some (.inr (.inr 0)), some (.inl a1), some (.inl a2), none] [] σ (H_sure a1 a2 σ)
  unfold H_sure
  refine g_aload_n dX11_sure_0 rfl rfl ?_
  refine g_iload_n dX11_sure_1 rfl rfl ?_
  refine g_iload_n dX11_sure_2 rfl rfl ?_
  refine g_callv0 (st := []) 9 mw_X11_gather lk_RX11_363 rfl kh_0 (ok_H_gather a1 a2 σ) (Nat.le_of_ble_eq_true rfl) rfl rfl (Nat.le_of_ble_eq_true rfl) dX11_sure_3 ?_
  intro r1 s2
  refine g_istore_n (lv' := [some (.inr (.inr 0)), some (.inl a1), some (.inl a2), some (.inl r1)]) dX11_sure_6 rfl (Nat.le_of_ble_eq_true rfl) rfl ?_
  refine g_iload_n dX11_sure_7 rfl rfl ?_
  refine g_ifeq (tgt := 17) dX11_sure_8 (by decide) ?_ ?_
  · refine g_aload_n dX11_sure_17 rfl rfl ?_
    refine g_getr' (q := 99) fl_RX11_82 kh_0 (by decide) rfl dX11_sure_18 ?_
    refine g_geti fl_RX11_366 kh_99 (by decide) dX11_sure_21 ?_
    refine g_ifne (tgt := 36) dX11_sure_24 (by decide) ?_ ?_
    · refine g_aload_n dX11_sure_27 rfl rfl ?_
      refine g_bipush dX11_sure_28 (by decide) ?_
      refine g_callv0 (st := []) 9 mw_X11_fail lk_RX11_147 rfl kh_0 (ok_H_fail 8 s2) (Nat.le_of_ble_eq_true rfl) rfl rfl (Nat.le_of_ble_eq_true rfl) dX11_sure_30 ?_
      intro r3 s4
      refine g_goto (tgt := 47) dX11_sure_33 (by decide) ?_
      exact g_iret dX11_sure_47
    · refine g_aload_n dX11_sure_36 rfl rfl ?_
      refine g_aload_n dX11_sure_37 rfl rfl ?_
      refine g_getr' (q := 99) fl_RX11_82 kh_0 (by decide) rfl dX11_sure_38 ?_
      refine g_callv0 (st := [.inr (.inr 0)]) 1 mw_X1_common lk_RX11_369 rfl kh_99 (ok_Fi_common s2) (Nat.le_of_ble_eq_true rfl) rfl rfl (Nat.le_of_ble_eq_true rfl) dX11_sure_41 ?_
      intro r5 s6
      refine g_callv0 (st := []) 9 mw_X11_give lk_RX11_194 rfl kh_0 (ok_H_give r5 s6) (Nat.le_of_ble_eq_true rfl) rfl rfl (Nat.le_of_ble_eq_true rfl) dX11_sure_44 ?_
      intro r7 s8
      exact g_iret dX11_sure_47
  · refine g_aload_n dX11_sure_11 rfl rfl ?_
    refine g_iload_n dX11_sure_12 rfl rfl ?_
    refine g_callv0 (st := []) 9 mw_X11_fail lk_RX11_147 rfl kh_0 (ok_H_fail r1 s2) (Nat.le_of_ble_eq_true rfl) rfl rfl (Nat.le_of_ble_eq_true rfl) dX11_sure_13 ?_
    intro r9 s10
    exact g_iret dX11_sure_16
theorem dX11_tellers_0 : decode cX11_tellers 0 = .ok (.aload_n 0, 1) := by decide +kernel
theorem dX11_tellers_1 : decode cX11_tellers 1 = .ok (.getfield 43, 3) := by decide +kernel
theorem dX11_tellers_4 : decode cX11_tellers 4 = .ok (.iload_n 1, 1) := by decide +kernel
theorem dX11_tellers_5 : decode cX11_tellers 5 = .ok (.invokevirtual 248, 3) := by decide +kernel
theorem dX11_tellers_8 : decode cX11_tellers 8 = .ok (.ifCond .eq 14, 3) := by decide +kernel
theorem dX11_tellers_11 : decode cX11_tellers 11 = .ok (.aload_n 0, 1) := by decide +kernel
theorem dX11_tellers_12 : decode cX11_tellers 12 = .ok (.getfield 43, 3) := by decide +kernel
theorem dX11_tellers_15 : decode cX11_tellers 15 = .ok (.iload_n 2, 1) := by decide +kernel
theorem dX11_tellers_16 : decode cX11_tellers 16 = .ok (.invokevirtual 266, 3) := by decide +kernel
theorem dX11_tellers_19 : decode cX11_tellers 19 = .ok (.ifCond .ne 9, 3) := by decide +kernel
theorem dX11_tellers_22 : decode cX11_tellers 22 = .ok (.aload_n 0, 1) := by decide +kernel
theorem dX11_tellers_23 : decode cX11_tellers 23 = .ok (.iconst 2, 1) := by decide +kernel
theorem dX11_tellers_24 : decode cX11_tellers 24 = .ok (.invokevirtual 147, 3) := by decide +kernel
theorem dX11_tellers_27 : decode cX11_tellers 27 = .ok (.ireturn, 1) := by decide +kernel
theorem dX11_tellers_28 : decode cX11_tellers 28 = .ok (.aload_n 0, 1) := by decide +kernel
theorem dX11_tellers_29 : decode cX11_tellers 29 = .ok (.aload_n 0, 1) := by decide +kernel
theorem dX11_tellers_30 : decode cX11_tellers 30 = .ok (.getfield 43, 3) := by decide +kernel
theorem dX11_tellers_33 : decode cX11_tellers 33 = .ok (.iload_n 1, 1) := by decide +kernel
theorem dX11_tellers_34 : decode cX11_tellers 34 = .ok (.invokevirtual 257, 3) := by decide +kernel
theorem dX11_tellers_37 : decode cX11_tellers 37 = .ok (.aload_n 0, 1) := by decide +kernel
theorem dX11_tellers_38 : decode cX11_tellers 38 = .ok (.getfield 43, 3) := by decide +kernel
theorem dX11_tellers_41 : decode cX11_tellers 41 = .ok (.iconst 1, 1) := by decide +kernel
theorem dX11_tellers_42 : decode cX11_tellers 42 = .ok (.iload_n 2, 1) := by decide +kernel
theorem dX11_tellers_43 : decode cX11_tellers 43 = .ok (.ishl, 1) := by decide +kernel
theorem dX11_tellers_44 : decode cX11_tellers 44 = .ok (.invokevirtual 405, 3) := by decide +kernel
theorem dX11_tellers_47 : decode cX11_tellers 47 = .ok (.iand, 1) := by decide +kernel
theorem dX11_tellers_48 : decode cX11_tellers 48 = .ok (.invokevirtual 194, 3) := by decide +kernel
theorem dX11_tellers_51 : decode cX11_tellers 51 = .ok (.ireturn, 1) := by decide +kernel
theorem mw_X11_tellers : MW yX11_tellers cX11_tellers 3 0 2 false := ⟨tm 1412 (by decide +kernel) rfl, tm 235 (by decide +kernel) rfl, by decide, by decide, (by rw [if_neg (by decide)]; exact ⟨tm 1410 (by decide +kernel) rfl, tm 1411 (by decide +kernel) rfl⟩)⟩
def H_tellers (a1 : Int) (a2 : Int) (σ : Sg) : Rs := (bd (Pr_isWord 8 a1 σ) (fun r1 s2 => (if r1 = 0 then (bd (H_fail 2 s2) (fun r3 s4 => (some (r3, s4)))) else (bd (Pr_isPerson 8 a2 s2) (fun r5 s6 => (if r5 = 0 then (bd (H_fail 2 s6) (fun r7 s8 => (some (r7, s8)))) else (bd (Pr_knowersOf 8 a1 s6) (fun r9 s10 => (bd (Pr_companions 8 (sl32 1 a2) s10) (fun r11 s12 => (bd (H_give (an32 r9 r11) s12) (fun r13 s14 => (some (r13, s14))))))))))))))
theorem ok_H_tellers (a1 : Int) (a2 : Int) (σ : Sg) : MC l Kh Ph yX11_tellers cX11_tellers 3 0 4 [.inr (.inr 0), .inl a1, .inl a2] σ (H_tellers a1 a2 σ) := by
  refine mc_of (by decide) (Nat.le_of_ble_eq_true rfl) ?_
  change G l Kh Ph RX11 cX11_tellers 3 0 4 0 [some (.inr (.inr 0)), some (.inl a1), some (.inl a2)] [] σ (H_tellers a1 a2 σ)
  unfold H_tellers
  refine g_aload_n dX11_tellers_0 rfl rfl ?_
  refine g_getr' (q := 8) fl_RX11_43 kh_0 (by decide) rfl dX11_tellers_1 ?_
  refine g_iload_n dX11_tellers_4 rfl rfl ?_
  refine g_callv3 (st := []) 4 mw_X4_isWord lk_RX11_248 rfl kh_8 (ok_Pr_isWord 8 a1 kh_8 σ) (Nat.le_of_ble_eq_true rfl) rfl rfl (Nat.le_of_ble_eq_true rfl) dX11_tellers_5 ?_
  intro r1 s2
  refine g_ifeq (tgt := 22) dX11_tellers_8 (by decide) ?_ ?_
  · refine g_aload_n dX11_tellers_22 rfl rfl ?_
    refine g_iconst dX11_tellers_23 (by decide) ?_
    refine g_callv0 (st := []) 9 mw_X11_fail lk_RX11_147 rfl kh_0 (ok_H_fail 2 s2) (Nat.le_of_ble_eq_true rfl) rfl rfl (Nat.le_of_ble_eq_true rfl) dX11_tellers_24 ?_
    intro r3 s4
    exact g_iret dX11_tellers_27
  · refine g_aload_n dX11_tellers_11 rfl rfl ?_
    refine g_getr' (q := 8) fl_RX11_43 kh_0 (by decide) rfl dX11_tellers_12 ?_
    refine g_iload_n dX11_tellers_15 rfl rfl ?_
    refine g_callv3 (st := []) 4 mw_X4_isPerson lk_RX11_266 rfl kh_8 (ok_Pr_isPerson 8 a2 kh_8 s2) (Nat.le_of_ble_eq_true rfl) rfl rfl (Nat.le_of_ble_eq_true rfl) dX11_tellers_16 ?_
    intro r5 s6
    refine g_ifne (tgt := 28) dX11_tellers_19 (by decide) ?_ ?_
    · refine g_aload_n dX11_tellers_22 rfl rfl ?_
      refine g_iconst dX11_tellers_23 (by decide) ?_
      refine g_callv0 (st := []) 9 mw_X11_fail lk_RX11_147 rfl kh_0 (ok_H_fail 2 s6) (Nat.le_of_ble_eq_true rfl) rfl rfl (Nat.le_of_ble_eq_true rfl) dX11_tellers_24 ?_
      intro r7 s8
      exact g_iret dX11_tellers_27
    · refine g_aload_n dX11_tellers_28 rfl rfl ?_
      refine g_aload_n dX11_tellers_29 rfl rfl ?_
      refine g_getr' (q := 8) fl_RX11_43 kh_0 (by decide) rfl dX11_tellers_30 ?_
      refine g_iload_n dX11_tellers_33 rfl rfl ?_
      refine g_callv0 (st := [.inr (.inr 0)]) 4 mw_X4_knowersOf lk_RX11_257 rfl kh_8 (ok_Pr_knowersOf 8 a1 kh_8 s6) (Nat.le_of_ble_eq_true rfl) rfl rfl (Nat.le_of_ble_eq_true rfl) dX11_tellers_34 ?_
      intro r9 s10
      refine g_aload_n dX11_tellers_37 rfl rfl ?_
      refine g_getr' (q := 8) fl_RX11_43 kh_0 (by decide) rfl dX11_tellers_38 ?_
      refine g_iconst dX11_tellers_41 (by decide) ?_
      refine g_iload_n dX11_tellers_42 rfl rfl ?_
      refine g_ishl dX11_tellers_43 ?_
      refine g_callv0 (st := [.inl r9, .inr (.inr 0)]) 4 mw_X4_companions lk_RX11_405 rfl kh_8 (ok_Pr_companions 8 (sl32 1 a2) kh_8 s10) (Nat.le_of_ble_eq_true rfl) rfl rfl (Nat.le_of_ble_eq_true rfl) dX11_tellers_44 ?_
      intro r11 s12
      refine g_iand dX11_tellers_47 ?_
      refine g_callv0 (st := []) 9 mw_X11_give lk_RX11_194 rfl kh_0 (ok_H_give (an32 r9 r11) s12) (Nat.le_of_ble_eq_true rfl) rfl rfl (Nat.le_of_ble_eq_true rfl) dX11_tellers_48 ?_
      intro r13 s14
      exact g_iret dX11_tellers_51
theorem dX11_top_0 : decode cX11_top 0 = .ok (.aload_n 0, 1) := by decide +kernel
theorem dX11_top_1 : decode cX11_top 1 = .ok (.getfield 13, 3) := by decide +kernel
theorem dX11_top_4 : decode cX11_top 4 = .ok (.lreturn, 1) := by decide +kernel
theorem mw_X11_top : MW yX11_top cX11_top 1 1 0 false := ⟨tm 690 (by decide +kernel) rfl, tm 235 (by decide +kernel) rfl, by decide, by decide, (by rw [if_neg (by decide)]; exact ⟨tm 688 (by decide +kernel) rfl, tm 689 (by decide +kernel) rfl⟩)⟩
def H_top  (σ : Sg) : Rs := (some ((σ 0 1), σ))
theorem ok_H_top (σ : Sg) : MC l Kh Ph yX11_top cX11_top 1 1 1 [.inr (.inr 0)] σ (H_top σ) := by
  refine mc_of (by decide) (Nat.le_of_ble_eq_true rfl) ?_
  change G l Kh Ph RX11 cX11_top 1 1 1 0 [some (.inr (.inr 0))] [] σ (H_top  σ)
  unfold H_top
  refine g_aload_n dX11_top_0 rfl rfl ?_
  refine g_getl fl_RX11_13 kh_0 (by decide) dX11_top_1 ?_
  exact g_lret dX11_top_4
theorem dX11_trade_0 : decode cX11_trade 0 = .ok (.aload_n 0, 1) := by decide +kernel
theorem dX11_trade_1 : decode cX11_trade 1 = .ok (.getfield 43, 3) := by decide +kernel
theorem dX11_trade_4 : decode cX11_trade 4 = .ok (.iload_n 1, 1) := by decide +kernel
theorem dX11_trade_5 : decode cX11_trade 5 = .ok (.invokevirtual 266, 3) := by decide +kernel
theorem dX11_trade_8 : decode cX11_trade 8 = .ok (.ifCond .ne 9, 3) := by decide +kernel
theorem dX11_trade_11 : decode cX11_trade 11 = .ok (.aload_n 0, 1) := by decide +kernel
theorem dX11_trade_12 : decode cX11_trade 12 = .ok (.iconst 2, 1) := by decide +kernel
theorem dX11_trade_13 : decode cX11_trade 13 = .ok (.invokevirtual 114, 3) := by decide +kernel
theorem dX11_trade_16 : decode cX11_trade 16 = .ok (.ireturn, 1) := by decide +kernel
theorem dX11_trade_17 : decode cX11_trade 17 = .ok (.aload_n 0, 1) := by decide +kernel
theorem dX11_trade_18 : decode cX11_trade 18 = .ok (.getfield 43, 3) := by decide +kernel
theorem dX11_trade_21 : decode cX11_trade 21 = .ok (.iload_n 1, 1) := by decide +kernel
theorem dX11_trade_22 : decode cX11_trade 22 = .ok (.invokevirtual 272, 3) := by decide +kernel
theorem dX11_trade_25 : decode cX11_trade 25 = .ok (.iload_n 2, 1) := by decide +kernel
theorem dX11_trade_26 : decode cX11_trade 26 = .ok (.if_icmp .ne 10, 3) := by decide +kernel
theorem dX11_trade_29 : decode cX11_trade 29 = .ok (.aload_n 0, 1) := by decide +kernel
theorem dX11_trade_30 : decode cX11_trade 30 = .ok (.bipush 9, 2) := by decide +kernel
theorem dX11_trade_32 : decode cX11_trade 32 = .ok (.invokevirtual 114, 3) := by decide +kernel
theorem dX11_trade_35 : decode cX11_trade 35 = .ok (.ireturn, 1) := by decide +kernel
theorem dX11_trade_36 : decode cX11_trade 36 = .ok (.aload_n 0, 1) := by decide +kernel
theorem dX11_trade_37 : decode cX11_trade 37 = .ok (.getfield 43, 3) := by decide +kernel
theorem dX11_trade_40 : decode cX11_trade 40 = .ok (.dup, 1) := by decide +kernel
theorem dX11_trade_41 : decode cX11_trade 41 = .ok (.getfield 235, 3) := by decide +kernel
theorem dX11_trade_44 : decode cX11_trade 44 = .ok (.iconst 1, 1) := by decide +kernel
theorem dX11_trade_45 : decode cX11_trade 45 = .ok (.iload_n 1, 1) := by decide +kernel
theorem dX11_trade_46 : decode cX11_trade 46 = .ok (.ishl, 1) := by decide +kernel
theorem dX11_trade_47 : decode cX11_trade 47 = .ok (.ixor, 1) := by decide +kernel
theorem dX11_trade_48 : decode cX11_trade 48 = .ok (.putfield 235, 3) := by decide +kernel
theorem dX11_trade_51 : decode cX11_trade 51 = .ok (.aload_n 0, 1) := by decide +kernel
theorem dX11_trade_52 : decode cX11_trade 52 = .ok (.invokevirtual 121, 3) := by decide +kernel
theorem dX11_trade_55 : decode cX11_trade 55 = .ok (.ireturn, 1) := by decide +kernel
theorem mw_X11_trade : MW yX11_trade cX11_trade 3 3 2 false := ⟨tm 1215 (by decide +kernel) rfl, tm 235 (by decide +kernel) rfl, by decide, by decide, (by rw [if_neg (by decide)]; exact ⟨tm 1213 (by decide +kernel) rfl, tm 1214 (by decide +kernel) rfl⟩)⟩
def H_trade (a1 : Int) (a2 : Int) (σ : Sg) : Rs := (bd (Pr_isPerson 8 a1 σ) (fun r1 s2 => (if r1 = 0 then (bd (H_refuse 2 s2) (fun r3 s4 => (zb r3 (some (r3, s4))))) else (bd (Pr_isBarber 8 a1 s2) (fun r5 s6 => (if r5 = a2 then (bd (H_refuse 9 s6) (fun r7 s8 => (zb r7 (some (r7, s8))))) else (nm (up_s s6 8 17 (xo32 (s6 8 17) (sl32 1 a1))) (fun s9 => (bd (H_agree s9) (fun r10 s11 => (zb r10 (some (r10, s11)))))))))))))
theorem ok_H_trade (a1 : Int) (a2 : Int) (σ : Sg) : MC l Kh Ph yX11_trade cX11_trade 3 3 3 [.inr (.inr 0), .inl a1, .inl a2] σ (H_trade a1 a2 σ) := by
  refine mc_of (by decide) (Nat.le_of_ble_eq_true rfl) ?_
  change G l Kh Ph RX11 cX11_trade 3 3 3 0 [some (.inr (.inr 0)), some (.inl a1), some (.inl a2)] [] σ (H_trade a1 a2 σ)
  unfold H_trade
  refine g_aload_n dX11_trade_0 rfl rfl ?_
  refine g_getr' (q := 8) fl_RX11_43 kh_0 (by decide) rfl dX11_trade_1 ?_
  refine g_iload_n dX11_trade_4 rfl rfl ?_
  refine g_callv3 (st := []) 4 mw_X4_isPerson lk_RX11_266 rfl kh_8 (ok_Pr_isPerson 8 a1 kh_8 σ) (Nat.le_of_ble_eq_true rfl) rfl rfl (Nat.le_of_ble_eq_true rfl) dX11_trade_5 ?_
  intro r1 s2
  refine g_ifne (tgt := 17) dX11_trade_8 (by decide) ?_ ?_
  · refine g_aload_n dX11_trade_11 rfl rfl ?_
    refine g_iconst dX11_trade_12 (by decide) ?_
    refine g_callv3 (st := []) 9 mw_X11_refuse lk_RX11_114 rfl kh_0 (ok_H_refuse 2 s2) (Nat.le_of_ble_eq_true rfl) rfl rfl (Nat.le_of_ble_eq_true rfl) dX11_trade_13 ?_
    intro r3 s4
    exact g_zret dX11_trade_16
  · refine g_aload_n dX11_trade_17 rfl rfl ?_
    refine g_getr' (q := 8) fl_RX11_43 kh_0 (by decide) rfl dX11_trade_18 ?_
    refine g_iload_n dX11_trade_21 rfl rfl ?_
    refine g_callv3 (st := []) 4 mw_X4_isBarber lk_RX11_272 rfl kh_8 (ok_Pr_isBarber 8 a1 kh_8 s2) (Nat.le_of_ble_eq_true rfl) rfl rfl (Nat.le_of_ble_eq_true rfl) dX11_trade_22 ?_
    intro r5 s6
    refine g_iload_n dX11_trade_25 rfl rfl ?_
    refine g_icmpne (tgt := 36) dX11_trade_26 (by decide) ?_ ?_
    · refine g_aload_n dX11_trade_29 rfl rfl ?_
      refine g_bipush dX11_trade_30 (by decide) ?_
      refine g_callv3 (st := []) 9 mw_X11_refuse lk_RX11_114 rfl kh_0 (ok_H_refuse 9 s6) (Nat.le_of_ble_eq_true rfl) rfl rfl (Nat.le_of_ble_eq_true rfl) dX11_trade_32 ?_
      intro r7 s8
      exact g_zret dX11_trade_35
    · refine g_aload_n dX11_trade_36 rfl rfl ?_
      refine g_getr' (q := 8) fl_RX11_43 kh_0 (by decide) rfl dX11_trade_37 ?_
      refine g_dup dX11_trade_40 rfl ?_
      refine g_geti fl_RX11_235 kh_8 (by decide) dX11_trade_41 ?_
      refine g_iconst dX11_trade_44 (by decide) ?_
      refine g_iload_n dX11_trade_45 rfl rfl ?_
      refine g_ishl dX11_trade_46 ?_
      refine g_ixor dX11_trade_47 ?_
      refine g_puti fl_RX11_235 kh_8 (by decide) dX11_trade_48 ?_
      intro s9
      refine g_aload_n dX11_trade_51 rfl rfl ?_
      refine g_callv3 (st := []) 9 mw_X11_agree lk_RX11_121 rfl kh_0 (ok_H_agree s9) (Nat.le_of_ble_eq_true rfl) rfl rfl (Nat.le_of_ble_eq_true rfl) dX11_trade_52 ?_
      intro r10 s11
      exact g_zret dX11_trade_55
theorem dX11_train_0 : decode cX11_train 0 = .ok (.aload_n 0, 1) := by decide +kernel
theorem dX11_train_1 : decode cX11_train 1 = .ok (.getfield 43, 3) := by decide +kernel
theorem dX11_train_4 : decode cX11_train 4 = .ok (.iload_n 1, 1) := by decide +kernel
theorem dX11_train_5 : decode cX11_train 5 = .ok (.invokevirtual 266, 3) := by decide +kernel
theorem dX11_train_8 : decode cX11_train 8 = .ok (.ifCond .ne 9, 3) := by decide +kernel
theorem dX11_train_11 : decode cX11_train 11 = .ok (.aload_n 0, 1) := by decide +kernel
theorem dX11_train_12 : decode cX11_train 12 = .ok (.iconst 2, 1) := by decide +kernel
theorem dX11_train_13 : decode cX11_train 13 = .ok (.invokevirtual 114, 3) := by decide +kernel
theorem dX11_train_16 : decode cX11_train 16 = .ok (.ireturn, 1) := by decide +kernel
theorem dX11_train_17 : decode cX11_train 17 = .ok (.iload_n 2, 1) := by decide +kernel
theorem dX11_train_18 : decode cX11_train 18 = .ok (.iconst 0, 1) := by decide +kernel
theorem dX11_train_19 : decode cX11_train 19 = .ok (.sipush 999, 3) := by decide +kernel
theorem dX11_train_22 : decode cX11_train 22 = .ok (.invokestatic 135, 3) := by decide +kernel
theorem dX11_train_25 : decode cX11_train 25 = .ok (.ifCond .ne 9, 3) := by decide +kernel
theorem dX11_train_28 : decode cX11_train 28 = .ok (.aload_n 0, 1) := by decide +kernel
theorem dX11_train_29 : decode cX11_train 29 = .ok (.iconst 5, 1) := by decide +kernel
theorem dX11_train_30 : decode cX11_train 30 = .ok (.invokevirtual 114, 3) := by decide +kernel
theorem dX11_train_33 : decode cX11_train 33 = .ok (.ireturn, 1) := by decide +kernel
theorem dX11_train_34 : decode cX11_train 34 = .ok (.aload_n 0, 1) := by decide +kernel
theorem dX11_train_35 : decode cX11_train 35 = .ok (.getfield 43, 3) := by decide +kernel
theorem dX11_train_38 : decode cX11_train 38 = .ok (.getfield 269, 3) := by decide +kernel
theorem dX11_train_41 : decode cX11_train 41 = .ok (.iload_n 1, 1) := by decide +kernel
theorem dX11_train_42 : decode cX11_train 42 = .ok (.iload_n 2, 1) := by decide +kernel
theorem dX11_train_43 : decode cX11_train 43 = .ok (.iastore, 1) := by decide +kernel
theorem dX11_train_44 : decode cX11_train 44 = .ok (.aload_n 0, 1) := by decide +kernel
theorem dX11_train_45 : decode cX11_train 45 = .ok (.invokevirtual 121, 3) := by decide +kernel
theorem dX11_train_48 : decode cX11_train 48 = .ok (.ireturn, 1) := by decide +kernel
theorem mw_X11_train : MW yX11_train cX11_train 3 3 2 false := ⟨tm 1211 (by decide +kernel) rfl, tm 235 (by decide +kernel) rfl, by decide, by decide, (by rw [if_neg (by decide)]; exact ⟨tm 1209 (by decide +kernel) rfl, tm 1210 (by decide +kernel) rfl⟩)⟩
def H_train (a1 : Int) (a2 : Int) (σ : Sg) : Rs := (bd (Pr_isPerson 8 a1 σ) (fun r1 s2 => (if r1 = 0 then (bd (H_refuse 2 s2) (fun r3 s4 => (zb r3 (some (r3, s4))))) else (bd (H_within a2 0 999 s2) (fun r5 s6 => (if r5 = 0 then (bd (H_refuse 5 s6) (fun r7 s8 => (zb r7 (some (r7, s8))))) else (wr 6 a1 (up_s s6 13 (Int.toNat a1) a2) (fun s9 => (bd (H_agree s9) (fun r10 s11 => (zb r10 (some (r10, s11)))))))))))))
theorem ok_H_train (a1 : Int) (a2 : Int) (σ : Sg) : MC l Kh Ph yX11_train cX11_train 3 3 2 [.inr (.inr 0), .inl a1, .inl a2] σ (H_train a1 a2 σ) := by
  refine mc_of (by decide) (Nat.le_of_ble_eq_true rfl) ?_
  change G l Kh Ph RX11 cX11_train 3 3 2 0 [some (.inr (.inr 0)), some (.inl a1), some (.inl a2)] [] σ (H_train a1 a2 σ)
  unfold H_train
  refine g_aload_n dX11_train_0 rfl rfl ?_
  refine g_getr' (q := 8) fl_RX11_43 kh_0 (by decide) rfl dX11_train_1 ?_
  refine g_iload_n dX11_train_4 rfl rfl ?_
  refine g_callv3 (st := []) 4 mw_X4_isPerson lk_RX11_266 rfl kh_8 (ok_Pr_isPerson 8 a1 kh_8 σ) (Nat.le_of_ble_eq_true rfl) rfl rfl (Nat.le_of_ble_eq_true rfl) dX11_train_5 ?_
  intro r1 s2
  refine g_ifne (tgt := 17) dX11_train_8 (by decide) ?_ ?_
  · refine g_aload_n dX11_train_11 rfl rfl ?_
    refine g_iconst dX11_train_12 (by decide) ?_
    refine g_callv3 (st := []) 9 mw_X11_refuse lk_RX11_114 rfl kh_0 (ok_H_refuse 2 s2) (Nat.le_of_ble_eq_true rfl) rfl rfl (Nat.le_of_ble_eq_true rfl) dX11_train_13 ?_
    intro r3 s4
    exact g_zret dX11_train_16
  · refine g_iload_n dX11_train_17 rfl rfl ?_
    refine g_iconst dX11_train_18 (by decide) ?_
    refine g_sipush dX11_train_19 (by decide) ?_
    refine g_calls3 (st := []) mw_X11_within lk_RX11_135 (ok_H_within a2 0 999 s2) (Nat.le_of_ble_eq_true rfl) rfl rfl (Nat.le_of_ble_eq_true rfl) dX11_train_22 ?_
    intro r5 s6
    refine g_ifne (tgt := 34) dX11_train_25 (by decide) ?_ ?_
    · refine g_aload_n dX11_train_28 rfl rfl ?_
      refine g_iconst dX11_train_29 (by decide) ?_
      refine g_callv3 (st := []) 9 mw_X11_refuse lk_RX11_114 rfl kh_0 (ok_H_refuse 5 s6) (Nat.le_of_ble_eq_true rfl) rfl rfl (Nat.le_of_ble_eq_true rfl) dX11_train_30 ?_
      intro r7 s8
      exact g_zret dX11_train_33
    · refine g_aload_n dX11_train_34 rfl rfl ?_
      refine g_getr' (q := 8) fl_RX11_43 kh_0 (by decide) rfl dX11_train_35 ?_
      refine g_getr' (q := 13) fl_RX11_269 kh_8 (by decide) rfl dX11_train_38 ?_
      refine g_iload_n dX11_train_41 rfl rfl ?_
      refine g_iload_n dX11_train_42 rfl rfl ?_
      refine g_iast kh_13 dX11_train_43 ?_
      intro s9
      refine g_aload_n dX11_train_44 rfl rfl ?_
      refine g_callv3 (st := []) 9 mw_X11_agree lk_RX11_121 rfl kh_0 (ok_H_agree s9) (Nat.le_of_ble_eq_true rfl) rfl rfl (Nat.le_of_ble_eq_true rfl) dX11_train_45 ?_
      intro r10 s11
      exact g_zret dX11_train_48
theorem dX8_isSort_0 : decode cX8_isSort 0 = .ok (.iload_n 1, 1) := by decide +kernel
theorem dX8_isSort_1 : decode cX8_isSort 1 = .ok (.ifCond .lt 12, 3) := by decide +kernel
theorem dX8_isSort_4 : decode cX8_isSort 4 = .ok (.iload_n 1, 1) := by decide +kernel
theorem dX8_isSort_5 : decode cX8_isSort 5 = .ok (.iconst 4, 1) := by decide +kernel
theorem dX8_isSort_6 : decode cX8_isSort 6 = .ok (.if_icmp .ge 7, 3) := by decide +kernel
theorem dX8_isSort_9 : decode cX8_isSort 9 = .ok (.iconst 1, 1) := by decide +kernel
theorem dX8_isSort_10 : decode cX8_isSort 10 = .ok (.goto 4, 3) := by decide +kernel
theorem dX8_isSort_13 : decode cX8_isSort 13 = .ok (.iconst 0, 1) := by decide +kernel
theorem dX8_isSort_14 : decode cX8_isSort 14 = .ok (.ireturn, 1) := by decide +kernel
theorem mw_X8_isSort : MW yX8_isSort cX8_isSort 2 3 1 false := ⟨tm 706 (by decide +kernel) rfl, tm 236 (by decide +kernel) rfl, by decide, by decide, (by rw [if_neg (by decide)]; exact ⟨tm 705 (by decide +kernel) rfl, tm 1 (by decide +kernel) rfl⟩)⟩
def Tr_isSort (a1 : Int) (σ : Sg) : Rs := (if a1 < 0 then (some (0, σ)) else (if a1 < 4 then (some (1, σ)) else (some (0, σ))))
theorem ok_Tr_isSort (a1 : Int) (σ : Sg) : MC l Kh Ph yX8_isSort cX8_isSort 2 3 1 [.inr (.inr 1), .inl a1] σ (Tr_isSort a1 σ) := by
  refine mc_of (by decide) (Nat.le_of_ble_eq_true rfl) ?_
  change G l Kh Ph RX8 cX8_isSort 2 3 1 0 [some (.inr (.inr 1)), some (.inl a1)] [] σ (Tr_isSort a1 σ)
  unfold Tr_isSort
  refine g_iload_n dX8_isSort_0 rfl rfl ?_
  refine g_iflt (tgt := 13) dX8_isSort_1 (by decide) ?_ ?_
  · refine g_iconst dX8_isSort_13 (by decide) ?_
    exact g_zret0 dX8_isSort_14
  · refine g_iload_n dX8_isSort_4 rfl rfl ?_
    refine g_iconst dX8_isSort_5 (by decide) ?_
    refine g_icmpge (tgt := 13) dX8_isSort_6 (by decide) ?_ ?_
    · refine g_iconst dX8_isSort_9 (by decide) ?_
      refine g_goto (tgt := 14) dX8_isSort_10 (by decide) ?_
      exact g_zret1 dX8_isSort_14
    · refine g_iconst dX8_isSort_13 (by decide) ?_
      exact g_zret0 dX8_isSort_14
theorem dX8_make_0 : decode cX8_make 0 = .ok (.aload_n 0, 1) := by decide +kernel
theorem dX8_make_1 : decode cX8_make 1 = .ok (.iload_n 1, 1) := by decide +kernel
theorem dX8_make_2 : decode cX8_make 2 = .ok (.invokevirtual 22, 3) := by decide +kernel
theorem dX8_make_5 : decode cX8_make 5 = .ok (.ifCond .eq 13, 3) := by decide +kernel
theorem dX8_make_8 : decode cX8_make 8 = .ok (.iload_n 3, 1) := by decide +kernel
theorem dX8_make_9 : decode cX8_make 9 = .ok (.ifCond .lt 9, 3) := by decide +kernel
theorem dX8_make_12 : decode cX8_make 12 = .ok (.iload_n 3, 1) := by decide +kernel
theorem dX8_make_13 : decode cX8_make 13 = .ok (.bipush 60, 2) := by decide +kernel
theorem dX8_make_15 : decode cX8_make 15 = .ok (.if_icmp .le 4, 3) := by decide +kernel
theorem dX8_make_18 : decode cX8_make 18 = .ok (.return_, 1) := by decide +kernel
theorem dX8_make_19 : decode cX8_make 19 = .ok (.aload_n 0, 1) := by decide +kernel
theorem dX8_make_20 : decode cX8_make 20 = .ok (.getfield 11, 3) := by decide +kernel
theorem dX8_make_23 : decode cX8_make 23 = .ok (.iload_n 1, 1) := by decide +kernel
theorem dX8_make_24 : decode cX8_make 24 = .ok (.iload_n 2, 1) := by decide +kernel
theorem dX8_make_25 : decode cX8_make 25 = .ok (.iastore, 1) := by decide +kernel
theorem dX8_make_26 : decode cX8_make 26 = .ok (.aload_n 0, 1) := by decide +kernel
theorem dX8_make_27 : decode cX8_make 27 = .ok (.getfield 15, 3) := by decide +kernel
theorem dX8_make_30 : decode cX8_make 30 = .ok (.iload_n 1, 1) := by decide +kernel
theorem dX8_make_31 : decode cX8_make 31 = .ok (.iload_n 3, 1) := by decide +kernel
theorem dX8_make_32 : decode cX8_make 32 = .ok (.iastore, 1) := by decide +kernel
theorem dX8_make_33 : decode cX8_make 33 = .ok (.iconst 0, 1) := by decide +kernel
theorem dX8_make_34 : decode cX8_make 34 = .ok (.istore 4, 2) := by decide +kernel
theorem dX8_make_36 : decode cX8_make 36 = .ok (.iload 4, 2) := by decide +kernel
theorem dX8_make_38 : decode cX8_make 38 = .ok (.iload_n 3, 1) := by decide +kernel
theorem dX8_make_39 : decode cX8_make 39 = .ok (.if_icmp .ge 22, 3) := by decide +kernel
theorem dX8_make_42 : decode cX8_make 42 = .ok (.aload_n 0, 1) := by decide +kernel
theorem dX8_make_43 : decode cX8_make 43 = .ok (.getfield 18, 3) := by decide +kernel
theorem dX8_make_46 : decode cX8_make 46 = .ok (.iload_n 1, 1) := by decide +kernel
theorem dX8_make_47 : decode cX8_make 47 = .ok (.bipush 60, 2) := by decide +kernel
theorem dX8_make_49 : decode cX8_make 49 = .ok (.imul, 1) := by decide +kernel
theorem dX8_make_50 : decode cX8_make 50 = .ok (.iload 4, 2) := by decide +kernel
theorem dX8_make_52 : decode cX8_make 52 = .ok (.iadd, 1) := by decide +kernel
theorem dX8_make_53 : decode cX8_make 53 = .ok (.lconst 0, 1) := by decide +kernel
theorem dX8_make_54 : decode cX8_make 54 = .ok (.lastore, 1) := by decide +kernel
theorem dX8_make_55 : decode cX8_make 55 = .ok (.iinc 4 1, 3) := by decide +kernel
theorem dX8_make_58 : decode cX8_make 58 = .ok (.goto (-22), 3) := by decide +kernel
theorem dX8_make_61 : decode cX8_make 61 = .ok (.return_, 1) := by decide +kernel
theorem mw_X8_make : MW yX8_make cX8_make 5 2 3 false := ⟨tm 714 (by decide +kernel) rfl, tm 236 (by decide +kernel) rfl, by decide, by decide, (by rw [if_neg (by decide)]; exact ⟨tm 713 (by decide +kernel) rfl, tm 3 (by decide +kernel) rfl⟩)⟩
def Tr_make_L36 (a1 : Int) (a3 : Int) : Nat → Int → Sg → Rs
  | 0, _, _ => none
  | n + 1, v4, σ => (if v4 < a3 then (wr 240 (w32 ((w32 (a1 * 60)) + v4)) (up_s σ 4 (Int.toNat (w32 ((w32 (a1 * 60)) + v4))) 0) (fun s5 => (nm (w32 (v4 + 1)) (fun x6 => (Tr_make_L36 a1 a3 n x6 s5))))) else (some (0, σ)))
theorem ok_Tr_make_L36 (a1 : Int) (a3 : Int) : ∀ (n : Nat) (v4 : Int) (σ : Sg), G l Kh Ph RX8 cX8_make 5 2 2 36 [some (.inr (.inr 1)), some (.inl a1), none, some (.inl a3), some (.inl v4)] [] σ (Tr_make_L36 a1 a3 n v4 σ) := by
  intro n
  induction n with
  | zero => intros; exact G.none_
  | succ n ih =>
    intro v4 σ
    rw [Tr_make_L36]
    refine g_iload dX8_make_36 rfl ?_
    refine g_iload_n dX8_make_38 rfl rfl ?_
    refine g_icmpge (tgt := 61) dX8_make_39 (by decide) ?_ ?_
    · refine g_aload_n dX8_make_42 rfl rfl ?_
      refine g_getr' (q := 4) fl_RX8_18 kh_1 (by decide) rfl dX8_make_43 ?_
      refine g_iload_n dX8_make_46 rfl rfl ?_
      refine g_bipush dX8_make_47 (by decide) ?_
      refine g_imul dX8_make_49 ?_
      refine g_iload dX8_make_50 rfl ?_
      refine g_iadd dX8_make_52 ?_
      refine g_lconst (v := 0) dX8_make_53 (by decide) ?_
      refine g_last kh_4 dX8_make_54 ?_
      intro s5
      refine n_iinc (fun x6 => [some (.inr (.inr 1)), some (.inl a1), none, some (.inl a3), some (.inl x6)]) dX8_make_55 rfl (Nat.le_of_ble_eq_true rfl) (fun _ => rfl) ?_
      intro x6
      refine g_goto (tgt := 36) dX8_make_58 (by decide) ?_
      exact (ih x6 s5)
    · exact g_vret dX8_make_61
def Tr_make (a1 : Int) (a2 : Int) (a3 : Int) (σ : Sg) : Rs := (bd (Tr_isTray a1 σ) (fun r1 s2 => (if r1 = 0 then (some (0, s2)) else (if a3 < 0 then (some (0, s2)) else (if 60 < a3 then (some (0, s2)) else (wr 4 a1 (up_s s2 2 (Int.toNat a1) a2) (fun s3 => (wr 4 a1 (up_s s3 3 (Int.toNat a1) a3) (fun s4 => (Tr_make_L36 a1 a3 fu 0 s4))))))))))
theorem ok_Tr_make (a1 : Int) (a2 : Int) (a3 : Int) (σ : Sg) : MC l Kh Ph yX8_make cX8_make 5 2 2 [.inr (.inr 1), .inl a1, .inl a2, .inl a3] σ (Tr_make a1 a2 a3 σ) := by
  refine mc_of (by decide) (Nat.le_of_ble_eq_true rfl) ?_
  change G l Kh Ph RX8 cX8_make 5 2 2 0 [some (.inr (.inr 1)), some (.inl a1), some (.inl a2), some (.inl a3), none] [] σ (Tr_make a1 a2 a3 σ)
  unfold Tr_make
  refine g_aload_n dX8_make_0 rfl rfl ?_
  refine g_iload_n dX8_make_1 rfl rfl ?_
  refine g_callv3 (st := []) 7 mw_X8_isTray lk_RX8_22 rfl kh_1 (ok_Tr_isTray a1 σ) (Nat.le_of_ble_eq_true rfl) rfl rfl (Nat.le_of_ble_eq_true rfl) dX8_make_2 ?_
  intro r1 s2
  refine g_ifeq (tgt := 18) dX8_make_5 (by decide) ?_ ?_
  · exact g_vret dX8_make_18
  · refine g_iload_n dX8_make_8 rfl rfl ?_
    refine g_iflt (tgt := 18) dX8_make_9 (by decide) ?_ ?_
    · exact g_vret dX8_make_18
    · refine g_iload_n dX8_make_12 rfl rfl ?_
      refine g_bipush dX8_make_13 (by decide) ?_
      refine g_icmple (tgt := 19) dX8_make_15 (by decide) ?_ ?_
      · exact g_vret dX8_make_18
      · refine g_aload_n dX8_make_19 rfl rfl ?_
        refine g_getr' (q := 2) fl_RX8_11 kh_1 (by decide) rfl dX8_make_20 ?_
        refine g_iload_n dX8_make_23 rfl rfl ?_
        refine g_iload_n dX8_make_24 rfl rfl ?_
        refine g_iast kh_2 dX8_make_25 ?_
        intro s3
        refine g_aload_n dX8_make_26 rfl rfl ?_
        refine g_getr' (q := 3) fl_RX8_15 kh_1 (by decide) rfl dX8_make_27 ?_
        refine g_iload_n dX8_make_30 rfl rfl ?_
        refine g_iload_n dX8_make_31 rfl rfl ?_
        refine g_iast kh_3 dX8_make_32 ?_
        intro s4
        refine g_iconst dX8_make_33 (by decide) ?_
        refine g_istore (lv' := [some (.inr (.inr 1)), some (.inl a1), some (.inl a2), some (.inl a3), some (.inl 0)]) dX8_make_34 (Nat.le_of_ble_eq_true rfl) rfl ?_
        refine (g_weak [true, true, false, true, true] (ok_Tr_make_L36 a1 a3 fu 0 s4))
theorem dX11_tray_0 : decode cX11_tray 0 = .ok (.aload_n 0, 1) := by decide +kernel
theorem dX11_tray_1 : decode cX11_tray 1 = .ok (.getfield 29, 3) := by decide +kernel
theorem dX11_tray_4 : decode cX11_tray 4 = .ok (.iload_n 1, 1) := by decide +kernel
theorem dX11_tray_5 : decode cX11_tray 5 = .ok (.invokevirtual 107, 3) := by decide +kernel
theorem dX11_tray_8 : decode cX11_tray 8 = .ok (.ifCond .eq 14, 3) := by decide +kernel
theorem dX11_tray_11 : decode cX11_tray 11 = .ok (.aload_n 0, 1) := by decide +kernel
theorem dX11_tray_12 : decode cX11_tray 12 = .ok (.getfield 29, 3) := by decide +kernel
theorem dX11_tray_15 : decode cX11_tray 15 = .ok (.iload_n 2, 1) := by decide +kernel
theorem dX11_tray_16 : decode cX11_tray 16 = .ok (.invokevirtual 111, 3) := by decide +kernel
theorem dX11_tray_19 : decode cX11_tray 19 = .ok (.ifCond .ne 9, 3) := by decide +kernel
theorem dX11_tray_22 : decode cX11_tray 22 = .ok (.aload_n 0, 1) := by decide +kernel
theorem dX11_tray_23 : decode cX11_tray 23 = .ok (.iconst 1, 1) := by decide +kernel
theorem dX11_tray_24 : decode cX11_tray 24 = .ok (.invokevirtual 114, 3) := by decide +kernel
theorem dX11_tray_27 : decode cX11_tray 27 = .ok (.ireturn, 1) := by decide +kernel
theorem dX11_tray_28 : decode cX11_tray 28 = .ok (.iload_n 3, 1) := by decide +kernel
theorem dX11_tray_29 : decode cX11_tray 29 = .ok (.bipush 60, 2) := by decide +kernel
theorem dX11_tray_31 : decode cX11_tray 31 = .ok (.if_icmp .le 9, 3) := by decide +kernel
theorem dX11_tray_34 : decode cX11_tray 34 = .ok (.aload_n 0, 1) := by decide +kernel
theorem dX11_tray_35 : decode cX11_tray 35 = .ok (.iconst 5, 1) := by decide +kernel
theorem dX11_tray_36 : decode cX11_tray 36 = .ok (.invokevirtual 114, 3) := by decide +kernel
theorem dX11_tray_39 : decode cX11_tray 39 = .ok (.ireturn, 1) := by decide +kernel
theorem dX11_tray_40 : decode cX11_tray 40 = .ok (.iload_n 3, 1) := by decide +kernel
theorem dX11_tray_41 : decode cX11_tray 41 = .ok (.ifCond .ge 10, 3) := by decide +kernel
theorem dX11_tray_44 : decode cX11_tray 44 = .ok (.aload_n 0, 1) := by decide +kernel
theorem dX11_tray_45 : decode cX11_tray 45 = .ok (.bipush 6, 2) := by decide +kernel
theorem dX11_tray_47 : decode cX11_tray 47 = .ok (.invokevirtual 114, 3) := by decide +kernel
theorem dX11_tray_50 : decode cX11_tray 50 = .ok (.ireturn, 1) := by decide +kernel
theorem dX11_tray_51 : decode cX11_tray 51 = .ok (.aload_n 0, 1) := by decide +kernel
theorem dX11_tray_52 : decode cX11_tray 52 = .ok (.getfield 29, 3) := by decide +kernel
theorem dX11_tray_55 : decode cX11_tray 55 = .ok (.iload_n 1, 1) := by decide +kernel
theorem dX11_tray_56 : decode cX11_tray 56 = .ok (.iload_n 2, 1) := by decide +kernel
theorem dX11_tray_57 : decode cX11_tray 57 = .ok (.iload_n 3, 1) := by decide +kernel
theorem dX11_tray_58 : decode cX11_tray 58 = .ok (.invokevirtual 117, 3) := by decide +kernel
theorem dX11_tray_61 : decode cX11_tray 61 = .ok (.aload_n 0, 1) := by decide +kernel
theorem dX11_tray_62 : decode cX11_tray 62 = .ok (.invokevirtual 121, 3) := by decide +kernel
theorem dX11_tray_65 : decode cX11_tray 65 = .ok (.ireturn, 1) := by decide +kernel
theorem mw_X11_tray : MW yX11_tray cX11_tray 4 3 3 false := ⟨tm 698 (by decide +kernel) rfl, tm 235 (by decide +kernel) rfl, by decide, by decide, (by rw [if_neg (by decide)]; exact ⟨tm 696 (by decide +kernel) rfl, tm 697 (by decide +kernel) rfl⟩)⟩
theorem lk_RX11_111 : LK RX11 111 yX8_isSort := Or.inr ⟨"HairProvince", tm 703 (by decide +kernel) rfl⟩
theorem lk_RX11_117 : LK RX11 117 yX8_make := Or.inr ⟨"HairProvince", tm 711 (by decide +kernel) rfl⟩
def H_tray (a1 : Int) (a2 : Int) (a3 : Int) (σ : Sg) : Rs := (bd (Tr_isTray a1 σ) (fun r1 s2 => (if r1 = 0 then (bd (H_refuse 1 s2) (fun r3 s4 => (zb r3 (some (r3, s4))))) else (bd (Tr_isSort a2 s2) (fun r5 s6 => (if r5 = 0 then (bd (H_refuse 1 s6) (fun r7 s8 => (zb r7 (some (r7, s8))))) else (if 60 < a3 then (bd (H_refuse 5 s6) (fun r9 s10 => (zb r9 (some (r9, s10))))) else (if a3 < 0 then (bd (H_refuse 6 s6) (fun r11 s12 => (zb r11 (some (r11, s12))))) else (bd (Tr_make a1 a2 a3 s6) (fun r13 s14 => (bd (H_agree s14) (fun r15 s16 => (zb r15 (some (r15, s16)))))))))))))))
theorem ok_H_tray (a1 : Int) (a2 : Int) (a3 : Int) (σ : Sg) : MC l Kh Ph yX11_tray cX11_tray 4 3 3 [.inr (.inr 0), .inl a1, .inl a2, .inl a3] σ (H_tray a1 a2 a3 σ) := by
  refine mc_of (by decide) (Nat.le_of_ble_eq_true rfl) ?_
  change G l Kh Ph RX11 cX11_tray 4 3 3 0 [some (.inr (.inr 0)), some (.inl a1), some (.inl a2), some (.inl a3)] [] σ (H_tray a1 a2 a3 σ)
  unfold H_tray
  refine g_aload_n dX11_tray_0 rfl rfl ?_
  refine g_getr' (q := 1) fl_RX11_29 kh_0 (by decide) rfl dX11_tray_1 ?_
  refine g_iload_n dX11_tray_4 rfl rfl ?_
  refine g_callv3 (st := []) 7 mw_X8_isTray lk_RX11_107 rfl kh_1 (ok_Tr_isTray a1 σ) (Nat.le_of_ble_eq_true rfl) rfl rfl (Nat.le_of_ble_eq_true rfl) dX11_tray_5 ?_
  intro r1 s2
  refine g_ifeq (tgt := 22) dX11_tray_8 (by decide) ?_ ?_
  · refine g_aload_n dX11_tray_22 rfl rfl ?_
    refine g_iconst dX11_tray_23 (by decide) ?_
    refine g_callv3 (st := []) 9 mw_X11_refuse lk_RX11_114 rfl kh_0 (ok_H_refuse 1 s2) (Nat.le_of_ble_eq_true rfl) rfl rfl (Nat.le_of_ble_eq_true rfl) dX11_tray_24 ?_
    intro r3 s4
    exact g_zret dX11_tray_27
  · refine g_aload_n dX11_tray_11 rfl rfl ?_
    refine g_getr' (q := 1) fl_RX11_29 kh_0 (by decide) rfl dX11_tray_12 ?_
    refine g_iload_n dX11_tray_15 rfl rfl ?_
    refine g_callv3 (st := []) 7 mw_X8_isSort lk_RX11_111 rfl kh_1 (ok_Tr_isSort a2 s2) (Nat.le_of_ble_eq_true rfl) rfl rfl (Nat.le_of_ble_eq_true rfl) dX11_tray_16 ?_
    intro r5 s6
    refine g_ifne (tgt := 28) dX11_tray_19 (by decide) ?_ ?_
    · refine g_aload_n dX11_tray_22 rfl rfl ?_
      refine g_iconst dX11_tray_23 (by decide) ?_
      refine g_callv3 (st := []) 9 mw_X11_refuse lk_RX11_114 rfl kh_0 (ok_H_refuse 1 s6) (Nat.le_of_ble_eq_true rfl) rfl rfl (Nat.le_of_ble_eq_true rfl) dX11_tray_24 ?_
      intro r7 s8
      exact g_zret dX11_tray_27
    · refine g_iload_n dX11_tray_28 rfl rfl ?_
      refine g_bipush dX11_tray_29 (by decide) ?_
      refine g_icmple (tgt := 40) dX11_tray_31 (by decide) ?_ ?_
      · refine g_aload_n dX11_tray_34 rfl rfl ?_
        refine g_iconst dX11_tray_35 (by decide) ?_
        refine g_callv3 (st := []) 9 mw_X11_refuse lk_RX11_114 rfl kh_0 (ok_H_refuse 5 s6) (Nat.le_of_ble_eq_true rfl) rfl rfl (Nat.le_of_ble_eq_true rfl) dX11_tray_36 ?_
        intro r9 s10
        exact g_zret dX11_tray_39
      · refine g_iload_n dX11_tray_40 rfl rfl ?_
        refine g_ifge (tgt := 51) dX11_tray_41 (by decide) ?_ ?_
        · refine g_aload_n dX11_tray_44 rfl rfl ?_
          refine g_bipush dX11_tray_45 (by decide) ?_
          refine g_callv3 (st := []) 9 mw_X11_refuse lk_RX11_114 rfl kh_0 (ok_H_refuse 6 s6) (Nat.le_of_ble_eq_true rfl) rfl rfl (Nat.le_of_ble_eq_true rfl) dX11_tray_47 ?_
          intro r11 s12
          exact g_zret dX11_tray_50
        · refine g_aload_n dX11_tray_51 rfl rfl ?_
          refine g_getr' (q := 1) fl_RX11_29 kh_0 (by decide) rfl dX11_tray_52 ?_
          refine g_iload_n dX11_tray_55 rfl rfl ?_
          refine g_iload_n dX11_tray_56 rfl rfl ?_
          refine g_iload_n dX11_tray_57 rfl rfl ?_
          refine g_callv2 (st := []) 7 mw_X8_make lk_RX11_117 rfl kh_1 (ok_Tr_make a1 a2 a3 s6) (Nat.le_of_ble_eq_true rfl) rfl rfl (Nat.le_of_ble_eq_true rfl) dX11_tray_58 ?_
          intro r13 s14
          refine g_aload_n dX11_tray_61 rfl rfl ?_
          refine g_callv3 (st := []) 9 mw_X11_agree lk_RX11_121 rfl kh_0 (ok_H_agree s14) (Nat.le_of_ble_eq_true rfl) rfl rfl (Nat.le_of_ble_eq_true rfl) dX11_tray_62 ?_
          intro r15 s16
          exact g_zret dX11_tray_65
theorem dX11_unsaid_0 : decode cX11_unsaid 0 = .ok (.aload_n 0, 1) := by decide +kernel
theorem dX11_unsaid_1 : decode cX11_unsaid 1 = .ok (.iload_n 1, 1) := by decide +kernel
theorem dX11_unsaid_2 : decode cX11_unsaid 2 = .ok (.iload_n 2, 1) := by decide +kernel
theorem dX11_unsaid_3 : decode cX11_unsaid 3 = .ok (.invokevirtual 363, 3) := by decide +kernel
theorem dX11_unsaid_6 : decode cX11_unsaid 6 = .ok (.istore_n 3, 1) := by decide +kernel
theorem dX11_unsaid_7 : decode cX11_unsaid 7 = .ok (.iload_n 3, 1) := by decide +kernel
theorem dX11_unsaid_8 : decode cX11_unsaid 8 = .ok (.ifCond .eq 11, 3) := by decide +kernel
theorem dX11_unsaid_11 : decode cX11_unsaid 11 = .ok (.aload_n 0, 1) := by decide +kernel
theorem dX11_unsaid_12 : decode cX11_unsaid 12 = .ok (.iload_n 3, 1) := by decide +kernel
theorem dX11_unsaid_13 : decode cX11_unsaid 13 = .ok (.invokevirtual 147, 3) := by decide +kernel
theorem dX11_unsaid_16 : decode cX11_unsaid 16 = .ok (.goto 14, 3) := by decide +kernel
theorem dX11_unsaid_19 : decode cX11_unsaid 19 = .ok (.aload_n 0, 1) := by decide +kernel
theorem dX11_unsaid_20 : decode cX11_unsaid 20 = .ok (.aload_n 0, 1) := by decide +kernel
theorem dX11_unsaid_21 : decode cX11_unsaid 21 = .ok (.getfield 82, 3) := by decide +kernel
theorem dX11_unsaid_24 : decode cX11_unsaid 24 = .ok (.getfield 366, 3) := by decide +kernel
theorem dX11_unsaid_27 : decode cX11_unsaid 27 = .ok (.invokevirtual 194, 3) := by decide +kernel
theorem dX11_unsaid_30 : decode cX11_unsaid 30 = .ok (.ireturn, 1) := by decide +kernel
theorem mw_X11_unsaid : MW yX11_unsaid cX11_unsaid 4 0 2 false := ⟨tm 1283 (by decide +kernel) rfl, tm 235 (by decide +kernel) rfl, by decide, by decide, (by rw [if_neg (by decide)]; exact ⟨tm 1281 (by decide +kernel) rfl, tm 1282 (by decide +kernel) rfl⟩)⟩
def H_unsaid (a1 : Int) (a2 : Int) (σ : Sg) : Rs := (bd (H_gather a1 a2 σ) (fun r1 s2 => (if r1 = 0 then (bd (H_give (s2 99 1) s2) (fun r3 s4 => (some (r3, s4)))) else (bd (H_fail r1 s2) (fun r5 s6 => (some (r5, s6)))))))
theorem ok_H_unsaid (a1 : Int) (a2 : Int) (σ : Sg) : MC l Kh Ph yX11_unsaid cX11_unsaid 4 0 6 [.inr (.inr 0), .inl a1, .inl a2] σ (H_unsaid a1 a2 σ) := by
  refine mc_of (by decide) (Nat.le_of_ble_eq_true rfl) ?_
  change G l Kh Ph RX11 cX11_unsaid 4 0 6 0 [some (.inr (.inr 0)), some (.inl a1), some (.inl a2), none] [] σ (H_unsaid a1 a2 σ)
  unfold H_unsaid
  refine g_aload_n dX11_unsaid_0 rfl rfl ?_
  refine g_iload_n dX11_unsaid_1 rfl rfl ?_
  refine g_iload_n dX11_unsaid_2 rfl rfl ?_
  refine g_callv0 (st := []) 9 mw_X11_gather lk_RX11_363 rfl kh_0 (ok_H_gather a1 a2 σ) (Nat.le_of_ble_eq_true rfl) rfl rfl (Nat.le_of_ble_eq_true rfl) dX11_unsaid_3 ?_
  intro r1 s2
  refine g_istore_n (lv' := [some (.inr (.inr 0)), some (.inl a1), some (.inl a2), some (.inl r1)]) dX11_unsaid_6 rfl (Nat.le_of_ble_eq_true rfl) rfl ?_
  refine g_iload_n dX11_unsaid_7 rfl rfl ?_
  refine g_ifeq (tgt := 19) dX11_unsaid_8 (by decide) ?_ ?_
  · refine g_aload_n dX11_unsaid_19 rfl rfl ?_
    refine g_aload_n dX11_unsaid_20 rfl rfl ?_
    refine g_getr' (q := 99) fl_RX11_82 kh_0 (by decide) rfl dX11_unsaid_21 ?_
    refine g_geti fl_RX11_366 kh_99 (by decide) dX11_unsaid_24 ?_
    refine g_callv0 (st := []) 9 mw_X11_give lk_RX11_194 rfl kh_0 (ok_H_give (s2 99 1) s2) (Nat.le_of_ble_eq_true rfl) rfl rfl (Nat.le_of_ble_eq_true rfl) dX11_unsaid_27 ?_
    intro r3 s4
    exact g_iret dX11_unsaid_30
  · refine g_aload_n dX11_unsaid_11 rfl rfl ?_
    refine g_iload_n dX11_unsaid_12 rfl rfl ?_
    refine g_callv0 (st := []) 9 mw_X11_fail lk_RX11_147 rfl kh_0 (ok_H_fail r1 s2) (Nat.le_of_ble_eq_true rfl) rfl rfl (Nat.le_of_ble_eq_true rfl) dX11_unsaid_13 ?_
    intro r5 s6
    refine g_goto (tgt := 30) dX11_unsaid_16 (by decide) ?_
    exact g_iret dX11_unsaid_30
theorem dX11_wildIn_0 : decode cX11_wildIn 0 = .ok (.aload_n 0, 1) := by decide +kernel
theorem dX11_wildIn_1 : decode cX11_wildIn 1 = .ok (.getfield 43, 3) := by decide +kernel
theorem dX11_wildIn_4 : decode cX11_wildIn 4 = .ok (.iload_n 1, 1) := by decide +kernel
theorem dX11_wildIn_5 : decode cX11_wildIn 5 = .ok (.invokevirtual 266, 3) := by decide +kernel
theorem dX11_wildIn_8 : decode cX11_wildIn 8 = .ok (.ifCond .ne 9, 3) := by decide +kernel
theorem dX11_wildIn_11 : decode cX11_wildIn 11 = .ok (.aload_n 0, 1) := by decide +kernel
theorem dX11_wildIn_12 : decode cX11_wildIn 12 = .ok (.iconst 2, 1) := by decide +kernel
theorem dX11_wildIn_13 : decode cX11_wildIn 13 = .ok (.invokevirtual 147, 3) := by decide +kernel
theorem dX11_wildIn_16 : decode cX11_wildIn 16 = .ok (.ireturn, 1) := by decide +kernel
theorem dX11_wildIn_17 : decode cX11_wildIn 17 = .ok (.aload_n 0, 1) := by decide +kernel
theorem dX11_wildIn_18 : decode cX11_wildIn 18 = .ok (.getfield 47, 3) := by decide +kernel
theorem dX11_wildIn_21 : decode cX11_wildIn 21 = .ok (.aload_n 0, 1) := by decide +kernel
theorem dX11_wildIn_22 : decode cX11_wildIn 22 = .ok (.getfield 43, 3) := by decide +kernel
theorem dX11_wildIn_25 : decode cX11_wildIn 25 = .ok (.invokevirtual 184, 3) := by decide +kernel
theorem dX11_wildIn_28 : decode cX11_wildIn 28 = .ok (.iconst 0, 1) := by decide +kernel
theorem dX11_wildIn_29 : decode cX11_wildIn 29 = .ok (.istore_n 2, 1) := by decide +kernel
theorem dX11_wildIn_30 : decode cX11_wildIn 30 = .ok (.iload_n 2, 1) := by decide +kernel
theorem dX11_wildIn_31 : decode cX11_wildIn 31 = .ok (.sipush 200, 3) := by decide +kernel
theorem dX11_wildIn_34 : decode cX11_wildIn 34 = .ok (.if_icmp .gt 44, 3) := by decide +kernel
theorem dX11_wildIn_37 : decode cX11_wildIn 37 = .ok (.aload_n 0, 1) := by decide +kernel
theorem dX11_wildIn_38 : decode cX11_wildIn 38 = .ok (.getfield 47, 3) := by decide +kernel
theorem dX11_wildIn_41 : decode cX11_wildIn 41 = .ok (.iload_n 1, 1) := by decide +kernel
theorem dX11_wildIn_42 : decode cX11_wildIn 42 = .ok (.invokevirtual 281, 3) := by decide +kernel
theorem dX11_wildIn_45 : decode cX11_wildIn 45 = .ok (.aload_n 0, 1) := by decide +kernel
theorem dX11_wildIn_46 : decode cX11_wildIn 46 = .ok (.getfield 47, 3) := by decide +kernel
theorem dX11_wildIn_49 : decode cX11_wildIn 49 = .ok (.getfield 269, 3) := by decide +kernel
theorem dX11_wildIn_52 : decode cX11_wildIn 52 = .ok (.iload_n 1, 1) := by decide +kernel
theorem dX11_wildIn_53 : decode cX11_wildIn 53 = .ok (.iaload, 1) := by decide +kernel
theorem dX11_wildIn_54 : decode cX11_wildIn 54 = .ok (.if_icmp .le 9, 3) := by decide +kernel
theorem dX11_wildIn_57 : decode cX11_wildIn 57 = .ok (.aload_n 0, 1) := by decide +kernel
theorem dX11_wildIn_58 : decode cX11_wildIn 58 = .ok (.iload_n 2, 1) := by decide +kernel
theorem dX11_wildIn_59 : decode cX11_wildIn 59 = .ok (.invokevirtual 194, 3) := by decide +kernel
theorem dX11_wildIn_62 : decode cX11_wildIn 62 = .ok (.ireturn, 1) := by decide +kernel
theorem dX11_wildIn_63 : decode cX11_wildIn 63 = .ok (.aload_n 0, 1) := by decide +kernel
theorem dX11_wildIn_64 : decode cX11_wildIn 64 = .ok (.getfield 47, 3) := by decide +kernel
theorem dX11_wildIn_67 : decode cX11_wildIn 67 = .ok (.iconst 1, 1) := by decide +kernel
theorem dX11_wildIn_68 : decode cX11_wildIn 68 = .ok (.invokevirtual 300, 3) := by decide +kernel
theorem dX11_wildIn_71 : decode cX11_wildIn 71 = .ok (.pop, 1) := by decide +kernel
theorem dX11_wildIn_72 : decode cX11_wildIn 72 = .ok (.iinc 2 1, 3) := by decide +kernel
theorem dX11_wildIn_75 : decode cX11_wildIn 75 = .ok (.goto (-45), 3) := by decide +kernel
theorem dX11_wildIn_78 : decode cX11_wildIn 78 = .ok (.aload_n 0, 1) := by decide +kernel
theorem dX11_wildIn_79 : decode cX11_wildIn 79 = .ok (.bipush 8, 2) := by decide +kernel
theorem dX11_wildIn_81 : decode cX11_wildIn 81 = .ok (.invokevirtual 147, 3) := by decide +kernel
theorem dX11_wildIn_84 : decode cX11_wildIn 84 = .ok (.ireturn, 1) := by decide +kernel
theorem mw_X11_wildIn : MW yX11_wildIn cX11_wildIn 3 0 1 false := ⟨tm 1252 (by decide +kernel) rfl, tm 235 (by decide +kernel) rfl, by decide, by decide, (by rw [if_neg (by decide)]; exact ⟨tm 1250 (by decide +kernel) rfl, tm 1251 (by decide +kernel) rfl⟩)⟩
def H_wildIn_L30 (a1 : Int) : Nat → Int → Sg → Rs
  | 0, _, _ => none
  | n + 1, v2, σ => (if 200 < v2 then (bd (H_fail 8 σ) (fun r7 s8 => (some (r7, s8)))) else (bd (Pr_hairOf 19 a1 σ) (fun r9 s10 => (rd 6 a1 (s10 24 (Int.toNat a1)) (fun x11 => (if x11 < r9 then (bd (H_give v2 s10) (fun r12 s13 => (some (r12, s13)))) else (bd (Pr_passDays 19 1 s10) (fun r14 s15 => (nm (w32 (v2 + 1)) (fun x16 => (H_wildIn_L30 a1 n x16 s15)))))))))))
theorem ok_H_wildIn_L30 (a1 : Int) : ∀ (n : Nat) (v2 : Int) (σ : Sg), G l Kh Ph RX11 cX11_wildIn 3 0 5 30 [some (.inr (.inr 0)), some (.inl a1), some (.inl v2)] [] σ (H_wildIn_L30 a1 n v2 σ) := by
  intro n
  induction n with
  | zero => intros; exact G.none_
  | succ n ih =>
    intro v2 σ
    rw [H_wildIn_L30]
    refine g_iload_n dX11_wildIn_30 rfl rfl ?_
    refine g_sipush dX11_wildIn_31 (by decide) ?_
    refine g_icmpgt (tgt := 78) dX11_wildIn_34 (by decide) ?_ ?_
    · refine g_aload_n dX11_wildIn_78 rfl rfl ?_
      refine g_bipush dX11_wildIn_79 (by decide) ?_
      refine g_callv0 (st := []) 9 mw_X11_fail lk_RX11_147 rfl kh_0 (ok_H_fail 8 σ) (Nat.le_of_ble_eq_true rfl) rfl rfl (Nat.le_of_ble_eq_true rfl) dX11_wildIn_81 ?_
      intro r7 s8
      exact g_iret dX11_wildIn_84
    · refine g_aload_n dX11_wildIn_37 rfl rfl ?_
      refine g_getr' (q := 19) fl_RX11_47 kh_0 (by decide) rfl dX11_wildIn_38 ?_
      refine g_iload_n dX11_wildIn_41 rfl rfl ?_
      refine g_callv0 (st := []) 4 mw_X4_hairOf lk_RX11_281 rfl kh_19 (ok_Pr_hairOf 19 a1 kh_19 σ) (Nat.le_of_ble_eq_true rfl) rfl rfl (Nat.le_of_ble_eq_true rfl) dX11_wildIn_42 ?_
      intro r9 s10
      refine g_aload_n dX11_wildIn_45 rfl rfl ?_
      refine g_getr' (q := 19) fl_RX11_47 kh_0 (by decide) rfl dX11_wildIn_46 ?_
      refine g_getr' (q := 24) fl_RX11_269 kh_19 (by decide) rfl dX11_wildIn_49 ?_
      refine g_iload_n dX11_wildIn_52 rfl rfl ?_
      refine g_iald kh_24 dX11_wildIn_53 ?_
      intro x11
      refine g_icmple (tgt := 63) dX11_wildIn_54 (by decide) ?_ ?_
      · refine g_aload_n dX11_wildIn_57 rfl rfl ?_
        refine g_iload_n dX11_wildIn_58 rfl rfl ?_
        refine g_callv0 (st := []) 9 mw_X11_give lk_RX11_194 rfl kh_0 (ok_H_give v2 s10) (Nat.le_of_ble_eq_true rfl) rfl rfl (Nat.le_of_ble_eq_true rfl) dX11_wildIn_59 ?_
        intro r12 s13
        exact g_iret dX11_wildIn_62
      · refine g_aload_n dX11_wildIn_63 rfl rfl ?_
        refine g_getr' (q := 19) fl_RX11_47 kh_0 (by decide) rfl dX11_wildIn_64 ?_
        refine g_iconst dX11_wildIn_67 (by decide) ?_
        refine g_callv0 (st := []) 4 mw_X4_passDays lk_RX11_300 rfl kh_19 (ok_Pr_passDays 19 1 kh_19 s10) (Nat.le_of_ble_eq_true rfl) rfl rfl (Nat.le_of_ble_eq_true rfl) dX11_wildIn_68 ?_
        intro r14 s15
        refine g_pop dX11_wildIn_71 rfl ?_
        refine n_iinc (fun x16 => [some (.inr (.inr 0)), some (.inl a1), some (.inl x16)]) dX11_wildIn_72 rfl (Nat.le_of_ble_eq_true rfl) (fun _ => rfl) ?_
        intro x16
        refine g_goto (tgt := 30) dX11_wildIn_75 (by decide) ?_
        exact (ih x16 s15)
def H_wildIn (a1 : Int) (σ : Sg) : Rs := (bd (Pr_isPerson 8 a1 σ) (fun r1 s2 => (if r1 = 0 then (bd (H_fail 2 s2) (fun r3 s4 => (some (r3, s4)))) else (bd (Pr_copyFrom 19 8 s2) (fun r5 s6 => (H_wildIn_L30 a1 fu 0 s6))))))
theorem ok_H_wildIn (a1 : Int) (σ : Sg) : MC l Kh Ph yX11_wildIn cX11_wildIn 3 0 5 [.inr (.inr 0), .inl a1] σ (H_wildIn a1 σ) := by
  refine mc_of (by decide) (Nat.le_of_ble_eq_true rfl) ?_
  change G l Kh Ph RX11 cX11_wildIn 3 0 5 0 [some (.inr (.inr 0)), some (.inl a1), none] [] σ (H_wildIn a1 σ)
  unfold H_wildIn
  refine g_aload_n dX11_wildIn_0 rfl rfl ?_
  refine g_getr' (q := 8) fl_RX11_43 kh_0 (by decide) rfl dX11_wildIn_1 ?_
  refine g_iload_n dX11_wildIn_4 rfl rfl ?_
  refine g_callv3 (st := []) 4 mw_X4_isPerson lk_RX11_266 rfl kh_8 (ok_Pr_isPerson 8 a1 kh_8 σ) (Nat.le_of_ble_eq_true rfl) rfl rfl (Nat.le_of_ble_eq_true rfl) dX11_wildIn_5 ?_
  intro r1 s2
  refine g_ifne (tgt := 17) dX11_wildIn_8 (by decide) ?_ ?_
  · refine g_aload_n dX11_wildIn_11 rfl rfl ?_
    refine g_iconst dX11_wildIn_12 (by decide) ?_
    refine g_callv0 (st := []) 9 mw_X11_fail lk_RX11_147 rfl kh_0 (ok_H_fail 2 s2) (Nat.le_of_ble_eq_true rfl) rfl rfl (Nat.le_of_ble_eq_true rfl) dX11_wildIn_13 ?_
    intro r3 s4
    exact g_iret dX11_wildIn_16
  · refine g_aload_n dX11_wildIn_17 rfl rfl ?_
    refine g_getr' (q := 19) fl_RX11_47 kh_0 (by decide) rfl dX11_wildIn_18 ?_
    refine g_aload_n dX11_wildIn_21 rfl rfl ?_
    refine g_getr' (q := 8) fl_RX11_43 kh_0 (by decide) rfl dX11_wildIn_22 ?_
    refine g_callv2 (st := []) 4 mw_X4_copyFrom lk_RX11_184 rfl kh_19 (ok_Pr_copyFrom 19 8 kh_19 kh_8 s2) (Nat.le_of_ble_eq_true rfl) rfl rfl (Nat.le_of_ble_eq_true rfl) dX11_wildIn_25 ?_
    intro r5 s6
    refine g_iconst dX11_wildIn_28 (by decide) ?_
    refine g_istore_n (lv' := [some (.inr (.inr 0)), some (.inl a1), some (.inl 0)]) dX11_wildIn_29 rfl (Nat.le_of_ble_eq_true rfl) rfl ?_
    refine (ok_H_wildIn_L30 a1 fu 0 s6)
theorem dX11_word_0 : decode cX11_word 0 = .ok (.aload_n 0, 1) := by decide +kernel
theorem dX11_word_1 : decode cX11_word 1 = .ok (.getfield 43, 3) := by decide +kernel
theorem dX11_word_4 : decode cX11_word 4 = .ok (.iload_n 1, 1) := by decide +kernel
theorem dX11_word_5 : decode cX11_word 5 = .ok (.invokevirtual 248, 3) := by decide +kernel
theorem dX11_word_8 : decode cX11_word 8 = .ok (.ifCond .ne 9, 3) := by decide +kernel
theorem dX11_word_11 : decode cX11_word 11 = .ok (.aload_n 0, 1) := by decide +kernel
theorem dX11_word_12 : decode cX11_word 12 = .ok (.iconst 2, 1) := by decide +kernel
theorem dX11_word_13 : decode cX11_word 13 = .ok (.invokevirtual 147, 3) := by decide +kernel
theorem dX11_word_16 : decode cX11_word 16 = .ok (.ireturn, 1) := by decide +kernel
theorem dX11_word_17 : decode cX11_word 17 = .ok (.iload_n 2, 1) := by decide +kernel
theorem dX11_word_18 : decode cX11_word 18 = .ok (.tableswitch 102 0 4 #[34, 48, 62, 75, 88], 34) := by decide +kernel
theorem dX11_word_52 : decode cX11_word 52 = .ok (.aload_n 0, 1) := by decide +kernel
theorem dX11_word_53 : decode cX11_word 53 = .ok (.aload_n 0, 1) := by decide +kernel
theorem dX11_word_54 : decode cX11_word 54 = .ok (.getfield 43, 3) := by decide +kernel
theorem dX11_word_57 : decode cX11_word 57 = .ok (.getfield 251, 3) := by decide +kernel
theorem dX11_word_60 : decode cX11_word 60 = .ok (.iload_n 1, 1) := by decide +kernel
theorem dX11_word_61 : decode cX11_word 61 = .ok (.iaload, 1) := by decide +kernel
theorem dX11_word_62 : decode cX11_word 62 = .ok (.invokevirtual 194, 3) := by decide +kernel
theorem dX11_word_65 : decode cX11_word 65 = .ok (.ireturn, 1) := by decide +kernel
theorem dX11_word_66 : decode cX11_word 66 = .ok (.aload_n 0, 1) := by decide +kernel
theorem dX11_word_67 : decode cX11_word 67 = .ok (.aload_n 0, 1) := by decide +kernel
theorem dX11_word_68 : decode cX11_word 68 = .ok (.getfield 43, 3) := by decide +kernel
theorem dX11_word_71 : decode cX11_word 71 = .ok (.getfield 254, 3) := by decide +kernel
theorem dX11_word_74 : decode cX11_word 74 = .ok (.iload_n 1, 1) := by decide +kernel
theorem dX11_word_75 : decode cX11_word 75 = .ok (.iaload, 1) := by decide +kernel
theorem dX11_word_76 : decode cX11_word 76 = .ok (.invokevirtual 194, 3) := by decide +kernel
theorem dX11_word_79 : decode cX11_word 79 = .ok (.ireturn, 1) := by decide +kernel
theorem dX11_word_80 : decode cX11_word 80 = .ok (.aload_n 0, 1) := by decide +kernel
theorem dX11_word_81 : decode cX11_word 81 = .ok (.aload_n 0, 1) := by decide +kernel
theorem dX11_word_82 : decode cX11_word 82 = .ok (.getfield 43, 3) := by decide +kernel
theorem dX11_word_85 : decode cX11_word 85 = .ok (.iload_n 1, 1) := by decide +kernel
theorem dX11_word_86 : decode cX11_word 86 = .ok (.invokevirtual 257, 3) := by decide +kernel
theorem dX11_word_89 : decode cX11_word 89 = .ok (.invokevirtual 194, 3) := by decide +kernel
theorem dX11_word_92 : decode cX11_word 92 = .ok (.ireturn, 1) := by decide +kernel
theorem dX11_word_93 : decode cX11_word 93 = .ok (.aload_n 0, 1) := by decide +kernel
theorem dX11_word_94 : decode cX11_word 94 = .ok (.aload_n 0, 1) := by decide +kernel
theorem dX11_word_95 : decode cX11_word 95 = .ok (.getfield 43, 3) := by decide +kernel
theorem dX11_word_98 : decode cX11_word 98 = .ok (.iload_n 1, 1) := by decide +kernel
theorem dX11_word_99 : decode cX11_word 99 = .ok (.invokevirtual 260, 3) := by decide +kernel
theorem dX11_word_102 : decode cX11_word 102 = .ok (.invokevirtual 194, 3) := by decide +kernel
theorem dX11_word_105 : decode cX11_word 105 = .ok (.ireturn, 1) := by decide +kernel
theorem dX11_word_106 : decode cX11_word 106 = .ok (.aload_n 0, 1) := by decide +kernel
theorem dX11_word_107 : decode cX11_word 107 = .ok (.aload_n 0, 1) := by decide +kernel
theorem dX11_word_108 : decode cX11_word 108 = .ok (.getfield 43, 3) := by decide +kernel
theorem dX11_word_111 : decode cX11_word 111 = .ok (.getfield 263, 3) := by decide +kernel
theorem dX11_word_114 : decode cX11_word 114 = .ok (.iload_n 1, 1) := by decide +kernel
theorem dX11_word_115 : decode cX11_word 115 = .ok (.iaload, 1) := by decide +kernel
theorem dX11_word_116 : decode cX11_word 116 = .ok (.invokevirtual 194, 3) := by decide +kernel
theorem dX11_word_119 : decode cX11_word 119 = .ok (.ireturn, 1) := by decide +kernel
theorem dX11_word_120 : decode cX11_word 120 = .ok (.aload_n 0, 1) := by decide +kernel
theorem dX11_word_121 : decode cX11_word 121 = .ok (.iconst 5, 1) := by decide +kernel
theorem dX11_word_122 : decode cX11_word 122 = .ok (.invokevirtual 147, 3) := by decide +kernel
theorem dX11_word_125 : decode cX11_word 125 = .ok (.ireturn, 1) := by decide +kernel
theorem mw_X11_word : MW yX11_word cX11_word 3 0 2 false := ⟨tm 1079 (by decide +kernel) rfl, tm 235 (by decide +kernel) rfl, by decide, by decide, (by rw [if_neg (by decide)]; exact ⟨tm 1077 (by decide +kernel) rfl, tm 1078 (by decide +kernel) rfl⟩)⟩
theorem fl_RX11_251 : FL RX11 251 4 1 := ⟨_, _, _, _, cw_4, by decide, Or.inr (Or.inr (Or.inr (by decide))), Or.inl (by decide), Or.inr ⟨"HairProvince", tm 398 (by decide +kernel) rfl⟩⟩
theorem fl_RX11_254 : FL RX11 254 4 2 := ⟨_, _, _, _, cw_4, by decide, Or.inr (Or.inr (Or.inr (by decide))), Or.inl (by decide), Or.inr ⟨"HairProvince", tm 400 (by decide +kernel) rfl⟩⟩
theorem fl_RX11_263 : FL RX11 263 4 3 := ⟨_, _, _, _, cw_4, by decide, Or.inr (Or.inr (Or.inr (by decide))), Or.inl (by decide), Or.inr ⟨"HairProvince", tm 403 (by decide +kernel) rfl⟩⟩
def H_word (a1 : Int) (a2 : Int) (σ : Sg) : Rs := (bd (Pr_isWord 8 a1 σ) (fun r1 s2 => (if r1 = 0 then (bd (H_fail 2 s2) (fun r3 s4 => (some (r3, s4)))) else (sw a2 0 [(rd 8 a1 (s2 10 (Int.toNat a1)) (fun x5 => (bd (H_give x5 s2) (fun r6 s7 => (some (r6, s7)))))), (rd 8 a1 (s2 11 (Int.toNat a1)) (fun x8 => (bd (H_give x8 s2) (fun r9 s10 => (some (r9, s10)))))), (bd (Pr_knowersOf 8 a1 s2) (fun r11 s12 => (bd (H_give r11 s12) (fun r13 s14 => (some (r13, s14)))))), (bd (Pr_keepersOf 8 a1 s2) (fun r15 s16 => (bd (H_give r15 s16) (fun r17 s18 => (some (r17, s18)))))), (rd 8 a1 (s2 12 (Int.toNat a1)) (fun x19 => (bd (H_give x19 s2) (fun r20 s21 => (some (r20, s21))))))] (bd (H_fail 5 s2) (fun r22 s23 => (some (r22, s23))))))))
theorem ok_H_word (a1 : Int) (a2 : Int) (σ : Sg) : MC l Kh Ph yX11_word cX11_word 3 0 2 [.inr (.inr 0), .inl a1, .inl a2] σ (H_word a1 a2 σ) := by
  refine mc_of (by decide) (Nat.le_of_ble_eq_true rfl) ?_
  change G l Kh Ph RX11 cX11_word 3 0 2 0 [some (.inr (.inr 0)), some (.inl a1), some (.inl a2)] [] σ (H_word a1 a2 σ)
  unfold H_word
  refine g_aload_n dX11_word_0 rfl rfl ?_
  refine g_getr' (q := 8) fl_RX11_43 kh_0 (by decide) rfl dX11_word_1 ?_
  refine g_iload_n dX11_word_4 rfl rfl ?_
  refine g_callv3 (st := []) 4 mw_X4_isWord lk_RX11_248 rfl kh_8 (ok_Pr_isWord 8 a1 kh_8 σ) (Nat.le_of_ble_eq_true rfl) rfl rfl (Nat.le_of_ble_eq_true rfl) dX11_word_5 ?_
  intro r1 s2
  refine g_ifne (tgt := 17) dX11_word_8 (by decide) ?_ ?_
  · refine g_aload_n dX11_word_11 rfl rfl ?_
    refine g_iconst dX11_word_12 (by decide) ?_
    refine g_callv0 (st := []) 9 mw_X11_fail lk_RX11_147 rfl kh_0 (ok_H_fail 2 s2) (Nat.le_of_ble_eq_true rfl) rfl rfl (Nat.le_of_ble_eq_true rfl) dX11_word_13 ?_
    intro r3 s4
    exact g_iret dX11_word_16
  · refine g_iload_n dX11_word_17 rfl rfl ?_
    refine g_tsw (td := 120) [52, 66, 80, 93, 106] dX11_word_18 (by decide) rfl (And.intro ?_ (And.intro ?_ (And.intro ?_ (And.intro ?_ (And.intro ?_ trivial))))) ?_
    · refine g_aload_n dX11_word_52 rfl rfl ?_
      refine g_aload_n dX11_word_53 rfl rfl ?_
      refine g_getr' (q := 8) fl_RX11_43 kh_0 (by decide) rfl dX11_word_54 ?_
      refine g_getr' (q := 10) fl_RX11_251 kh_8 (by decide) rfl dX11_word_57 ?_
      refine g_iload_n dX11_word_60 rfl rfl ?_
      refine g_iald kh_10 dX11_word_61 ?_
      intro x5
      refine g_callv0 (st := []) 9 mw_X11_give lk_RX11_194 rfl kh_0 (ok_H_give x5 s2) (Nat.le_of_ble_eq_true rfl) rfl rfl (Nat.le_of_ble_eq_true rfl) dX11_word_62 ?_
      intro r6 s7
      exact g_iret dX11_word_65
    · refine g_aload_n dX11_word_66 rfl rfl ?_
      refine g_aload_n dX11_word_67 rfl rfl ?_
      refine g_getr' (q := 8) fl_RX11_43 kh_0 (by decide) rfl dX11_word_68 ?_
      refine g_getr' (q := 11) fl_RX11_254 kh_8 (by decide) rfl dX11_word_71 ?_
      refine g_iload_n dX11_word_74 rfl rfl ?_
      refine g_iald kh_11 dX11_word_75 ?_
      intro x8
      refine g_callv0 (st := []) 9 mw_X11_give lk_RX11_194 rfl kh_0 (ok_H_give x8 s2) (Nat.le_of_ble_eq_true rfl) rfl rfl (Nat.le_of_ble_eq_true rfl) dX11_word_76 ?_
      intro r9 s10
      exact g_iret dX11_word_79
    · refine g_aload_n dX11_word_80 rfl rfl ?_
      refine g_aload_n dX11_word_81 rfl rfl ?_
      refine g_getr' (q := 8) fl_RX11_43 kh_0 (by decide) rfl dX11_word_82 ?_
      refine g_iload_n dX11_word_85 rfl rfl ?_
      refine g_callv0 (st := [.inr (.inr 0)]) 4 mw_X4_knowersOf lk_RX11_257 rfl kh_8 (ok_Pr_knowersOf 8 a1 kh_8 s2) (Nat.le_of_ble_eq_true rfl) rfl rfl (Nat.le_of_ble_eq_true rfl) dX11_word_86 ?_
      intro r11 s12
      refine g_callv0 (st := []) 9 mw_X11_give lk_RX11_194 rfl kh_0 (ok_H_give r11 s12) (Nat.le_of_ble_eq_true rfl) rfl rfl (Nat.le_of_ble_eq_true rfl) dX11_word_89 ?_
      intro r13 s14
      exact g_iret dX11_word_92
    · refine g_aload_n dX11_word_93 rfl rfl ?_
      refine g_aload_n dX11_word_94 rfl rfl ?_
      refine g_getr' (q := 8) fl_RX11_43 kh_0 (by decide) rfl dX11_word_95 ?_
      refine g_iload_n dX11_word_98 rfl rfl ?_
      refine g_callv0 (st := [.inr (.inr 0)]) 4 mw_X4_keepersOf lk_RX11_260 rfl kh_8 (ok_Pr_keepersOf 8 a1 kh_8 s2) (Nat.le_of_ble_eq_true rfl) rfl rfl (Nat.le_of_ble_eq_true rfl) dX11_word_99 ?_
      intro r15 s16
      refine g_callv0 (st := []) 9 mw_X11_give lk_RX11_194 rfl kh_0 (ok_H_give r15 s16) (Nat.le_of_ble_eq_true rfl) rfl rfl (Nat.le_of_ble_eq_true rfl) dX11_word_102 ?_
      intro r17 s18
      exact g_iret dX11_word_105
    · refine g_aload_n dX11_word_106 rfl rfl ?_
      refine g_aload_n dX11_word_107 rfl rfl ?_
      refine g_getr' (q := 8) fl_RX11_43 kh_0 (by decide) rfl dX11_word_108 ?_
      refine g_getr' (q := 12) fl_RX11_263 kh_8 (by decide) rfl dX11_word_111 ?_
      refine g_iload_n dX11_word_114 rfl rfl ?_
      refine g_iald kh_12 dX11_word_115 ?_
      intro x19
      refine g_callv0 (st := []) 9 mw_X11_give lk_RX11_194 rfl kh_0 (ok_H_give x19 s2) (Nat.le_of_ble_eq_true rfl) rfl rfl (Nat.le_of_ble_eq_true rfl) dX11_word_116 ?_
      intro r20 s21
      exact g_iret dX11_word_119
    · refine g_aload_n dX11_word_120 rfl rfl ?_
      refine g_iconst dX11_word_121 (by decide) ?_
      refine g_callv0 (st := []) 9 mw_X11_fail lk_RX11_147 rfl kh_0 (ok_H_fail 5 s2) (Nat.le_of_ble_eq_true rfl) rfl rfl (Nat.le_of_ble_eq_true rfl) dX11_word_122 ?_
      intro r22 s23
      exact g_iret dX11_word_125
theorem dX11_write_0 : decode cX11_write 0 = .ok (.aload_n 0, 1) := by decide +kernel
theorem dX11_write_1 : decode cX11_write 1 = .ok (.iload_n 1, 1) := by decide +kernel
theorem dX11_write_2 : decode cX11_write 2 = .ok (.iload_n 2, 1) := by decide +kernel
theorem dX11_write_3 : decode cX11_write 3 = .ok (.invokevirtual 139, 3) := by decide +kernel
theorem dX11_write_6 : decode cX11_write 6 = .ok (.istore 5, 2) := by decide +kernel
theorem dX11_write_8 : decode cX11_write 8 = .ok (.iload 5, 2) := by decide +kernel
theorem dX11_write_10 : decode cX11_write 10 = .ok (.ifCond .eq 10, 3) := by decide +kernel
theorem dX11_write_13 : decode cX11_write 13 = .ok (.aload_n 0, 1) := by decide +kernel
theorem dX11_write_14 : decode cX11_write 14 = .ok (.iload 5, 2) := by decide +kernel
theorem dX11_write_16 : decode cX11_write 16 = .ok (.invokevirtual 114, 3) := by decide +kernel
theorem dX11_write_19 : decode cX11_write 19 = .ok (.ireturn, 1) := by decide +kernel
theorem dX11_write_20 : decode cX11_write 20 = .ok (.aload_n 0, 1) := by decide +kernel
theorem dX11_write_21 : decode cX11_write 21 = .ok (.getfield 29, 3) := by decide +kernel
theorem dX11_write_24 : decode cX11_write 24 = .ok (.iload_n 1, 1) := by decide +kernel
theorem dX11_write_25 : decode cX11_write 25 = .ok (.iload_n 2, 1) := by decide +kernel
theorem dX11_write_26 : decode cX11_write 26 = .ok (.lload_n 3, 1) := by decide +kernel
theorem dX11_write_27 : decode cX11_write 27 = .ok (.invokevirtual 143, 3) := by decide +kernel
theorem dX11_write_30 : decode cX11_write 30 = .ok (.aload_n 0, 1) := by decide +kernel
theorem dX11_write_31 : decode cX11_write 31 = .ok (.invokevirtual 121, 3) := by decide +kernel
theorem dX11_write_34 : decode cX11_write 34 = .ok (.ireturn, 1) := by decide +kernel
theorem mw_X11_write : MW yX11_write cX11_write 6 3 3 false := ⟨tm 723 (by decide +kernel) rfl, tm 235 (by decide +kernel) rfl, by decide, by decide, (by rw [if_neg (by decide)]; exact ⟨tm 721 (by decide +kernel) rfl, tm 722 (by decide +kernel) rfl⟩)⟩
def H_write (a1 : Int) (a2 : Int) (a3 : Int) (σ : Sg) : Rs := (bd (H_placeStatus a1 a2 σ) (fun r1 s2 => (if r1 = 0 then (bd (Tr_put a1 a2 a3 s2) (fun r3 s4 => (bd (H_agree s4) (fun r5 s6 => (zb r5 (some (r5, s6))))))) else (bd (H_refuse r1 s2) (fun r7 s8 => (zb r7 (some (r7, s8))))))))
theorem ok_H_write (a1 : Int) (a2 : Int) (a3 : Int) (σ : Sg) : MC l Kh Ph yX11_write cX11_write 6 3 5 [.inr (.inr 0), .inl a1, .inl a2, .inr (.inl a3)] σ (H_write a1 a2 a3 σ) := by
  refine mc_of (by decide) (Nat.le_of_ble_eq_true rfl) ?_
  change G l Kh Ph RX11 cX11_write 6 3 5 0 [some (.inr (.inr 0)), some (.inl a1), some (.inl a2), some (.inr (.inl a3)), none, none] [] σ (H_write a1 a2 a3 σ)
  unfold H_write
  refine g_aload_n dX11_write_0 rfl rfl ?_
  refine g_iload_n dX11_write_1 rfl rfl ?_
  refine g_iload_n dX11_write_2 rfl rfl ?_
  refine g_callv0 (st := []) 9 mw_X11_placeStatus lk_RX11_139 rfl kh_0 (ok_H_placeStatus a1 a2 σ) (Nat.le_of_ble_eq_true rfl) rfl rfl (Nat.le_of_ble_eq_true rfl) dX11_write_3 ?_
  intro r1 s2
  refine g_istore (lv' := [some (.inr (.inr 0)), some (.inl a1), some (.inl a2), some (.inr (.inl a3)), none, some (.inl r1)]) dX11_write_6 (Nat.le_of_ble_eq_true rfl) rfl ?_
  refine g_iload dX11_write_8 rfl ?_
  refine g_ifeq (tgt := 20) dX11_write_10 (by decide) ?_ ?_
  · refine g_aload_n dX11_write_20 rfl rfl ?_
    refine g_getr' (q := 1) fl_RX11_29 kh_0 (by decide) rfl dX11_write_21 ?_
    refine g_iload_n dX11_write_24 rfl rfl ?_
    refine g_iload_n dX11_write_25 rfl rfl ?_
    refine g_lload_n dX11_write_26 rfl rfl ?_
    refine g_callv2 (st := []) 7 mw_X8_put lk_RX11_143 rfl kh_1 (ok_Tr_put a1 a2 a3 s2) (Nat.le_of_ble_eq_true rfl) rfl rfl (Nat.le_of_ble_eq_true rfl) dX11_write_27 ?_
    intro r3 s4
    refine g_aload_n dX11_write_30 rfl rfl ?_
    refine g_callv3 (st := []) 9 mw_X11_agree lk_RX11_121 rfl kh_0 (ok_H_agree s4) (Nat.le_of_ble_eq_true rfl) rfl rfl (Nat.le_of_ble_eq_true rfl) dX11_write_31 ?_
    intro r5 s6
    exact g_zret dX11_write_34
  · refine g_aload_n dX11_write_13 rfl rfl ?_
    refine g_iload dX11_write_14 rfl ?_
    refine g_callv3 (st := []) 9 mw_X11_refuse lk_RX11_114 rfl kh_0 (ok_H_refuse r1 s2) (Nat.le_of_ble_eq_true rfl) rfl rfl (Nat.le_of_ble_eq_true rfl) dX11_write_16 ?_
    intro r7 s8
    exact g_zret dX11_write_19
theorem dX9_depth_0 : decode cX9_depth 0 = .ok (.iconst 0, 1) := by decide +kernel
theorem dX9_depth_1 : decode cX9_depth 1 = .ok (.istore_n 1, 1) := by decide +kernel
theorem dX9_depth_2 : decode cX9_depth 2 = .ok (.iconst 0, 1) := by decide +kernel
theorem dX9_depth_3 : decode cX9_depth 3 = .ok (.istore_n 2, 1) := by decide +kernel
theorem dX9_depth_4 : decode cX9_depth 4 = .ok (.iload_n 2, 1) := by decide +kernel
theorem dX9_depth_5 : decode cX9_depth 5 = .ok (.aload_n 0, 1) := by decide +kernel
theorem dX9_depth_6 : decode cX9_depth 6 = .ok (.getfield 27, 3) := by decide +kernel
theorem dX9_depth_9 : decode cX9_depth 9 = .ok (.if_icmp .ge 45, 3) := by decide +kernel
theorem dX9_depth_12 : decode cX9_depth 12 = .ok (.iload_n 2, 1) := by decide +kernel
theorem dX9_depth_13 : decode cX9_depth 13 = .ok (.bipush 60, 2) := by decide +kernel
theorem dX9_depth_15 : decode cX9_depth 15 = .ok (.if_icmp .ge 39, 3) := by decide +kernel
theorem dX9_depth_18 : decode cX9_depth 18 = .ok (.iload_n 1, 1) := by decide +kernel
theorem dX9_depth_19 : decode cX9_depth 19 = .ok (.aload_n 0, 1) := by decide +kernel
theorem dX9_depth_20 : decode cX9_depth 20 = .ok (.getfield 11, 3) := by decide +kernel
theorem dX9_depth_23 : decode cX9_depth 23 = .ok (.iload_n 2, 1) := by decide +kernel
theorem dX9_depth_24 : decode cX9_depth 24 = .ok (.iaload, 1) := by decide +kernel
theorem dX9_depth_25 : decode cX9_depth 25 = .ok (.invokestatic 56, 3) := by decide +kernel
theorem dX9_depth_28 : decode cX9_depth 28 = .ok (.ifCond .eq 17, 3) := by decide +kernel
theorem dX9_depth_31 : decode cX9_depth 31 = .ok (.aload_n 0, 1) := by decide +kernel
theorem dX9_depth_32 : decode cX9_depth 32 = .ok (.getfield 24, 3) := by decide +kernel
theorem dX9_depth_35 : decode cX9_depth 35 = .ok (.iload_n 2, 1) := by decide +kernel
theorem dX9_depth_36 : decode cX9_depth 36 = .ok (.iaload, 1) := by decide +kernel
theorem dX9_depth_37 : decode cX9_depth 37 = .ok (.iconst (-1), 1) := by decide +kernel
theorem dX9_depth_38 : decode cX9_depth 38 = .ok (.if_icmp .ne 7, 3) := by decide +kernel
theorem dX9_depth_41 : decode cX9_depth 41 = .ok (.iconst 1, 1) := by decide +kernel
theorem dX9_depth_42 : decode cX9_depth 42 = .ok (.goto 4, 3) := by decide +kernel
theorem dX9_depth_45 : decode cX9_depth 45 = .ok (.iconst 0, 1) := by decide +kernel
theorem dX9_depth_46 : decode cX9_depth 46 = .ok (.iadd, 1) := by decide +kernel
theorem dX9_depth_47 : decode cX9_depth 47 = .ok (.istore_n 1, 1) := by decide +kernel
theorem dX9_depth_48 : decode cX9_depth 48 = .ok (.iinc 2 1, 3) := by decide +kernel
theorem dX9_depth_51 : decode cX9_depth 51 = .ok (.goto (-47), 3) := by decide +kernel
theorem dX9_depth_54 : decode cX9_depth 54 = .ok (.iload_n 1, 1) := by decide +kernel
theorem dX9_depth_55 : decode cX9_depth 55 = .ok (.ireturn, 1) := by decide +kernel
theorem mw_X9_depth : MW yX9_depth cX9_depth 3 0 0 false := ⟨tm 985 (by decide +kernel) rfl, tm 243 (by decide +kernel) rfl, by decide, by decide, (by rw [if_neg (by decide)]; exact ⟨tm 984 (by decide +kernel) rfl, tm 47 (by decide +kernel) rfl⟩)⟩
theorem lk_RX9_56 : LK RX9 56 yX9_isBlock := Or.inl (tm 986 (by decide +kernel) rfl)
def Ye_depth_L4 (ye0 : Nat) : Nat → Int → Int → Sg → Rs
  | 0, _, _, _ => none
  | n + 1, v1, v2, σ => (if v2 < (σ ye0 5) then (if v2 < 60 then (rd 60 v2 (σ (ye0 + 1) (Int.toNat v2)) (fun x1 => (bd (Ye_isBlock x1 σ) (fun r2 s3 => (if r2 = 0 then (nm (w32 (v1 + 0)) (fun x4 => (nm (w32 (v2 + 1)) (fun x5 => (Ye_depth_L4 ye0 n x4 x5 s3))))) else (rd 60 v2 (s3 (ye0 + 5) (Int.toNat v2)) (fun x6 => (if x6 = (-1) then (nm (w32 (v1 + 1)) (fun x7 => (nm (w32 (v2 + 1)) (fun x8 => (Ye_depth_L4 ye0 n x7 x8 s3))))) else (nm (w32 (v1 + 0)) (fun x9 => (nm (w32 (v2 + 1)) (fun x10 => (Ye_depth_L4 ye0 n x9 x10 s3))))))))))))) else (some (v1, σ))) else (some (v1, σ)))
theorem ok_Ye_depth_L4 (ye0 : Nat) (hye0 : Kh[ye0]? = some (.inl 8)) : ∀ (n : Nat) (v1 v2 : Int) (σ : Sg), G l Kh Ph RX9 cX9_depth 3 0 2 4 [some (.inr (.inr ye0)), some (.inl v1), some (.inl v2)] [] σ (Ye_depth_L4 ye0 n v1 v2 σ) := by
  intro n
  induction n with
  | zero => intros; exact G.none_
  | succ n ih =>
    intro v1 v2 σ
    rw [Ye_depth_L4]
    refine g_iload_n dX9_depth_4 rfl rfl ?_
    refine g_aload_n dX9_depth_5 rfl rfl ?_
    refine g_geti fl_RX9_27 hye0 (by decide) dX9_depth_6 ?_
    refine g_icmpge (tgt := 54) dX9_depth_9 (by decide) ?_ ?_
    · refine g_iload_n dX9_depth_12 rfl rfl ?_
      refine g_bipush dX9_depth_13 (by decide) ?_
      refine g_icmpge (tgt := 54) dX9_depth_15 (by decide) ?_ ?_
      · refine g_iload_n dX9_depth_18 rfl rfl ?_
        refine g_aload_n dX9_depth_19 rfl rfl ?_
        refine g_getr' (q := (ye0 + 1)) fl_RX9_11 hye0 (by decide) (qy0 hye0) dX9_depth_20 ?_
        refine g_iload_n dX9_depth_23 rfl rfl ?_
        refine g_iald (ky0 hye0) dX9_depth_24 ?_
        intro x1
        refine g_calls3 (st := [.inl v1]) mw_X9_isBlock lk_RX9_56 (ok_Ye_isBlock x1 σ) (Nat.le_of_ble_eq_true rfl) rfl rfl (Nat.le_of_ble_eq_true rfl) dX9_depth_25 ?_
        intro r2 s3
        refine g_ifeq (tgt := 45) dX9_depth_28 (by decide) ?_ ?_
        · refine g_iconst dX9_depth_45 (by decide) ?_
          refine g_iadd dX9_depth_46 ?_
          refine n_istore_n (fun x4 => [some (.inr (.inr ye0)), some (.inl x4), some (.inl v2)]) dX9_depth_47 rfl (Nat.le_of_ble_eq_true rfl) (fun _ => rfl) ?_
          intro x4
          refine n_iinc (fun x5 => [some (.inr (.inr ye0)), some (.inl x4), some (.inl x5)]) dX9_depth_48 rfl (Nat.le_of_ble_eq_true rfl) (fun _ => rfl) ?_
          intro x5
          refine g_goto (tgt := 4) dX9_depth_51 (by decide) ?_
          exact (ih x4 x5 s3)
        · refine g_aload_n dX9_depth_31 rfl rfl ?_
          refine g_getr' (q := (ye0 + 5)) fl_RX9_24 hye0 (by decide) (qy4 hye0) dX9_depth_32 ?_
          refine g_iload_n dX9_depth_35 rfl rfl ?_
          refine g_iald (ky4 hye0) dX9_depth_36 ?_
          intro x6
          refine g_iconst dX9_depth_37 (by decide) ?_
          refine g_icmpne (tgt := 45) dX9_depth_38 (by decide) ?_ ?_
          · refine g_iconst dX9_depth_41 (by decide) ?_
            refine g_goto (tgt := 46) dX9_depth_42 (by decide) ?_
            refine g_iadd dX9_depth_46 ?_
            refine n_istore_n (fun x7 => [some (.inr (.inr ye0)), some (.inl x7), some (.inl v2)]) dX9_depth_47 rfl (Nat.le_of_ble_eq_true rfl) (fun _ => rfl) ?_
            intro x7
            refine n_iinc (fun x8 => [some (.inr (.inr ye0)), some (.inl x7), some (.inl x8)]) dX9_depth_48 rfl (Nat.le_of_ble_eq_true rfl) (fun _ => rfl) ?_
            intro x8
            refine g_goto (tgt := 4) dX9_depth_51 (by decide) ?_
            exact (ih x7 x8 s3)
          · refine g_iconst dX9_depth_45 (by decide) ?_
            refine g_iadd dX9_depth_46 ?_
            refine n_istore_n (fun x9 => [some (.inr (.inr ye0)), some (.inl x9), some (.inl v2)]) dX9_depth_47 rfl (Nat.le_of_ble_eq_true rfl) (fun _ => rfl) ?_
            intro x9
            refine n_iinc (fun x10 => [some (.inr (.inr ye0)), some (.inl x9), some (.inl x10)]) dX9_depth_48 rfl (Nat.le_of_ble_eq_true rfl) (fun _ => rfl) ?_
            intro x10
            refine g_goto (tgt := 4) dX9_depth_51 (by decide) ?_
            exact (ih x9 x10 s3)
      · refine g_iload_n dX9_depth_54 rfl rfl ?_
        exact g_iret dX9_depth_55
    · refine g_iload_n dX9_depth_54 rfl rfl ?_
      exact g_iret dX9_depth_55
def Ye_depth (ye0 : Nat) (σ : Sg) : Rs := (Ye_depth_L4 ye0 fu 0 0 σ)
theorem ok_Ye_depth (ye0 : Nat) (hye0 : Kh[ye0]? = some (.inl 8)) (σ : Sg) : MC l Kh Ph yX9_depth cX9_depth 3 0 2 [.inr (.inr ye0)] σ (Ye_depth ye0 σ) := by
  refine mc_of (by decide) (Nat.le_of_ble_eq_true rfl) ?_
  change G l Kh Ph RX9 cX9_depth 3 0 2 0 [some (.inr (.inr ye0)), none, none] [] σ (Ye_depth ye0 σ)
  unfold Ye_depth
  refine g_iconst dX9_depth_0 (by decide) ?_
  refine g_istore_n (lv' := [some (.inr (.inr ye0)), some (.inl 0), none]) dX9_depth_1 rfl (Nat.le_of_ble_eq_true rfl) rfl ?_
  refine g_iconst dX9_depth_2 (by decide) ?_
  refine g_istore_n (lv' := [some (.inr (.inr ye0)), some (.inl 0), some (.inl 0)]) dX9_depth_3 rfl (Nat.le_of_ble_eq_true rfl) rfl ?_
  refine (ok_Ye_depth_L4 ye0 hye0 fu 0 0 σ)
theorem dX10_isPlain_0 : decode cX10_isPlain 0 = .ok (.iload_n 0, 1) := by decide +kernel
theorem dX10_isPlain_1 : decode cX10_isPlain 1 = .ok (.bipush 12, 2) := by decide +kernel
theorem dX10_isPlain_3 : decode cX10_isPlain 3 = .ok (.if_icmp .eq 33, 3) := by decide +kernel
theorem dX10_isPlain_6 : decode cX10_isPlain 6 = .ok (.iload_n 0, 1) := by decide +kernel
theorem dX10_isPlain_7 : decode cX10_isPlain 7 = .ok (.bipush 13, 2) := by decide +kernel
theorem dX10_isPlain_9 : decode cX10_isPlain 9 = .ok (.if_icmp .eq 27, 3) := by decide +kernel
theorem dX10_isPlain_12 : decode cX10_isPlain 12 = .ok (.iload_n 0, 1) := by decide +kernel
theorem dX10_isPlain_13 : decode cX10_isPlain 13 = .ok (.bipush 14, 2) := by decide +kernel
theorem dX10_isPlain_15 : decode cX10_isPlain 15 = .ok (.if_icmp .eq 21, 3) := by decide +kernel
theorem dX10_isPlain_18 : decode cX10_isPlain 18 = .ok (.iload_n 0, 1) := by decide +kernel
theorem dX10_isPlain_19 : decode cX10_isPlain 19 = .ok (.bipush 16, 2) := by decide +kernel
theorem dX10_isPlain_21 : decode cX10_isPlain 21 = .ok (.if_icmp .eq 15, 3) := by decide +kernel
theorem dX10_isPlain_24 : decode cX10_isPlain 24 = .ok (.iload_n 0, 1) := by decide +kernel
theorem dX10_isPlain_25 : decode cX10_isPlain 25 = .ok (.bipush 18, 2) := by decide +kernel
theorem dX10_isPlain_27 : decode cX10_isPlain 27 = .ok (.if_icmp .eq 9, 3) := by decide +kernel
theorem dX10_isPlain_30 : decode cX10_isPlain 30 = .ok (.iload_n 0, 1) := by decide +kernel
theorem dX10_isPlain_31 : decode cX10_isPlain 31 = .ok (.bipush 24, 2) := by decide +kernel
theorem dX10_isPlain_33 : decode cX10_isPlain 33 = .ok (.if_icmp .ne 7, 3) := by decide +kernel
theorem dX10_isPlain_36 : decode cX10_isPlain 36 = .ok (.iconst 1, 1) := by decide +kernel
theorem dX10_isPlain_37 : decode cX10_isPlain 37 = .ok (.goto 4, 3) := by decide +kernel
theorem dX10_isPlain_40 : decode cX10_isPlain 40 = .ok (.iconst 0, 1) := by decide +kernel
theorem dX10_isPlain_41 : decode cX10_isPlain 41 = .ok (.ireturn, 1) := by decide +kernel
theorem mw_X10_isPlain : MW yX10_isPlain cX10_isPlain 1 3 1 true := ⟨tm 1013 (by decide +kernel) rfl, tm 253 (by decide +kernel) rfl, by decide, by decide, (by rw [if_pos rfl]; exact tm 1012 (by decide +kernel) rfl)⟩
def YR_isPlain (a0 : Int) (σ : Sg) : Rs := (if a0 = 12 then (some (1, σ)) else (if a0 = 13 then (some (1, σ)) else (if a0 = 14 then (some (1, σ)) else (if a0 = 16 then (some (1, σ)) else (if a0 = 18 then (some (1, σ)) else (if a0 = 24 then (some (1, σ)) else (some (0, σ))))))))
theorem ok_YR_isPlain (a0 : Int) (σ : Sg) : MC l Kh Ph yX10_isPlain cX10_isPlain 1 3 1 [.inl a0] σ (YR_isPlain a0 σ) := by
  refine mc_of (by decide) (Nat.le_of_ble_eq_true rfl) ?_
  change G l Kh Ph RX10 cX10_isPlain 1 3 1 0 [some (.inl a0)] [] σ (YR_isPlain a0 σ)
  unfold YR_isPlain
  refine g_iload_n dX10_isPlain_0 rfl rfl ?_
  refine g_bipush dX10_isPlain_1 (by decide) ?_
  refine g_icmpeq (tgt := 36) dX10_isPlain_3 (by decide) ?_ ?_
  · refine g_iconst dX10_isPlain_36 (by decide) ?_
    refine g_goto (tgt := 41) dX10_isPlain_37 (by decide) ?_
    exact g_zret1 dX10_isPlain_41
  · refine g_iload_n dX10_isPlain_6 rfl rfl ?_
    refine g_bipush dX10_isPlain_7 (by decide) ?_
    refine g_icmpeq (tgt := 36) dX10_isPlain_9 (by decide) ?_ ?_
    · refine g_iconst dX10_isPlain_36 (by decide) ?_
      refine g_goto (tgt := 41) dX10_isPlain_37 (by decide) ?_
      exact g_zret1 dX10_isPlain_41
    · refine g_iload_n dX10_isPlain_12 rfl rfl ?_
      refine g_bipush dX10_isPlain_13 (by decide) ?_
      refine g_icmpeq (tgt := 36) dX10_isPlain_15 (by decide) ?_ ?_
      · refine g_iconst dX10_isPlain_36 (by decide) ?_
        refine g_goto (tgt := 41) dX10_isPlain_37 (by decide) ?_
        exact g_zret1 dX10_isPlain_41
      · refine g_iload_n dX10_isPlain_18 rfl rfl ?_
        refine g_bipush dX10_isPlain_19 (by decide) ?_
        refine g_icmpeq (tgt := 36) dX10_isPlain_21 (by decide) ?_ ?_
        · refine g_iconst dX10_isPlain_36 (by decide) ?_
          refine g_goto (tgt := 41) dX10_isPlain_37 (by decide) ?_
          exact g_zret1 dX10_isPlain_41
        · refine g_iload_n dX10_isPlain_24 rfl rfl ?_
          refine g_bipush dX10_isPlain_25 (by decide) ?_
          refine g_icmpeq (tgt := 36) dX10_isPlain_27 (by decide) ?_ ?_
          · refine g_iconst dX10_isPlain_36 (by decide) ?_
            refine g_goto (tgt := 41) dX10_isPlain_37 (by decide) ?_
            exact g_zret1 dX10_isPlain_41
          · refine g_iload_n dX10_isPlain_30 rfl rfl ?_
            refine g_bipush dX10_isPlain_31 (by decide) ?_
            refine g_icmpne (tgt := 40) dX10_isPlain_33 (by decide) ?_ ?_
            · refine g_iconst dX10_isPlain_36 (by decide) ?_
              refine g_goto (tgt := 41) dX10_isPlain_37 (by decide) ?_
              exact g_zret1 dX10_isPlain_41
            · refine g_iconst dX10_isPlain_40 (by decide) ?_
              exact g_zret0 dX10_isPlain_41
theorem dX9_add_0 : decode cX9_add 0 = .ok (.aload_n 0, 1) := by decide +kernel
theorem dX9_add_1 : decode cX9_add 1 = .ok (.getfield 27, 3) := by decide +kernel
theorem dX9_add_4 : decode cX9_add 4 = .ok (.bipush 60, 2) := by decide +kernel
theorem dX9_add_6 : decode cX9_add 6 = .ok (.if_icmp .ge 84, 3) := by decide +kernel
theorem dX9_add_9 : decode cX9_add 9 = .ok (.aload_n 0, 1) := by decide +kernel
theorem dX9_add_10 : decode cX9_add 10 = .ok (.getfield 11, 3) := by decide +kernel
theorem dX9_add_13 : decode cX9_add 13 = .ok (.aload_n 0, 1) := by decide +kernel
theorem dX9_add_14 : decode cX9_add 14 = .ok (.getfield 27, 3) := by decide +kernel
theorem dX9_add_17 : decode cX9_add 17 = .ok (.iload_n 1, 1) := by decide +kernel
theorem dX9_add_18 : decode cX9_add 18 = .ok (.iastore, 1) := by decide +kernel
theorem dX9_add_19 : decode cX9_add 19 = .ok (.aload_n 0, 1) := by decide +kernel
theorem dX9_add_20 : decode cX9_add 20 = .ok (.getfield 15, 3) := by decide +kernel
theorem dX9_add_23 : decode cX9_add 23 = .ok (.aload_n 0, 1) := by decide +kernel
theorem dX9_add_24 : decode cX9_add 24 = .ok (.getfield 27, 3) := by decide +kernel
theorem dX9_add_27 : decode cX9_add 27 = .ok (.iload_n 2, 1) := by decide +kernel
theorem dX9_add_28 : decode cX9_add 28 = .ok (.iastore, 1) := by decide +kernel
theorem dX9_add_29 : decode cX9_add 29 = .ok (.aload_n 0, 1) := by decide +kernel
theorem dX9_add_30 : decode cX9_add 30 = .ok (.getfield 18, 3) := by decide +kernel
theorem dX9_add_33 : decode cX9_add 33 = .ok (.aload_n 0, 1) := by decide +kernel
theorem dX9_add_34 : decode cX9_add 34 = .ok (.getfield 27, 3) := by decide +kernel
theorem dX9_add_37 : decode cX9_add 37 = .ok (.iload_n 3, 1) := by decide +kernel
theorem dX9_add_38 : decode cX9_add 38 = .ok (.iastore, 1) := by decide +kernel
theorem dX9_add_39 : decode cX9_add 39 = .ok (.aload_n 0, 1) := by decide +kernel
theorem dX9_add_40 : decode cX9_add 40 = .ok (.getfield 21, 3) := by decide +kernel
theorem dX9_add_43 : decode cX9_add 43 = .ok (.aload_n 0, 1) := by decide +kernel
theorem dX9_add_44 : decode cX9_add 44 = .ok (.getfield 27, 3) := by decide +kernel
theorem dX9_add_47 : decode cX9_add 47 = .ok (.iload 4, 2) := by decide +kernel
theorem dX9_add_49 : decode cX9_add 49 = .ok (.iastore, 1) := by decide +kernel
theorem dX9_add_50 : decode cX9_add 50 = .ok (.aload_n 0, 1) := by decide +kernel
theorem dX9_add_51 : decode cX9_add 51 = .ok (.getfield 24, 3) := by decide +kernel
theorem dX9_add_54 : decode cX9_add 54 = .ok (.aload_n 0, 1) := by decide +kernel
theorem dX9_add_55 : decode cX9_add 55 = .ok (.getfield 27, 3) := by decide +kernel
theorem dX9_add_58 : decode cX9_add 58 = .ok (.iconst (-1), 1) := by decide +kernel
theorem dX9_add_59 : decode cX9_add 59 = .ok (.iastore, 1) := by decide +kernel
theorem dX9_add_60 : decode cX9_add 60 = .ok (.aload_n 0, 1) := by decide +kernel
theorem dX9_add_61 : decode cX9_add 61 = .ok (.dup, 1) := by decide +kernel
theorem dX9_add_62 : decode cX9_add 62 = .ok (.getfield 27, 3) := by decide +kernel
theorem dX9_add_65 : decode cX9_add 65 = .ok (.iconst 1, 1) := by decide +kernel
theorem dX9_add_66 : decode cX9_add 66 = .ok (.iadd, 1) := by decide +kernel
theorem dX9_add_67 : decode cX9_add 67 = .ok (.putfield 27, 3) := by decide +kernel
theorem dX9_add_70 : decode cX9_add 70 = .ok (.aload_n 0, 1) := by decide +kernel
theorem dX9_add_71 : decode cX9_add 71 = .ok (.dup, 1) := by decide +kernel
theorem dX9_add_72 : decode cX9_add 72 = .ok (.getfield 31, 3) := by decide +kernel
theorem dX9_add_75 : decode cX9_add 75 = .ok (.iload_n 1, 1) := by decide +kernel
theorem dX9_add_76 : decode cX9_add 76 = .ok (.bipush 23, 2) := by decide +kernel
theorem dX9_add_78 : decode cX9_add 78 = .ok (.if_icmp .ne 7, 3) := by decide +kernel
theorem dX9_add_81 : decode cX9_add 81 = .ok (.iconst 0, 1) := by decide +kernel
theorem dX9_add_82 : decode cX9_add 82 = .ok (.goto 4, 3) := by decide +kernel
theorem dX9_add_85 : decode cX9_add 85 = .ok (.iconst 1, 1) := by decide +kernel
theorem dX9_add_86 : decode cX9_add 86 = .ok (.iadd, 1) := by decide +kernel
theorem dX9_add_87 : decode cX9_add 87 = .ok (.putfield 31, 3) := by decide +kernel
theorem dX9_add_90 : decode cX9_add 90 = .ok (.iconst 1, 1) := by decide +kernel
theorem dX9_add_91 : decode cX9_add 91 = .ok (.ireturn, 1) := by decide +kernel
theorem mw_X9_add : MW yX9_add cX9_add 5 3 4 false := ⟨tm 1001 (by decide +kernel) rfl, tm 243 (by decide +kernel) rfl, by decide, by decide, (by rw [if_neg (by decide)]; exact ⟨tm 1000 (by decide +kernel) rfl, tm 49 (by decide +kernel) rfl⟩)⟩
def Ye_add (ye0 : Nat) (a1 : Int) (a2 : Int) (a3 : Int) (a4 : Int) (σ : Sg) : Rs := (if (σ ye0 5) < 60 then (wr 60 (σ ye0 5) (up_s σ (ye0 + 1) (Int.toNat (σ ye0 5)) a1) (fun s1 => (wr 60 (s1 ye0 5) (up_s s1 (ye0 + 2) (Int.toNat (s1 ye0 5)) a2) (fun s2 => (wr 60 (s2 ye0 5) (up_s s2 (ye0 + 3) (Int.toNat (s2 ye0 5)) a3) (fun s3 => (wr 60 (s3 ye0 5) (up_s s3 (ye0 + 4) (Int.toNat (s3 ye0 5)) a4) (fun s4 => (wr 60 (s4 ye0 5) (up_s s4 (ye0 + 5) (Int.toNat (s4 ye0 5)) (-1)) (fun s5 => (nm (up_s s5 ye0 5 (w32 ((s5 ye0 5) + 1))) (fun s6 => (if a1 = 23 then (nm (up_s s6 ye0 6 (w32 ((s6 ye0 6) + 0))) (fun s7 => (some (1, s7)))) else (nm (up_s s6 ye0 6 (w32 ((s6 ye0 6) + 1))) (fun s8 => (some (1, s8))))))))))))))))) else (some (1, σ)))
theorem ok_Ye_add (ye0 : Nat) (a1 : Int) (a2 : Int) (a3 : Int) (a4 : Int) (hye0 : Kh[ye0]? = some (.inl 8)) (σ : Sg) : MC l Kh Ph yX9_add cX9_add 5 3 1 [.inr (.inr ye0), .inl a1, .inl a2, .inl a3, .inl a4] σ (Ye_add ye0 a1 a2 a3 a4 σ) := by
  refine mc_of (by decide) (Nat.le_of_ble_eq_true rfl) ?_
  change G l Kh Ph RX9 cX9_add 5 3 1 0 [some (.inr (.inr ye0)), some (.inl a1), some (.inl a2), some (.inl a3), some (.inl a4)] [] σ (Ye_add ye0 a1 a2 a3 a4 σ)
  unfold Ye_add
  refine g_aload_n dX9_add_0 rfl rfl ?_
  refine g_geti fl_RX9_27 hye0 (by decide) dX9_add_1 ?_
  refine g_bipush dX9_add_4 (by decide) ?_
  refine g_icmpge (tgt := 90) dX9_add_6 (by decide) ?_ ?_
  · refine g_aload_n dX9_add_9 rfl rfl ?_
    refine g_getr' (q := (ye0 + 1)) fl_RX9_11 hye0 (by decide) (qy0 hye0) dX9_add_10 ?_
    refine g_aload_n dX9_add_13 rfl rfl ?_
    refine g_geti fl_RX9_27 hye0 (by decide) dX9_add_14 ?_
    refine g_iload_n dX9_add_17 rfl rfl ?_
    refine g_iast (ky0 hye0) dX9_add_18 ?_
    intro s1
    refine g_aload_n dX9_add_19 rfl rfl ?_
    refine g_getr' (q := (ye0 + 2)) fl_RX9_15 hye0 (by decide) (qy1 hye0) dX9_add_20 ?_
    refine g_aload_n dX9_add_23 rfl rfl ?_
    refine g_geti fl_RX9_27 hye0 (by decide) dX9_add_24 ?_
    refine g_iload_n dX9_add_27 rfl rfl ?_
    refine g_iast (ky1 hye0) dX9_add_28 ?_
    intro s2
    refine g_aload_n dX9_add_29 rfl rfl ?_
    refine g_getr' (q := (ye0 + 3)) fl_RX9_18 hye0 (by decide) (qy2 hye0) dX9_add_30 ?_
    refine g_aload_n dX9_add_33 rfl rfl ?_
    refine g_geti fl_RX9_27 hye0 (by decide) dX9_add_34 ?_
    refine g_iload_n dX9_add_37 rfl rfl ?_
    refine g_iast (ky2 hye0) dX9_add_38 ?_
    intro s3
    refine g_aload_n dX9_add_39 rfl rfl ?_
    refine g_getr' (q := (ye0 + 4)) fl_RX9_21 hye0 (by decide) (qy3 hye0) dX9_add_40 ?_
    refine g_aload_n dX9_add_43 rfl rfl ?_
    refine g_geti fl_RX9_27 hye0 (by decide) dX9_add_44 ?_
    refine g_iload dX9_add_47 rfl ?_
    refine g_iast (ky3 hye0) dX9_add_49 ?_
    intro s4
    refine g_aload_n dX9_add_50 rfl rfl ?_
    refine g_getr' (q := (ye0 + 5)) fl_RX9_24 hye0 (by decide) (qy4 hye0) dX9_add_51 ?_
    refine g_aload_n dX9_add_54 rfl rfl ?_
    refine g_geti fl_RX9_27 hye0 (by decide) dX9_add_55 ?_
    refine g_iconst dX9_add_58 (by decide) ?_
    refine g_iast (ky4 hye0) dX9_add_59 ?_
    intro s5
    refine g_aload_n dX9_add_60 rfl rfl ?_
    refine g_dup dX9_add_61 rfl ?_
    refine g_geti fl_RX9_27 hye0 (by decide) dX9_add_62 ?_
    refine g_iconst dX9_add_65 (by decide) ?_
    refine g_iadd dX9_add_66 ?_
    refine g_puti fl_RX9_27 hye0 (by decide) dX9_add_67 ?_
    intro s6
    refine g_aload_n dX9_add_70 rfl rfl ?_
    refine g_dup dX9_add_71 rfl ?_
    refine g_geti fl_RX9_31 hye0 (by decide) dX9_add_72 ?_
    refine g_iload_n dX9_add_75 rfl rfl ?_
    refine g_bipush dX9_add_76 (by decide) ?_
    refine g_icmpne (tgt := 85) dX9_add_78 (by decide) ?_ ?_
    · refine g_iconst dX9_add_81 (by decide) ?_
      refine g_goto (tgt := 86) dX9_add_82 (by decide) ?_
      refine g_iadd dX9_add_86 ?_
      refine g_puti fl_RX9_31 hye0 (by decide) dX9_add_87 ?_
      intro s7
      refine g_iconst dX9_add_90 (by decide) ?_
      exact g_zret1 dX9_add_91
    · refine g_iconst dX9_add_85 (by decide) ?_
      refine g_iadd dX9_add_86 ?_
      refine g_puti fl_RX9_31 hye0 (by decide) dX9_add_87 ?_
      intro s8
      refine g_iconst dX9_add_90 (by decide) ?_
      exact g_zret1 dX9_add_91
  · refine g_iconst dX9_add_90 (by decide) ?_
    exact g_zret1 dX9_add_91
theorem dX9_join_0 : decode cX9_join 0 = .ok (.aload_n 0, 1) := by decide +kernel
theorem dX9_join_1 : decode cX9_join 1 = .ok (.iload_n 1, 1) := by decide +kernel
theorem dX9_join_2 : decode cX9_join 2 = .ok (.invokevirtual 46, 3) := by decide +kernel
theorem dX9_join_5 : decode cX9_join 5 = .ok (.ifCond .eq 25, 3) := by decide +kernel
theorem dX9_join_8 : decode cX9_join 8 = .ok (.aload_n 0, 1) := by decide +kernel
theorem dX9_join_9 : decode cX9_join 9 = .ok (.iload_n 2, 1) := by decide +kernel
theorem dX9_join_10 : decode cX9_join 10 = .ok (.invokevirtual 46, 3) := by decide +kernel
theorem dX9_join_13 : decode cX9_join 13 = .ok (.ifCond .eq 17, 3) := by decide +kernel
theorem dX9_join_16 : decode cX9_join 16 = .ok (.aload_n 0, 1) := by decide +kernel
theorem dX9_join_17 : decode cX9_join 17 = .ok (.getfield 24, 3) := by decide +kernel
theorem dX9_join_20 : decode cX9_join 20 = .ok (.iload_n 1, 1) := by decide +kernel
theorem dX9_join_21 : decode cX9_join 21 = .ok (.iload_n 2, 1) := by decide +kernel
theorem dX9_join_22 : decode cX9_join 22 = .ok (.iastore, 1) := by decide +kernel
theorem dX9_join_23 : decode cX9_join 23 = .ok (.aload_n 0, 1) := by decide +kernel
theorem dX9_join_24 : decode cX9_join 24 = .ok (.getfield 24, 3) := by decide +kernel
theorem dX9_join_27 : decode cX9_join 27 = .ok (.iload_n 2, 1) := by decide +kernel
theorem dX9_join_28 : decode cX9_join 28 = .ok (.iload_n 1, 1) := by decide +kernel
theorem dX9_join_29 : decode cX9_join 29 = .ok (.iastore, 1) := by decide +kernel
theorem dX9_join_30 : decode cX9_join 30 = .ok (.return_, 1) := by decide +kernel
theorem mw_X9_join : MW yX9_join cX9_join 3 2 2 false := ⟨tm 1005 (by decide +kernel) rfl, tm 243 (by decide +kernel) rfl, by decide, by decide, (by rw [if_neg (by decide)]; exact ⟨tm 1004 (by decide +kernel) rfl, tm 50 (by decide +kernel) rfl⟩)⟩
theorem lk_RX9_46 : LK RX9 46 yX9_isOrder := Or.inl (tm 1006 (by decide +kernel) rfl)
def Ye_join (ye0 : Nat) (a1 : Int) (a2 : Int) (σ : Sg) : Rs := (bd (Ye_isOrder ye0 a1 σ) (fun r1 s2 => (if r1 = 0 then (some (0, s2)) else (bd (Ye_isOrder ye0 a2 s2) (fun r3 s4 => (if r3 = 0 then (some (0, s4)) else (wr 60 a1 (up_s s4 (ye0 + 5) (Int.toNat a1) a2) (fun s5 => (wr 60 a2 (up_s s5 (ye0 + 5) (Int.toNat a2) a1) (fun s6 => (some (0, s6))))))))))))
theorem ok_Ye_join (ye0 : Nat) (a1 : Int) (a2 : Int) (hye0 : Kh[ye0]? = some (.inl 8)) (σ : Sg) : MC l Kh Ph yX9_join cX9_join 3 2 2 [.inr (.inr ye0), .inl a1, .inl a2] σ (Ye_join ye0 a1 a2 σ) := by
  refine mc_of (by decide) (Nat.le_of_ble_eq_true rfl) ?_
  change G l Kh Ph RX9 cX9_join 3 2 2 0 [some (.inr (.inr ye0)), some (.inl a1), some (.inl a2)] [] σ (Ye_join ye0 a1 a2 σ)
  unfold Ye_join
  refine g_aload_n dX9_join_0 rfl rfl ?_
  refine g_iload_n dX9_join_1 rfl rfl ?_
  refine g_callv3 (st := []) 8 mw_X9_isOrder lk_RX9_46 rfl hye0 (ok_Ye_isOrder ye0 a1 hye0 σ) (Nat.le_of_ble_eq_true rfl) rfl rfl (Nat.le_of_ble_eq_true rfl) dX9_join_2 ?_
  intro r1 s2
  refine g_ifeq (tgt := 30) dX9_join_5 (by decide) ?_ ?_
  · exact g_vret dX9_join_30
  · refine g_aload_n dX9_join_8 rfl rfl ?_
    refine g_iload_n dX9_join_9 rfl rfl ?_
    refine g_callv3 (st := []) 8 mw_X9_isOrder lk_RX9_46 rfl hye0 (ok_Ye_isOrder ye0 a2 hye0 s2) (Nat.le_of_ble_eq_true rfl) rfl rfl (Nat.le_of_ble_eq_true rfl) dX9_join_10 ?_
    intro r3 s4
    refine g_ifeq (tgt := 30) dX9_join_13 (by decide) ?_ ?_
    · exact g_vret dX9_join_30
    · refine g_aload_n dX9_join_16 rfl rfl ?_
      refine g_getr' (q := (ye0 + 5)) fl_RX9_24 hye0 (by decide) (qy4 hye0) dX9_join_17 ?_
      refine g_iload_n dX9_join_20 rfl rfl ?_
      refine g_iload_n dX9_join_21 rfl rfl ?_
      refine g_iast (ky4 hye0) dX9_join_22 ?_
      intro s5
      refine g_aload_n dX9_join_23 rfl rfl ?_
      refine g_getr' (q := (ye0 + 5)) fl_RX9_24 hye0 (by decide) (qy4 hye0) dX9_join_24 ?_
      refine g_iload_n dX9_join_27 rfl rfl ?_
      refine g_iload_n dX9_join_28 rfl rfl ?_
      refine g_iast (ky4 hye0) dX9_join_29 ?_
      intro s6
      exact g_vret dX9_join_30
theorem dX9_latestOpen_0 : decode cX9_latestOpen 0 = .ok (.aload_n 0, 1) := by decide +kernel
theorem dX9_latestOpen_1 : decode cX9_latestOpen 1 = .ok (.getfield 27, 3) := by decide +kernel
theorem dX9_latestOpen_4 : decode cX9_latestOpen 4 = .ok (.bipush 60, 2) := by decide +kernel
theorem dX9_latestOpen_6 : decode cX9_latestOpen 6 = .ok (.invokestatic 50, 3) := by decide +kernel
theorem dX9_latestOpen_9 : decode cX9_latestOpen 9 = .ok (.iconst 1, 1) := by decide +kernel
theorem dX9_latestOpen_10 : decode cX9_latestOpen 10 = .ok (.isub, 1) := by decide +kernel
theorem dX9_latestOpen_11 : decode cX9_latestOpen 11 = .ok (.istore_n 1, 1) := by decide +kernel
theorem dX9_latestOpen_12 : decode cX9_latestOpen 12 = .ok (.iload_n 1, 1) := by decide +kernel
theorem dX9_latestOpen_13 : decode cX9_latestOpen 13 = .ok (.ifCond .lt 33, 3) := by decide +kernel
theorem dX9_latestOpen_16 : decode cX9_latestOpen 16 = .ok (.aload_n 0, 1) := by decide +kernel
theorem dX9_latestOpen_17 : decode cX9_latestOpen 17 = .ok (.getfield 11, 3) := by decide +kernel
theorem dX9_latestOpen_20 : decode cX9_latestOpen 20 = .ok (.iload_n 1, 1) := by decide +kernel
theorem dX9_latestOpen_21 : decode cX9_latestOpen 21 = .ok (.iaload, 1) := by decide +kernel
theorem dX9_latestOpen_22 : decode cX9_latestOpen 22 = .ok (.invokestatic 56, 3) := by decide +kernel
theorem dX9_latestOpen_25 : decode cX9_latestOpen 25 = .ok (.ifCond .eq 15, 3) := by decide +kernel
theorem dX9_latestOpen_28 : decode cX9_latestOpen 28 = .ok (.aload_n 0, 1) := by decide +kernel
theorem dX9_latestOpen_29 : decode cX9_latestOpen 29 = .ok (.getfield 24, 3) := by decide +kernel
theorem dX9_latestOpen_32 : decode cX9_latestOpen 32 = .ok (.iload_n 1, 1) := by decide +kernel
theorem dX9_latestOpen_33 : decode cX9_latestOpen 33 = .ok (.iaload, 1) := by decide +kernel
theorem dX9_latestOpen_34 : decode cX9_latestOpen 34 = .ok (.iconst (-1), 1) := by decide +kernel
theorem dX9_latestOpen_35 : decode cX9_latestOpen 35 = .ok (.if_icmp .ne 5, 3) := by decide +kernel
theorem dX9_latestOpen_38 : decode cX9_latestOpen 38 = .ok (.iload_n 1, 1) := by decide +kernel
theorem dX9_latestOpen_39 : decode cX9_latestOpen 39 = .ok (.ireturn, 1) := by decide +kernel
theorem dX9_latestOpen_40 : decode cX9_latestOpen 40 = .ok (.iinc 1 (-1), 3) := by decide +kernel
theorem dX9_latestOpen_43 : decode cX9_latestOpen 43 = .ok (.goto (-31), 3) := by decide +kernel
theorem dX9_latestOpen_46 : decode cX9_latestOpen 46 = .ok (.iconst (-1), 1) := by decide +kernel
theorem dX9_latestOpen_47 : decode cX9_latestOpen 47 = .ok (.ireturn, 1) := by decide +kernel
theorem mw_X9_latestOpen : MW yX9_latestOpen cX9_latestOpen 2 0 0 false := ⟨tm 996 (by decide +kernel) rfl, tm 243 (by decide +kernel) rfl, by decide, by decide, (by rw [if_neg (by decide)]; exact ⟨tm 995 (by decide +kernel) rfl, tm 48 (by decide +kernel) rfl⟩)⟩
theorem mx_RX9_50 : MX RX9 50 Lib.Math.min.name Lib.Math.min.code 2 (some .int) := ⟨tm 997 (by decide +kernel) rfl, tm 800 (by decide +kernel) rfl, tm 251 (by decide +kernel) rfl, tm 801 (by decide +kernel) rfl⟩
def Ye_latestOpen_L12 (ye0 : Nat) : Nat → Int → Sg → Rs
  | 0, _, _ => none
  | n + 1, v1, σ => (if v1 < 0 then (some ((-1), σ)) else (rd 60 v1 (σ (ye0 + 1) (Int.toNat v1)) (fun x2 => (bd (Ye_isBlock x2 σ) (fun r3 s4 => (if r3 = 0 then (nm (w32 (v1 + (-1))) (fun x5 => (Ye_latestOpen_L12 ye0 n x5 s4))) else (rd 60 v1 (s4 (ye0 + 5) (Int.toNat v1)) (fun x6 => (if x6 = (-1) then (some (v1, s4)) else (nm (w32 (v1 + (-1))) (fun x7 => (Ye_latestOpen_L12 ye0 n x7 s4))))))))))))
theorem ok_Ye_latestOpen_L12 (ye0 : Nat) (hye0 : Kh[ye0]? = some (.inl 8)) : ∀ (n : Nat) (v1 : Int) (σ : Sg), G l Kh Ph RX9 cX9_latestOpen 2 0 2 12 [some (.inr (.inr ye0)), some (.inl v1)] [] σ (Ye_latestOpen_L12 ye0 n v1 σ) := by
  intro n
  induction n with
  | zero => intros; exact G.none_
  | succ n ih =>
    intro v1 σ
    rw [Ye_latestOpen_L12]
    refine g_iload_n dX9_latestOpen_12 rfl rfl ?_
    refine g_iflt (tgt := 46) dX9_latestOpen_13 (by decide) ?_ ?_
    · refine g_iconst dX9_latestOpen_46 (by decide) ?_
      exact g_iret dX9_latestOpen_47
    · refine g_aload_n dX9_latestOpen_16 rfl rfl ?_
      refine g_getr' (q := (ye0 + 1)) fl_RX9_11 hye0 (by decide) (qy0 hye0) dX9_latestOpen_17 ?_
      refine g_iload_n dX9_latestOpen_20 rfl rfl ?_
      refine g_iald (ky0 hye0) dX9_latestOpen_21 ?_
      intro x2
      refine g_calls3 (st := []) mw_X9_isBlock lk_RX9_56 (ok_Ye_isBlock x2 σ) (Nat.le_of_ble_eq_true rfl) rfl rfl (Nat.le_of_ble_eq_true rfl) dX9_latestOpen_22 ?_
      intro r3 s4
      refine g_ifeq (tgt := 40) dX9_latestOpen_25 (by decide) ?_ ?_
      · refine n_iinc (fun x5 => [some (.inr (.inr ye0)), some (.inl x5)]) dX9_latestOpen_40 rfl (Nat.le_of_ble_eq_true rfl) (fun _ => rfl) ?_
        intro x5
        refine g_goto (tgt := 12) dX9_latestOpen_43 (by decide) ?_
        exact (ih x5 s4)
      · refine g_aload_n dX9_latestOpen_28 rfl rfl ?_
        refine g_getr' (q := (ye0 + 5)) fl_RX9_24 hye0 (by decide) (qy4 hye0) dX9_latestOpen_29 ?_
        refine g_iload_n dX9_latestOpen_32 rfl rfl ?_
        refine g_iald (ky4 hye0) dX9_latestOpen_33 ?_
        intro x6
        refine g_iconst dX9_latestOpen_34 (by decide) ?_
        refine g_icmpne (tgt := 40) dX9_latestOpen_35 (by decide) ?_ ?_
        · refine g_iload_n dX9_latestOpen_38 rfl rfl ?_
          exact g_iret dX9_latestOpen_39
        · refine n_iinc (fun x7 => [some (.inr (.inr ye0)), some (.inl x7)]) dX9_latestOpen_40 rfl (Nat.le_of_ble_eq_true rfl) (fun _ => rfl) ?_
          intro x7
          refine g_goto (tgt := 12) dX9_latestOpen_43 (by decide) ?_
          exact (ih x7 s4)
def Ye_latestOpen (ye0 : Nat) (σ : Sg) : Rs := (nm (w32 ((min (σ ye0 5) 60) - 1)) (fun x1 => (Ye_latestOpen_L12 ye0 fu x1 σ)))
theorem ok_Ye_latestOpen (ye0 : Nat) (hye0 : Kh[ye0]? = some (.inl 8)) (σ : Sg) : MC l Kh Ph yX9_latestOpen cX9_latestOpen 2 0 2 [.inr (.inr ye0)] σ (Ye_latestOpen ye0 σ) := by
  refine mc_of (by decide) (Nat.le_of_ble_eq_true rfl) ?_
  change G l Kh Ph RX9 cX9_latestOpen 2 0 2 0 [some (.inr (.inr ye0)), none] [] σ (Ye_latestOpen ye0 σ)
  unfold Ye_latestOpen
  refine g_aload_n dX9_latestOpen_0 rfl rfl ?_
  refine g_geti fl_RX9_27 hye0 (by decide) dX9_latestOpen_1 ?_
  refine g_bipush dX9_latestOpen_4 (by decide) ?_
  refine g_mmin mx_RX9_50 (Nat.le_of_ble_eq_true rfl) (Nat.le_of_ble_eq_true rfl) dX9_latestOpen_6 ?_
  refine g_iconst dX9_latestOpen_9 (by decide) ?_
  refine g_isub dX9_latestOpen_10 ?_
  refine n_istore_n (fun x1 => [some (.inr (.inr ye0)), some (.inl x1)]) dX9_latestOpen_11 rfl (Nat.le_of_ble_eq_true rfl) (fun _ => rfl) ?_
  intro x1
  refine (ok_Ye_latestOpen_L12 ye0 hye0 fu x1 σ)
theorem dX10_readEnd_0 : decode cX10_readEnd 0 = .ok (.aload_n 1, 1) := by decide +kernel
theorem dX10_readEnd_1 : decode cX10_readEnd 1 = .ok (.invokevirtual 65, 3) := by decide +kernel
theorem dX10_readEnd_4 : decode cX10_readEnd 4 = .ok (.istore_n 2, 1) := by decide +kernel
theorem dX10_readEnd_5 : decode cX10_readEnd 5 = .ok (.aload_n 1, 1) := by decide +kernel
theorem dX10_readEnd_6 : decode cX10_readEnd 6 = .ok (.bipush 23, 2) := by decide +kernel
theorem dX10_readEnd_8 : decode cX10_readEnd 8 = .ok (.iconst 0, 1) := by decide +kernel
theorem dX10_readEnd_9 : decode cX10_readEnd 9 = .ok (.iconst 0, 1) := by decide +kernel
theorem dX10_readEnd_10 : decode cX10_readEnd 10 = .ok (.iconst 0, 1) := by decide +kernel
theorem dX10_readEnd_11 : decode cX10_readEnd 11 = .ok (.invokevirtual 68, 3) := by decide +kernel
theorem dX10_readEnd_14 : decode cX10_readEnd 14 = .ok (.pop, 1) := by decide +kernel
theorem dX10_readEnd_15 : decode cX10_readEnd 15 = .ok (.aload_n 1, 1) := by decide +kernel
theorem dX10_readEnd_16 : decode cX10_readEnd 16 = .ok (.iload_n 2, 1) := by decide +kernel
theorem dX10_readEnd_17 : decode cX10_readEnd 17 = .ok (.aload_n 1, 1) := by decide +kernel
theorem dX10_readEnd_18 : decode cX10_readEnd 18 = .ok (.getfield 72, 3) := by decide +kernel
theorem dX10_readEnd_21 : decode cX10_readEnd 21 = .ok (.iconst 1, 1) := by decide +kernel
theorem dX10_readEnd_22 : decode cX10_readEnd 22 = .ok (.isub, 1) := by decide +kernel
theorem dX10_readEnd_23 : decode cX10_readEnd 23 = .ok (.invokevirtual 75, 3) := by decide +kernel
theorem dX10_readEnd_26 : decode cX10_readEnd 26 = .ok (.aload_n 0, 1) := by decide +kernel
theorem dX10_readEnd_27 : decode cX10_readEnd 27 = .ok (.invokevirtual 62, 3) := by decide +kernel
theorem dX10_readEnd_30 : decode cX10_readEnd 30 = .ok (.ireturn, 1) := by decide +kernel
theorem mw_X10_readEnd : MW yX10_readEnd cX10_readEnd 3 3 2 true := ⟨tm 992 (by decide +kernel) rfl, tm 253 (by decide +kernel) rfl, by decide, by decide, (by rw [if_pos rfl]; exact tm 991 (by decide +kernel) rfl)⟩
theorem lk_RX10_62 : LK RX10 62 yX7_takeClosing := Or.inr ⟨"HairProvince", tm 1010 (by decide +kernel) rfl⟩
theorem lk_RX10_65 : LK RX10 65 yX9_latestOpen := Or.inr ⟨"HairProvince", tm 993 (by decide +kernel) rfl⟩
theorem lk_RX10_68 : LK RX10 68 yX9_add := Or.inr ⟨"HairProvince", tm 998 (by decide +kernel) rfl⟩
theorem lk_RX10_75 : LK RX10 75 yX9_join := Or.inr ⟨"HairProvince", tm 1002 (by decide +kernel) rfl⟩
theorem fl_RX10_72 : FL RX10 72 8 5 := ⟨_, _, _, _, cw_8, by decide, Or.inl (by decide), Or.inr (by decide), Or.inr ⟨"HairProvince", tm 509 (by decide +kernel) rfl⟩⟩
def YR_readEnd (ye1 : Nat) (σ : Sg) : Rs := (bd (Ye_latestOpen ye1 σ) (fun r1 s2 => (bd (Ye_add ye1 23 0 0 0 s2) (fun r3 s4 => (bd (Ye_join ye1 r1 (w32 ((s4 ye1 5) - 1)) s4) (fun r5 s6 => (bd (To_takeClosing s6) (fun r7 s8 => (zb r7 (some (r7, s8)))))))))))
theorem ok_YR_readEnd (ye1 : Nat) (hye1 : Kh[ye1]? = some (.inl 8)) (σ : Sg) : MC l Kh Ph yX10_readEnd cX10_readEnd 3 3 3 [.inr (.inr 5), .inr (.inr ye1)] σ (YR_readEnd ye1 σ) := by
  refine mc_of (by decide) (Nat.le_of_ble_eq_true rfl) ?_
  change G l Kh Ph RX10 cX10_readEnd 3 3 3 0 [some (.inr (.inr 5)), some (.inr (.inr ye1)), none] [] σ (YR_readEnd ye1 σ)
  unfold YR_readEnd
  refine g_aload_n dX10_readEnd_0 rfl rfl ?_
  refine g_callv0 (st := []) 8 mw_X9_latestOpen lk_RX10_65 rfl hye1 (ok_Ye_latestOpen ye1 hye1 σ) (Nat.le_of_ble_eq_true rfl) rfl rfl (Nat.le_of_ble_eq_true rfl) dX10_readEnd_1 ?_
  intro r1 s2
  refine g_istore_n (lv' := [some (.inr (.inr 5)), some (.inr (.inr ye1)), some (.inl r1)]) dX10_readEnd_4 rfl (Nat.le_of_ble_eq_true rfl) rfl ?_
  refine g_aload_n dX10_readEnd_5 rfl rfl ?_
  refine g_bipush dX10_readEnd_6 (by decide) ?_
  refine g_iconst dX10_readEnd_8 (by decide) ?_
  refine g_iconst dX10_readEnd_9 (by decide) ?_
  refine g_iconst dX10_readEnd_10 (by decide) ?_
  refine g_callv3 (st := []) 8 mw_X9_add lk_RX10_68 rfl hye1 (ok_Ye_add ye1 23 0 0 0 hye1 s2) (Nat.le_of_ble_eq_true rfl) rfl rfl (Nat.le_of_ble_eq_true rfl) dX10_readEnd_11 ?_
  intro r3 s4
  refine g_pop dX10_readEnd_14 rfl ?_
  refine g_aload_n dX10_readEnd_15 rfl rfl ?_
  refine g_iload_n dX10_readEnd_16 rfl rfl ?_
  refine g_aload_n dX10_readEnd_17 rfl rfl ?_
  refine g_geti fl_RX10_72 hye1 (by decide) dX10_readEnd_18 ?_
  refine g_iconst dX10_readEnd_21 (by decide) ?_
  refine g_isub dX10_readEnd_22 ?_
  refine g_callv2 (st := []) 8 mw_X9_join lk_RX10_75 rfl hye1 (ok_Ye_join ye1 r1 (w32 ((s4 ye1 5) - 1)) hye1 s4) (Nat.le_of_ble_eq_true rfl) rfl rfl (Nat.le_of_ble_eq_true rfl) dX10_readEnd_23 ?_
  intro r5 s6
  refine g_aload_n dX10_readEnd_26 rfl rfl ?_
  refine g_callv3 (st := []) 6 mw_X7_takeClosing lk_RX10_62 rfl kh_5 (ok_To_takeClosing s6) (Nat.le_of_ble_eq_true rfl) rfl rfl (Nat.le_of_ble_eq_true rfl) dX10_readEnd_27 ?_
  intro r7 s8
  exact g_zret dX10_readEnd_30
theorem dX10_readCount_0 : decode cX10_readCount 0 = .ok (.aload_n 0, 1) := by decide +kernel
theorem dX10_readCount_1 : decode cX10_readCount 1 = .ok (.iconst 1, 1) := by decide +kernel
theorem dX10_readCount_2 : decode cX10_readCount 2 = .ok (.iload_n 3, 1) := by decide +kernel
theorem dX10_readCount_3 : decode cX10_readCount 3 = .ok (.invokevirtual 95, 3) := by decide +kernel
theorem dX10_readCount_6 : decode cX10_readCount 6 = .ok (.istore 4, 2) := by decide +kernel
theorem dX10_readCount_8 : decode cX10_readCount 8 = .ok (.iload 4, 2) := by decide +kernel
theorem dX10_readCount_10 : decode cX10_readCount 10 = .ok (.iconst (-1), 1) := by decide +kernel
theorem dX10_readCount_11 : decode cX10_readCount 11 = .ok (.if_icmp .eq 19, 3) := by decide +kernel
theorem dX10_readCount_14 : decode cX10_readCount 14 = .ok (.aload_n 1, 1) := by decide +kernel
theorem dX10_readCount_15 : decode cX10_readCount 15 = .ok (.iload_n 2, 1) := by decide +kernel
theorem dX10_readCount_16 : decode cX10_readCount 16 = .ok (.iload 4, 2) := by decide +kernel
theorem dX10_readCount_18 : decode cX10_readCount 18 = .ok (.iconst 0, 1) := by decide +kernel
theorem dX10_readCount_19 : decode cX10_readCount 19 = .ok (.iconst 0, 1) := by decide +kernel
theorem dX10_readCount_20 : decode cX10_readCount 20 = .ok (.invokevirtual 68, 3) := by decide +kernel
theorem dX10_readCount_23 : decode cX10_readCount 23 = .ok (.ifCond .eq 7, 3) := by decide +kernel
theorem dX10_readCount_26 : decode cX10_readCount 26 = .ok (.iconst 1, 1) := by decide +kernel
theorem dX10_readCount_27 : decode cX10_readCount 27 = .ok (.goto 4, 3) := by decide +kernel
theorem dX10_readCount_30 : decode cX10_readCount 30 = .ok (.iconst 0, 1) := by decide +kernel
theorem dX10_readCount_31 : decode cX10_readCount 31 = .ok (.ireturn, 1) := by decide +kernel
theorem mw_X10_readCount : MW yX10_readCount cX10_readCount 5 3 4 true := ⟨tm 1021 (by decide +kernel) rfl, tm 253 (by decide +kernel) rfl, by decide, by decide, (by rw [if_pos rfl]; exact tm 1020 (by decide +kernel) rfl)⟩
theorem lk_RX10_95 : LK RX10 95 yX7_takeNumber := Or.inr ⟨"HairProvince", tm 1022 (by decide +kernel) rfl⟩
def YR_readCount (ye1 : Nat) (a2 : Int) (a3 : Int) (σ : Sg) : Rs := (bd (To_takeNumber 1 a3 σ) (fun r1 s2 => (if r1 = (-1) then (some (0, s2)) else (bd (Ye_add ye1 a2 r1 0 0 s2) (fun r3 s4 => (if r3 = 0 then (some (0, s4)) else (some (1, s4))))))))
theorem ok_YR_readCount (ye1 : Nat) (a2 : Int) (a3 : Int) (hye1 : Kh[ye1]? = some (.inl 8)) (σ : Sg) : MC l Kh Ph yX10_readCount cX10_readCount 5 3 3 [.inr (.inr 5), .inr (.inr ye1), .inl a2, .inl a3] σ (YR_readCount ye1 a2 a3 σ) := by
  refine mc_of (by decide) (Nat.le_of_ble_eq_true rfl) ?_
  change G l Kh Ph RX10 cX10_readCount 5 3 3 0 [some (.inr (.inr 5)), some (.inr (.inr ye1)), some (.inl a2), some (.inl a3), none] [] σ (YR_readCount ye1 a2 a3 σ)
  unfold YR_readCount
  refine g_aload_n dX10_readCount_0 rfl rfl ?_
  refine g_iconst dX10_readCount_1 (by decide) ?_
  refine g_iload_n dX10_readCount_2 rfl rfl ?_
  refine g_callv0 (st := []) 6 mw_X7_takeNumber lk_RX10_95 rfl kh_5 (ok_To_takeNumber 1 a3 σ) (Nat.le_of_ble_eq_true rfl) rfl rfl (Nat.le_of_ble_eq_true rfl) dX10_readCount_3 ?_
  intro r1 s2
  refine g_istore (lv' := [some (.inr (.inr 5)), some (.inr (.inr ye1)), some (.inl a2), some (.inl a3), some (.inl r1)]) dX10_readCount_6 (Nat.le_of_ble_eq_true rfl) rfl ?_
  refine g_iload dX10_readCount_8 rfl ?_
  refine g_iconst dX10_readCount_10 (by decide) ?_
  refine g_icmpeq (tgt := 30) dX10_readCount_11 (by decide) ?_ ?_
  · refine g_iconst dX10_readCount_30 (by decide) ?_
    exact g_zret0 dX10_readCount_31
  · refine g_aload_n dX10_readCount_14 rfl rfl ?_
    refine g_iload_n dX10_readCount_15 rfl rfl ?_
    refine g_iload dX10_readCount_16 rfl ?_
    refine g_iconst dX10_readCount_18 (by decide) ?_
    refine g_iconst dX10_readCount_19 (by decide) ?_
    refine g_callv3 (st := []) 8 mw_X9_add lk_RX10_68 rfl hye1 (ok_Ye_add ye1 a2 r1 0 0 hye1 s2) (Nat.le_of_ble_eq_true rfl) rfl rfl (Nat.le_of_ble_eq_true rfl) dX10_readCount_20 ?_
    intro r3 s4
    refine g_ifeq (tgt := 30) dX10_readCount_23 (by decide) ?_ ?_
    · refine g_iconst dX10_readCount_30 (by decide) ?_
      exact g_zret0 dX10_readCount_31
    · refine g_iconst dX10_readCount_26 (by decide) ?_
      refine g_goto (tgt := 31) dX10_readCount_27 (by decide) ?_
      exact g_zret1 dX10_readCount_31
theorem dX10_readCutting_0 : decode cX10_readCutting 0 = .ok (.aload_n 0, 1) := by decide +kernel
theorem dX10_readCutting_1 : decode cX10_readCutting 1 = .ok (.aload_n 1, 1) := by decide +kernel
theorem dX10_readCutting_2 : decode cX10_readCutting 2 = .ok (.invokevirtual 99, 3) := by decide +kernel
theorem dX10_readCutting_5 : decode cX10_readCutting 5 = .ok (.istore_n 3, 1) := by decide +kernel
theorem dX10_readCutting_6 : decode cX10_readCutting 6 = .ok (.iload_n 3, 1) := by decide +kernel
theorem dX10_readCutting_7 : decode cX10_readCutting 7 = .ok (.iconst (-1), 1) := by decide +kernel
theorem dX10_readCutting_8 : decode cX10_readCutting 8 = .ok (.if_icmp .eq 12, 3) := by decide +kernel
theorem dX10_readCutting_11 : decode cX10_readCutting 11 = .ok (.aload_n 0, 1) := by decide +kernel
theorem dX10_readCutting_12 : decode cX10_readCutting 12 = .ok (.bipush 17, 2) := by decide +kernel
theorem dX10_readCutting_14 : decode cX10_readCutting 14 = .ok (.invokevirtual 106, 3) := by decide +kernel
theorem dX10_readCutting_17 : decode cX10_readCutting 17 = .ok (.ifCond .ne 5, 3) := by decide +kernel
theorem dX10_readCutting_20 : decode cX10_readCutting 20 = .ok (.iconst 0, 1) := by decide +kernel
theorem dX10_readCutting_21 : decode cX10_readCutting 21 = .ok (.ireturn, 1) := by decide +kernel
theorem dX10_readCutting_22 : decode cX10_readCutting 22 = .ok (.aload_n 0, 1) := by decide +kernel
theorem dX10_readCutting_23 : decode cX10_readCutting 23 = .ok (.aload_n 1, 1) := by decide +kernel
theorem dX10_readCutting_24 : decode cX10_readCutting 24 = .ok (.invokevirtual 99, 3) := by decide +kernel
theorem dX10_readCutting_27 : decode cX10_readCutting 27 = .ok (.istore 4, 2) := by decide +kernel
theorem dX10_readCutting_29 : decode cX10_readCutting 29 = .ok (.iload 4, 2) := by decide +kernel
theorem dX10_readCutting_31 : decode cX10_readCutting 31 = .ok (.iconst (-1), 1) := by decide +kernel
theorem dX10_readCutting_32 : decode cX10_readCutting 32 = .ok (.if_icmp .eq 20, 3) := by decide +kernel
theorem dX10_readCutting_35 : decode cX10_readCutting 35 = .ok (.aload_n 2, 1) := by decide +kernel
theorem dX10_readCutting_36 : decode cX10_readCutting 36 = .ok (.bipush 16, 2) := by decide +kernel
theorem dX10_readCutting_38 : decode cX10_readCutting 38 = .ok (.iload_n 3, 1) := by decide +kernel
theorem dX10_readCutting_39 : decode cX10_readCutting 39 = .ok (.iload 4, 2) := by decide +kernel
theorem dX10_readCutting_41 : decode cX10_readCutting 41 = .ok (.iconst 0, 1) := by decide +kernel
theorem dX10_readCutting_42 : decode cX10_readCutting 42 = .ok (.invokevirtual 68, 3) := by decide +kernel
theorem dX10_readCutting_45 : decode cX10_readCutting 45 = .ok (.ifCond .eq 7, 3) := by decide +kernel
theorem dX10_readCutting_48 : decode cX10_readCutting 48 = .ok (.iconst 1, 1) := by decide +kernel
theorem dX10_readCutting_49 : decode cX10_readCutting 49 = .ok (.goto 4, 3) := by decide +kernel
theorem dX10_readCutting_52 : decode cX10_readCutting 52 = .ok (.iconst 0, 1) := by decide +kernel
theorem dX10_readCutting_53 : decode cX10_readCutting 53 = .ok (.ireturn, 1) := by decide +kernel
theorem mw_X10_readCutting : MW yX10_readCutting cX10_readCutting 5 3 3 true := ⟨tm 1034 (by decide +kernel) rfl, tm 253 (by decide +kernel) rfl, by decide, by decide, (by rw [if_pos rfl]; exact tm 1033 (by decide +kernel) rfl)⟩
theorem lk_RX10_99 : LK RX10 99 yX7_takePerson := Or.inr ⟨"HairProvince", tm 1026 (by decide +kernel) rfl⟩
theorem lk_RX10_106 : LK RX10 106 yX7_takeKey := Or.inr ⟨"HairProvince", tm 1031 (by decide +kernel) rfl⟩
def YR_readCutting (pr1 : Nat) (ye2 : Nat) (σ : Sg) : Rs := (bd (To_takePerson pr1 σ) (fun r1 s2 => (if r1 = (-1) then (some (0, s2)) else (bd (To_takeKey 17 s2) (fun r3 s4 => (if r3 = 0 then (some (0, s4)) else (bd (To_takePerson pr1 s4) (fun r5 s6 => (if r5 = (-1) then (some (0, s6)) else (bd (Ye_add ye2 16 r1 r5 0 s6) (fun r7 s8 => (if r7 = 0 then (some (0, s8)) else (some (1, s8))))))))))))))
theorem ok_YR_readCutting (pr1 : Nat) (ye2 : Nat) (hpr1 : Kh[pr1]? = some (.inl 4)) (hye2 : Kh[ye2]? = some (.inl 8)) (σ : Sg) : MC l Kh Ph yX10_readCutting cX10_readCutting 5 3 3 [.inr (.inr 5), .inr (.inr pr1), .inr (.inr ye2)] σ (YR_readCutting pr1 ye2 σ) := by
  refine mc_of (by decide) (Nat.le_of_ble_eq_true rfl) ?_
  change G l Kh Ph RX10 cX10_readCutting 5 3 3 0 [some (.inr (.inr 5)), some (.inr (.inr pr1)), some (.inr (.inr ye2)), none, none] [] σ (YR_readCutting pr1 ye2 σ)
  unfold YR_readCutting
  refine g_aload_n dX10_readCutting_0 rfl rfl ?_
  refine g_aload_n dX10_readCutting_1 rfl rfl ?_
  refine g_callv0 (st := []) 6 mw_X7_takePerson lk_RX10_99 rfl kh_5 (ok_To_takePerson pr1 hpr1 σ) (Nat.le_of_ble_eq_true rfl) rfl rfl (Nat.le_of_ble_eq_true rfl) dX10_readCutting_2 ?_
  intro r1 s2
  refine g_istore_n (lv' := [some (.inr (.inr 5)), some (.inr (.inr pr1)), some (.inr (.inr ye2)), some (.inl r1), none]) dX10_readCutting_5 rfl (Nat.le_of_ble_eq_true rfl) rfl ?_
  refine g_iload_n dX10_readCutting_6 rfl rfl ?_
  refine g_iconst dX10_readCutting_7 (by decide) ?_
  refine g_icmpeq (tgt := 20) dX10_readCutting_8 (by decide) ?_ ?_
  · refine g_iconst dX10_readCutting_20 (by decide) ?_
    exact g_zret0 dX10_readCutting_21
  · refine g_aload_n dX10_readCutting_11 rfl rfl ?_
    refine g_bipush dX10_readCutting_12 (by decide) ?_
    refine g_callv3 (st := []) 6 mw_X7_takeKey lk_RX10_106 rfl kh_5 (ok_To_takeKey 17 s2) (Nat.le_of_ble_eq_true rfl) rfl rfl (Nat.le_of_ble_eq_true rfl) dX10_readCutting_14 ?_
    intro r3 s4
    refine g_ifne (tgt := 22) dX10_readCutting_17 (by decide) ?_ ?_
    · refine g_iconst dX10_readCutting_20 (by decide) ?_
      exact g_zret0 dX10_readCutting_21
    · refine g_aload_n dX10_readCutting_22 rfl rfl ?_
      refine g_aload_n dX10_readCutting_23 rfl rfl ?_
      refine g_callv0 (st := []) 6 mw_X7_takePerson lk_RX10_99 rfl kh_5 (ok_To_takePerson pr1 hpr1 s4) (Nat.le_of_ble_eq_true rfl) rfl rfl (Nat.le_of_ble_eq_true rfl) dX10_readCutting_24 ?_
      intro r5 s6
      refine g_istore (lv' := [some (.inr (.inr 5)), some (.inr (.inr pr1)), some (.inr (.inr ye2)), some (.inl r1), some (.inl r5)]) dX10_readCutting_27 (Nat.le_of_ble_eq_true rfl) rfl ?_
      refine g_iload dX10_readCutting_29 rfl ?_
      refine g_iconst dX10_readCutting_31 (by decide) ?_
      refine g_icmpeq (tgt := 52) dX10_readCutting_32 (by decide) ?_ ?_
      · refine g_iconst dX10_readCutting_52 (by decide) ?_
        exact g_zret0 dX10_readCutting_53
      · refine g_aload_n dX10_readCutting_35 rfl rfl ?_
        refine g_bipush dX10_readCutting_36 (by decide) ?_
        refine g_iload_n dX10_readCutting_38 rfl rfl ?_
        refine g_iload dX10_readCutting_39 rfl ?_
        refine g_iconst dX10_readCutting_41 (by decide) ?_
        refine g_callv3 (st := []) 8 mw_X9_add lk_RX10_68 rfl hye2 (ok_Ye_add ye2 16 r1 r5 0 hye2 s6) (Nat.le_of_ble_eq_true rfl) rfl rfl (Nat.le_of_ble_eq_true rfl) dX10_readCutting_42 ?_
        intro r7 s8
        refine g_ifeq (tgt := 52) dX10_readCutting_45 (by decide) ?_ ?_
        · refine g_iconst dX10_readCutting_52 (by decide) ?_
          exact g_zret0 dX10_readCutting_53
        · refine g_iconst dX10_readCutting_48 (by decide) ?_
          refine g_goto (tgt := 53) dX10_readCutting_49 (by decide) ?_
          exact g_zret1 dX10_readCutting_53
theorem dX10_readHairTest_0 : decode cX10_readHairTest 0 = .ok (.aload_n 0, 1) := by decide +kernel
theorem dX10_readHairTest_1 : decode cX10_readHairTest 1 = .ok (.bipush 21, 2) := by decide +kernel
theorem dX10_readHairTest_3 : decode cX10_readHairTest 3 = .ok (.invokevirtual 106, 3) := by decide +kernel
theorem dX10_readHairTest_6 : decode cX10_readHairTest 6 = .ok (.ifCond .ne 5, 3) := by decide +kernel
theorem dX10_readHairTest_9 : decode cX10_readHairTest 9 = .ok (.iconst 0, 1) := by decide +kernel
theorem dX10_readHairTest_10 : decode cX10_readHairTest 10 = .ok (.ireturn, 1) := by decide +kernel
theorem dX10_readHairTest_11 : decode cX10_readHairTest 11 = .ok (.aload_n 0, 1) := by decide +kernel
theorem dX10_readHairTest_12 : decode cX10_readHairTest 12 = .ok (.aload_n 1, 1) := by decide +kernel
theorem dX10_readHairTest_13 : decode cX10_readHairTest 13 = .ok (.invokevirtual 99, 3) := by decide +kernel
theorem dX10_readHairTest_16 : decode cX10_readHairTest 16 = .ok (.istore_n 3, 1) := by decide +kernel
theorem dX10_readHairTest_17 : decode cX10_readHairTest 17 = .ok (.iload_n 3, 1) := by decide +kernel
theorem dX10_readHairTest_18 : decode cX10_readHairTest 18 = .ok (.iconst (-1), 1) := by decide +kernel
theorem dX10_readHairTest_19 : decode cX10_readHairTest 19 = .ok (.if_icmp .ne 5, 3) := by decide +kernel
theorem dX10_readHairTest_22 : decode cX10_readHairTest 22 = .ok (.iconst 0, 1) := by decide +kernel
theorem dX10_readHairTest_23 : decode cX10_readHairTest 23 = .ok (.ireturn, 1) := by decide +kernel
theorem dX10_readHairTest_24 : decode cX10_readHairTest 24 = .ok (.aload_n 0, 1) := by decide +kernel
theorem dX10_readHairTest_25 : decode cX10_readHairTest 25 = .ok (.bipush 60, 2) := by decide +kernel
theorem dX10_readHairTest_27 : decode cX10_readHairTest 27 = .ok (.invokevirtual 109, 3) := by decide +kernel
theorem dX10_readHairTest_30 : decode cX10_readHairTest 30 = .ok (.ifCond .ne 26, 3) := by decide +kernel
theorem dX10_readHairTest_33 : decode cX10_readHairTest 33 = .ok (.aload_n 0, 1) := by decide +kernel
theorem dX10_readHairTest_34 : decode cX10_readHairTest 34 = .ok (.bipush 62, 2) := by decide +kernel
theorem dX10_readHairTest_36 : decode cX10_readHairTest 36 = .ok (.invokevirtual 109, 3) := by decide +kernel
theorem dX10_readHairTest_39 : decode cX10_readHairTest 39 = .ok (.ifCond .ne 17, 3) := by decide +kernel
theorem dX10_readHairTest_42 : decode cX10_readHairTest 42 = .ok (.aload_n 0, 1) := by decide +kernel
theorem dX10_readHairTest_43 : decode cX10_readHairTest 43 = .ok (.bipush 61, 2) := by decide +kernel
theorem dX10_readHairTest_45 : decode cX10_readHairTest 45 = .ok (.invokevirtual 109, 3) := by decide +kernel
theorem dX10_readHairTest_48 : decode cX10_readHairTest 48 = .ok (.ifCond .ne 8, 3) := by decide +kernel
theorem dX10_readHairTest_51 : decode cX10_readHairTest 51 = .ok (.aload_n 0, 1) := by decide +kernel
theorem dX10_readHairTest_52 : decode cX10_readHairTest 52 = .ok (.invokevirtual 30, 3) := by decide +kernel
theorem dX10_readHairTest_55 : decode cX10_readHairTest 55 = .ok (.ireturn, 1) := by decide +kernel
theorem dX10_readHairTest_56 : decode cX10_readHairTest 56 = .ok (.aload_n 0, 1) := by decide +kernel
theorem dX10_readHairTest_57 : decode cX10_readHairTest 57 = .ok (.getfield 112, 3) := by decide +kernel
theorem dX10_readHairTest_60 : decode cX10_readHairTest 60 = .ok (.l2i, 1) := by decide +kernel
theorem dX10_readHairTest_61 : decode cX10_readHairTest 61 = .ok (.istore 4, 2) := by decide +kernel
theorem dX10_readHairTest_63 : decode cX10_readHairTest 63 = .ok (.aload_n 0, 1) := by decide +kernel
theorem dX10_readHairTest_64 : decode cX10_readHairTest 64 = .ok (.invokevirtual 40, 3) := by decide +kernel
theorem dX10_readHairTest_67 : decode cX10_readHairTest 67 = .ok (.aload_n 0, 1) := by decide +kernel
theorem dX10_readHairTest_68 : decode cX10_readHairTest 68 = .ok (.iconst 0, 1) := by decide +kernel
theorem dX10_readHairTest_69 : decode cX10_readHairTest 69 = .ok (.sipush 9999, 3) := by decide +kernel
theorem dX10_readHairTest_72 : decode cX10_readHairTest 72 = .ok (.invokevirtual 95, 3) := by decide +kernel
theorem dX10_readHairTest_75 : decode cX10_readHairTest 75 = .ok (.istore 5, 2) := by decide +kernel
theorem dX10_readHairTest_77 : decode cX10_readHairTest 77 = .ok (.iload 5, 2) := by decide +kernel
theorem dX10_readHairTest_79 : decode cX10_readHairTest 79 = .ok (.iconst (-1), 1) := by decide +kernel
theorem dX10_readHairTest_80 : decode cX10_readHairTest 80 = .ok (.if_icmp .eq 21, 3) := by decide +kernel
theorem dX10_readHairTest_83 : decode cX10_readHairTest 83 = .ok (.aload_n 2, 1) := by decide +kernel
theorem dX10_readHairTest_84 : decode cX10_readHairTest 84 = .ok (.bipush 21, 2) := by decide +kernel
theorem dX10_readHairTest_86 : decode cX10_readHairTest 86 = .ok (.iload_n 3, 1) := by decide +kernel
theorem dX10_readHairTest_87 : decode cX10_readHairTest 87 = .ok (.iload 4, 2) := by decide +kernel
theorem dX10_readHairTest_89 : decode cX10_readHairTest 89 = .ok (.iload 5, 2) := by decide +kernel
theorem dX10_readHairTest_91 : decode cX10_readHairTest 91 = .ok (.invokevirtual 68, 3) := by decide +kernel
theorem dX10_readHairTest_94 : decode cX10_readHairTest 94 = .ok (.ifCond .eq 7, 3) := by decide +kernel
theorem dX10_readHairTest_97 : decode cX10_readHairTest 97 = .ok (.iconst 1, 1) := by decide +kernel
theorem dX10_readHairTest_98 : decode cX10_readHairTest 98 = .ok (.goto 4, 3) := by decide +kernel
theorem dX10_readHairTest_101 : decode cX10_readHairTest 101 = .ok (.iconst 0, 1) := by decide +kernel
theorem dX10_readHairTest_102 : decode cX10_readHairTest 102 = .ok (.ireturn, 1) := by decide +kernel
theorem mw_X10_readHairTest : MW yX10_readHairTest cX10_readHairTest 6 3 3 true := ⟨tm 1037 (by decide +kernel) rfl, tm 253 (by decide +kernel) rfl, by decide, by decide, (by rw [if_pos rfl]; exact tm 1036 (by decide +kernel) rfl)⟩
theorem lk_RX10_30 : LK RX10 30 yX7_misfit := Or.inr ⟨"HairProvince", tm 1014 (by decide +kernel) rfl⟩
theorem lk_RX10_40 : LK RX10 40 yX7_take := Or.inr ⟨"HairProvince", tm 989 (by decide +kernel) rfl⟩
theorem lk_RX10_109 : LK RX10 109 yX7_isSignNext := Or.inr ⟨"HairProvince", tm 1038 (by decide +kernel) rfl⟩
theorem fl_RX10_112 : FL RX10 112 6 8 := ⟨_, _, _, _, cw_6, by decide, Or.inr (Or.inl (by decide)), Or.inr (by decide), Or.inr ⟨"HairProvince", tm 351 (by decide +kernel) rfl⟩⟩
def YR_readHairTest_J56 (ye2 : Nat) (v3 : Int) (σ : Sg) : Rs := (nm (w32 (σ 5 8)) (fun x13 => (bd (To_take σ) (fun r14 s15 => (bd (To_takeNumber 0 9999 s15) (fun r16 s17 => (if r16 = (-1) then (some (0, s17)) else (bd (Ye_add ye2 21 v3 x13 r16 s17) (fun r18 s19 => (if r18 = 0 then (some (0, s19)) else (some (1, s19))))))))))))
theorem ok_YR_readHairTest_J56 (ye2 : Nat) (v3 : Int) (hye2 : Kh[ye2]? = some (.inl 8)) : ∀ (σ : Sg), G l Kh Ph RX10 cX10_readHairTest 6 3 3 56 [some (.inr (.inr 5)), none, some (.inr (.inr ye2)), some (.inl v3), none, none] [] σ (YR_readHairTest_J56 ye2 v3  σ) := by
  intro σ
  unfold YR_readHairTest_J56
  refine g_aload_n dX10_readHairTest_56 rfl rfl ?_
  refine g_getl fl_RX10_112 kh_5 (by decide) dX10_readHairTest_57 ?_
  refine g_l2i dX10_readHairTest_60 ?_
  refine n_istore (fun x13 => [some (.inr (.inr 5)), none, some (.inr (.inr ye2)), some (.inl v3), some (.inl x13), none]) dX10_readHairTest_61 (Nat.le_of_ble_eq_true rfl) (fun _ => rfl) ?_
  intro x13
  refine g_aload_n dX10_readHairTest_63 rfl rfl ?_
  refine g_callv2 (st := []) 6 mw_X7_take lk_RX10_40 rfl kh_5 (ok_To_take σ) (Nat.le_of_ble_eq_true rfl) rfl rfl (Nat.le_of_ble_eq_true rfl) dX10_readHairTest_64 ?_
  intro r14 s15
  refine g_aload_n dX10_readHairTest_67 rfl rfl ?_
  refine g_iconst dX10_readHairTest_68 (by decide) ?_
  refine g_sipush dX10_readHairTest_69 (by decide) ?_
  refine g_callv0 (st := []) 6 mw_X7_takeNumber lk_RX10_95 rfl kh_5 (ok_To_takeNumber 0 9999 s15) (Nat.le_of_ble_eq_true rfl) rfl rfl (Nat.le_of_ble_eq_true rfl) dX10_readHairTest_72 ?_
  intro r16 s17
  refine g_istore (lv' := [some (.inr (.inr 5)), none, some (.inr (.inr ye2)), some (.inl v3), some (.inl x13), some (.inl r16)]) dX10_readHairTest_75 (Nat.le_of_ble_eq_true rfl) rfl ?_
  refine g_iload dX10_readHairTest_77 rfl ?_
  refine g_iconst dX10_readHairTest_79 (by decide) ?_
  refine g_icmpeq (tgt := 101) dX10_readHairTest_80 (by decide) ?_ ?_
  · refine g_iconst dX10_readHairTest_101 (by decide) ?_
    exact g_zret0 dX10_readHairTest_102
  · refine g_aload_n dX10_readHairTest_83 rfl rfl ?_
    refine g_bipush dX10_readHairTest_84 (by decide) ?_
    refine g_iload_n dX10_readHairTest_86 rfl rfl ?_
    refine g_iload dX10_readHairTest_87 rfl ?_
    refine g_iload dX10_readHairTest_89 rfl ?_
    refine g_callv3 (st := []) 8 mw_X9_add lk_RX10_68 rfl hye2 (ok_Ye_add ye2 21 v3 x13 r16 hye2 s17) (Nat.le_of_ble_eq_true rfl) rfl rfl (Nat.le_of_ble_eq_true rfl) dX10_readHairTest_91 ?_
    intro r18 s19
    refine g_ifeq (tgt := 101) dX10_readHairTest_94 (by decide) ?_ ?_
    · refine g_iconst dX10_readHairTest_101 (by decide) ?_
      exact g_zret0 dX10_readHairTest_102
    · refine g_iconst dX10_readHairTest_97 (by decide) ?_
      refine g_goto (tgt := 102) dX10_readHairTest_98 (by decide) ?_
      exact g_zret1 dX10_readHairTest_102
def YR_readHairTest (pr1 : Nat) (ye2 : Nat) (σ : Sg) : Rs := (bd (To_takeKey 21 σ) (fun r1 s2 => (if r1 = 0 then (some (0, s2)) else (bd (To_takePerson pr1 s2) (fun r3 s4 => (if r3 = (-1) then (some (0, s4)) else (bd (To_isSignNext 60 s4) (fun r5 s6 => (if r5 = 0 then (bd (To_isSignNext 62 s6) (fun r7 s8 => (if r7 = 0 then (bd (To_isSignNext 61 s8) (fun r9 s10 => (if r9 = 0 then (bd (To_misfit s10) (fun r11 s12 => (zb r11 (some (r11, s12))))) else (YR_readHairTest_J56 ye2 r3 s10)))) else (YR_readHairTest_J56 ye2 r3 s8)))) else (YR_readHairTest_J56 ye2 r3 s6))))))))))
theorem ok_YR_readHairTest (pr1 : Nat) (ye2 : Nat) (hpr1 : Kh[pr1]? = some (.inl 4)) (hye2 : Kh[ye2]? = some (.inl 8)) (σ : Sg) : MC l Kh Ph yX10_readHairTest cX10_readHairTest 6 3 3 [.inr (.inr 5), .inr (.inr pr1), .inr (.inr ye2)] σ (YR_readHairTest pr1 ye2 σ) := by
  refine mc_of (by decide) (Nat.le_of_ble_eq_true rfl) ?_
  change G l Kh Ph RX10 cX10_readHairTest 6 3 3 0 [some (.inr (.inr 5)), some (.inr (.inr pr1)), some (.inr (.inr ye2)), none, none, none] [] σ (YR_readHairTest pr1 ye2 σ)
  unfold YR_readHairTest
  refine g_aload_n dX10_readHairTest_0 rfl rfl ?_
  refine g_bipush dX10_readHairTest_1 (by decide) ?_
  refine g_callv3 (st := []) 6 mw_X7_takeKey lk_RX10_106 rfl kh_5 (ok_To_takeKey 21 σ) (Nat.le_of_ble_eq_true rfl) rfl rfl (Nat.le_of_ble_eq_true rfl) dX10_readHairTest_3 ?_
  intro r1 s2
  refine g_ifne (tgt := 11) dX10_readHairTest_6 (by decide) ?_ ?_
  · refine g_iconst dX10_readHairTest_9 (by decide) ?_
    exact g_zret0 dX10_readHairTest_10
  · refine g_aload_n dX10_readHairTest_11 rfl rfl ?_
    refine g_aload_n dX10_readHairTest_12 rfl rfl ?_
    refine g_callv0 (st := []) 6 mw_X7_takePerson lk_RX10_99 rfl kh_5 (ok_To_takePerson pr1 hpr1 s2) (Nat.le_of_ble_eq_true rfl) rfl rfl (Nat.le_of_ble_eq_true rfl) dX10_readHairTest_13 ?_
    intro r3 s4
    refine g_istore_n (lv' := [some (.inr (.inr 5)), some (.inr (.inr pr1)), some (.inr (.inr ye2)), some (.inl r3), none, none]) dX10_readHairTest_16 rfl (Nat.le_of_ble_eq_true rfl) rfl ?_
    refine g_iload_n dX10_readHairTest_17 rfl rfl ?_
    refine g_iconst dX10_readHairTest_18 (by decide) ?_
    refine g_icmpne (tgt := 24) dX10_readHairTest_19 (by decide) ?_ ?_
    · refine g_iconst dX10_readHairTest_22 (by decide) ?_
      exact g_zret0 dX10_readHairTest_23
    · refine g_aload_n dX10_readHairTest_24 rfl rfl ?_
      refine g_bipush dX10_readHairTest_25 (by decide) ?_
      refine g_callv3 (st := []) 6 mw_X7_isSignNext lk_RX10_109 rfl kh_5 (ok_To_isSignNext 60 s4) (Nat.le_of_ble_eq_true rfl) rfl rfl (Nat.le_of_ble_eq_true rfl) dX10_readHairTest_27 ?_
      intro r5 s6
      refine g_ifne (tgt := 56) dX10_readHairTest_30 (by decide) ?_ ?_
      · refine g_aload_n dX10_readHairTest_33 rfl rfl ?_
        refine g_bipush dX10_readHairTest_34 (by decide) ?_
        refine g_callv3 (st := []) 6 mw_X7_isSignNext lk_RX10_109 rfl kh_5 (ok_To_isSignNext 62 s6) (Nat.le_of_ble_eq_true rfl) rfl rfl (Nat.le_of_ble_eq_true rfl) dX10_readHairTest_36 ?_
        intro r7 s8
        refine g_ifne (tgt := 56) dX10_readHairTest_39 (by decide) ?_ ?_
        · refine g_aload_n dX10_readHairTest_42 rfl rfl ?_
          refine g_bipush dX10_readHairTest_43 (by decide) ?_
          refine g_callv3 (st := []) 6 mw_X7_isSignNext lk_RX10_109 rfl kh_5 (ok_To_isSignNext 61 s8) (Nat.le_of_ble_eq_true rfl) rfl rfl (Nat.le_of_ble_eq_true rfl) dX10_readHairTest_45 ?_
          intro r9 s10
          refine g_ifne (tgt := 56) dX10_readHairTest_48 (by decide) ?_ ?_
          · refine g_aload_n dX10_readHairTest_51 rfl rfl ?_
            refine g_callv3 (st := []) 6 mw_X7_misfit lk_RX10_30 rfl kh_5 (ok_To_misfit s10) (Nat.le_of_ble_eq_true rfl) rfl rfl (Nat.le_of_ble_eq_true rfl) dX10_readHairTest_52 ?_
            intro r11 s12
            exact g_zret dX10_readHairTest_55
          · refine (g_weak [true, false, true, true, false, false] (ok_YR_readHairTest_J56 ye2 r3 hye2 s10))
        · refine (g_weak [true, false, true, true, false, false] (ok_YR_readHairTest_J56 ye2 r3 hye2 s8))
      · refine (g_weak [true, false, true, true, false, false] (ok_YR_readHairTest_J56 ye2 r3 hye2 s6))
end WK
