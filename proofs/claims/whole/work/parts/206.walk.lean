section WK
variable {l : Launch}
theorem dX3_orders_0 : decode cX3_orders 0 = .ok (.iconst 0, 1) := by decide +kernel
theorem dX3_orders_1 : decode cX3_orders 1 = .ok (.istore_n 2, 1) := by decide +kernel
theorem dX3_orders_2 : decode cX3_orders 2 = .ok (.iload_n 2, 1) := by decide +kernel
theorem dX3_orders_3 : decode cX3_orders 3 = .ok (.sipush 256, 3) := by decide +kernel
theorem dX3_orders_6 : decode cX3_orders 6 = .ok (.if_icmp .ge 16, 3) := by decide +kernel
theorem dX3_orders_9 : decode cX3_orders 9 = .ok (.aload_n 0, 1) := by decide +kernel
theorem dX3_orders_10 : decode cX3_orders 10 = .ok (.getfield 15, 3) := by decide +kernel
theorem dX3_orders_13 : decode cX3_orders 13 = .ok (.iload_n 2, 1) := by decide +kernel
theorem dX3_orders_14 : decode cX3_orders 14 = .ok (.iconst 0, 1) := by decide +kernel
theorem dX3_orders_15 : decode cX3_orders 15 = .ok (.iastore, 1) := by decide +kernel
theorem dX3_orders_16 : decode cX3_orders 16 = .ok (.iinc 2 1, 3) := by decide +kernel
theorem dX3_orders_19 : decode cX3_orders 19 = .ok (.goto (-17), 3) := by decide +kernel
theorem dX3_orders_22 : decode cX3_orders 22 = .ok (.aload_n 0, 1) := by decide +kernel
theorem dX3_orders_23 : decode cX3_orders 23 = .ok (.getfield 15, 3) := by decide +kernel
theorem dX3_orders_26 : decode cX3_orders 26 = .ok (.iconst 0, 1) := by decide +kernel
theorem dX3_orders_27 : decode cX3_orders 27 = .ok (.iconst 1, 1) := by decide +kernel
theorem dX3_orders_28 : decode cX3_orders 28 = .ok (.iastore, 1) := by decide +kernel
theorem dX3_orders_29 : decode cX3_orders 29 = .ok (.iconst 0, 1) := by decide +kernel
theorem dX3_orders_30 : decode cX3_orders 30 = .ok (.istore_n 2, 1) := by decide +kernel
theorem dX3_orders_31 : decode cX3_orders 31 = .ok (.iload_n 2, 1) := by decide +kernel
theorem dX3_orders_32 : decode cX3_orders 32 = .ok (.sipush 256, 3) := by decide +kernel
theorem dX3_orders_35 : decode cX3_orders 35 = .ok (.if_icmp .ge 61, 3) := by decide +kernel
theorem dX3_orders_38 : decode cX3_orders 38 = .ok (.iconst 0, 1) := by decide +kernel
theorem dX3_orders_39 : decode cX3_orders 39 = .ok (.istore_n 3, 1) := by decide +kernel
theorem dX3_orders_40 : decode cX3_orders 40 = .ok (.iload_n 3, 1) := by decide +kernel
theorem dX3_orders_41 : decode cX3_orders 41 = .ok (.bipush 8, 2) := by decide +kernel
theorem dX3_orders_43 : decode cX3_orders 43 = .ok (.if_icmp .ge 47, 3) := by decide +kernel
theorem dX3_orders_46 : decode cX3_orders 46 = .ok (.aload_n 0, 1) := by decide +kernel
theorem dX3_orders_47 : decode cX3_orders 47 = .ok (.getfield 15, 3) := by decide +kernel
theorem dX3_orders_50 : decode cX3_orders 50 = .ok (.iload_n 2, 1) := by decide +kernel
theorem dX3_orders_51 : decode cX3_orders 51 = .ok (.iaload, 1) := by decide +kernel
theorem dX3_orders_52 : decode cX3_orders 52 = .ok (.ifCond .le 38, 3) := by decide +kernel
theorem dX3_orders_55 : decode cX3_orders 55 = .ok (.aload_n 0, 1) := by decide +kernel
theorem dX3_orders_56 : decode cX3_orders 56 = .ok (.iload_n 1, 1) := by decide +kernel
theorem dX3_orders_57 : decode cX3_orders 57 = .ok (.iload_n 2, 1) := by decide +kernel
theorem dX3_orders_58 : decode cX3_orders 58 = .ok (.iload_n 3, 1) := by decide +kernel
theorem dX3_orders_59 : decode cX3_orders 59 = .ok (.invokevirtual 22, 3) := by decide +kernel
theorem dX3_orders_62 : decode cX3_orders 62 = .ok (.ifCond .eq 22, 3) := by decide +kernel
theorem dX3_orders_65 : decode cX3_orders 65 = .ok (.aload_n 0, 1) := by decide +kernel
theorem dX3_orders_66 : decode cX3_orders 66 = .ok (.getfield 15, 3) := by decide +kernel
theorem dX3_orders_69 : decode cX3_orders 69 = .ok (.iload_n 2, 1) := by decide +kernel
theorem dX3_orders_70 : decode cX3_orders 70 = .ok (.iconst 1, 1) := by decide +kernel
theorem dX3_orders_71 : decode cX3_orders 71 = .ok (.iload_n 3, 1) := by decide +kernel
theorem dX3_orders_72 : decode cX3_orders 72 = .ok (.ishl, 1) := by decide +kernel
theorem dX3_orders_73 : decode cX3_orders 73 = .ok (.ior, 1) := by decide +kernel
theorem dX3_orders_74 : decode cX3_orders 74 = .ok (.dup2, 1) := by decide +kernel
theorem dX3_orders_75 : decode cX3_orders 75 = .ok (.iaload, 1) := by decide +kernel
theorem dX3_orders_76 : decode cX3_orders 76 = .ok (.aload_n 0, 1) := by decide +kernel
theorem dX3_orders_77 : decode cX3_orders 77 = .ok (.getfield 15, 3) := by decide +kernel
theorem dX3_orders_80 : decode cX3_orders 80 = .ok (.iload_n 2, 1) := by decide +kernel
theorem dX3_orders_81 : decode cX3_orders 81 = .ok (.iaload, 1) := by decide +kernel
theorem dX3_orders_82 : decode cX3_orders 82 = .ok (.iadd, 1) := by decide +kernel
theorem dX3_orders_83 : decode cX3_orders 83 = .ok (.iastore, 1) := by decide +kernel
theorem dX3_orders_84 : decode cX3_orders 84 = .ok (.iinc 3 1, 3) := by decide +kernel
theorem dX3_orders_87 : decode cX3_orders 87 = .ok (.goto (-47), 3) := by decide +kernel
theorem dX3_orders_90 : decode cX3_orders 90 = .ok (.iinc 2 1, 3) := by decide +kernel
theorem dX3_orders_93 : decode cX3_orders 93 = .ok (.goto (-62), 3) := by decide +kernel
theorem dX3_orders_96 : decode cX3_orders 96 = .ok (.iload_n 1, 1) := by decide +kernel
theorem dX3_orders_97 : decode cX3_orders 97 = .ok (.ifCond .lt 19, 3) := by decide +kernel
theorem dX3_orders_100 : decode cX3_orders 100 = .ok (.iload_n 1, 1) := by decide +kernel
theorem dX3_orders_101 : decode cX3_orders 101 = .ok (.sipush 256, 3) := by decide +kernel
theorem dX3_orders_104 : decode cX3_orders 104 = .ok (.if_icmp .ge 12, 3) := by decide +kernel
theorem dX3_orders_107 : decode cX3_orders 107 = .ok (.aload_n 0, 1) := by decide +kernel
theorem dX3_orders_108 : decode cX3_orders 108 = .ok (.getfield 15, 3) := by decide +kernel
theorem dX3_orders_111 : decode cX3_orders 111 = .ok (.iload_n 1, 1) := by decide +kernel
theorem dX3_orders_112 : decode cX3_orders 112 = .ok (.iaload, 1) := by decide +kernel
theorem dX3_orders_113 : decode cX3_orders 113 = .ok (.goto 4, 3) := by decide +kernel
theorem dX3_orders_116 : decode cX3_orders 116 = .ok (.iconst 0, 1) := by decide +kernel
theorem dX3_orders_117 : decode cX3_orders 117 = .ok (.ireturn, 1) := by decide +kernel
theorem mw_X3_orders : MW yX3_orders cX3_orders 4 0 1 false := ⟨tm 1392 (by decide +kernel) rfl, tm 247 (by decide +kernel) rfl, by decide, by decide, (by rw [if_neg (by decide)]; exact ⟨tm 1391 (by decide +kernel) rfl, tm 97 (by decide +kernel) rfl⟩)⟩
theorem fl_RX3_15 : FL RX3 15 3 1 := ⟨_, _, _, _, cw_3, by decide, Or.inr (Or.inr (Or.inr (by decide))), Or.inl (by decide), Or.inl (tm 593 (by decide +kernel) rfl)⟩
def Pl_orders_L2 (a1 : Int) (k31 : Int → Sg → Rs) : Nat → Int → Sg → Rs
  | 0, _, _ => none
  | n + 1, v2, σ => (if v2 < 256 then (wr 256 v2 (up_s σ 107 (Int.toNat v2) 0) (fun s1 => (nm (w32 (v2 + 1)) (fun x2 => (Pl_orders_L2 a1 k31 n x2 s1))))) else (wr 256 0 (up_s σ 107 (Int.toNat 0) 1) (fun s3 => (k31 0 s3))))
theorem ok_Pl_orders_L2 (a1 : Int) (k31 : Int → Sg → Rs) (hk31 : ∀ (y2 : Int) (σ : Sg), G l Kh Ph RX3 cX3_orders 4 0 2 31 [some (.inr (.inr 105)), some (.inl a1), some (.inl y2), none] [] σ (k31 y2 σ)) : ∀ (n : Nat) (v2 : Int) (σ : Sg), G l Kh Ph RX3 cX3_orders 4 0 2 2 [some (.inr (.inr 105)), some (.inl a1), some (.inl v2), none] [] σ (Pl_orders_L2 a1 k31 n v2 σ) := by
  intro n
  induction n with
  | zero => intros; exact G.none_
  | succ n ih =>
    intro v2 σ
    rw [Pl_orders_L2]
    refine g_iload_n dX3_orders_2 rfl rfl ?_
    refine g_sipush dX3_orders_3 (by decide) ?_
    refine g_icmpge (tgt := 22) dX3_orders_6 (by decide) ?_ ?_
    · refine g_aload_n dX3_orders_9 rfl rfl ?_
      refine g_getr' (q := 107) fl_RX3_15 kh_105 (by decide) rfl dX3_orders_10 ?_
      refine g_iload_n dX3_orders_13 rfl rfl ?_
      refine g_iconst dX3_orders_14 (by decide) ?_
      refine g_iast kh_107 dX3_orders_15 ?_
      intro s1
      refine n_iinc (fun x2 => [some (.inr (.inr 105)), some (.inl a1), some (.inl x2), none]) dX3_orders_16 rfl (Nat.le_of_ble_eq_true rfl) (fun _ => rfl) ?_
      intro x2
      refine g_goto (tgt := 2) dX3_orders_19 (by decide) ?_
      exact (ih x2 s1)
    · refine g_aload_n dX3_orders_22 rfl rfl ?_
      refine g_getr' (q := 107) fl_RX3_15 kh_105 (by decide) rfl dX3_orders_23 ?_
      refine g_iconst dX3_orders_26 (by decide) ?_
      refine g_iconst dX3_orders_27 (by decide) ?_
      refine g_iast kh_107 dX3_orders_28 ?_
      intro s3
      refine g_iconst dX3_orders_29 (by decide) ?_
      refine g_istore_n (lv' := [some (.inr (.inr 105)), some (.inl a1), some (.inl 0), none]) dX3_orders_30 rfl (Nat.le_of_ble_eq_true rfl) rfl ?_
      exact (hk31 0 s3)
def Pl_orders_L40 (a1 : Int) (v2 : Int) (k31 : Int → Sg → Rs) : Nat → Int → Sg → Rs
  | 0, _, _ => none
  | n + 1, v3, σ => (if v3 < 8 then (rd 256 v2 (σ 107 (Int.toNat v2)) (fun x6 => (if 0 < x6 then (bd (Pl_canFollow a1 v2 v3 σ) (fun r7 s8 => (if r7 = 0 then (nm (w32 (v3 + 1)) (fun x9 => (Pl_orders_L40 a1 v2 k31 n x9 s8))) else (rd 256 (or32 v2 (sl32 1 v3)) (s8 107 (Int.toNat (or32 v2 (sl32 1 v3)))) (fun x10 => (rd 256 v2 (s8 107 (Int.toNat v2)) (fun x11 => (wr 256 (or32 v2 (sl32 1 v3)) (up_s s8 107 (Int.toNat (or32 v2 (sl32 1 v3))) (w32 (x10 + x11))) (fun s12 => (nm (w32 (v3 + 1)) (fun x13 => (Pl_orders_L40 a1 v2 k31 n x13 s12)))))))))))) else (nm (w32 (v2 + 1)) (fun x14 => (k31 x14 σ)))))) else (nm (w32 (v2 + 1)) (fun x15 => (k31 x15 σ))))
theorem ok_Pl_orders_L40 (a1 : Int) (v2 : Int) (k31 : Int → Sg → Rs) (hk31 : ∀ (y2 : Int) (σ : Sg), G l Kh Ph RX3 cX3_orders 4 0 2 31 [some (.inr (.inr 105)), some (.inl a1), some (.inl y2), none] [] σ (k31 y2 σ)) : ∀ (n : Nat) (v3 : Int) (σ : Sg), G l Kh Ph RX3 cX3_orders 4 0 2 40 [some (.inr (.inr 105)), some (.inl a1), some (.inl v2), some (.inl v3)] [] σ (Pl_orders_L40 a1 v2 k31 n v3 σ) := by
  intro n
  induction n with
  | zero => intros; exact G.none_
  | succ n ih =>
    intro v3 σ
    rw [Pl_orders_L40]
    refine g_iload_n dX3_orders_40 rfl rfl ?_
    refine g_bipush dX3_orders_41 (by decide) ?_
    refine g_icmpge (tgt := 90) dX3_orders_43 (by decide) ?_ ?_
    · refine g_aload_n dX3_orders_46 rfl rfl ?_
      refine g_getr' (q := 107) fl_RX3_15 kh_105 (by decide) rfl dX3_orders_47 ?_
      refine g_iload_n dX3_orders_50 rfl rfl ?_
      refine g_iald kh_107 dX3_orders_51 ?_
      intro x6
      refine g_ifle (tgt := 90) dX3_orders_52 (by decide) ?_ ?_
      · refine g_aload_n dX3_orders_55 rfl rfl ?_
        refine g_iload_n dX3_orders_56 rfl rfl ?_
        refine g_iload_n dX3_orders_57 rfl rfl ?_
        refine g_iload_n dX3_orders_58 rfl rfl ?_
        refine g_callv3 (st := []) 3 mw_X3_canFollow lk_RX3_22 rfl kh_105 (ok_Pl_canFollow a1 v2 v3 σ) (Nat.le_of_ble_eq_true rfl) rfl rfl (Nat.le_of_ble_eq_true rfl) dX3_orders_59 ?_
        intro r7 s8
        refine g_ifeq (tgt := 84) dX3_orders_62 (by decide) ?_ ?_
        · refine n_iinc (fun x9 => [some (.inr (.inr 105)), some (.inl a1), some (.inl v2), some (.inl x9)]) dX3_orders_84 rfl (Nat.le_of_ble_eq_true rfl) (fun _ => rfl) ?_
          intro x9
          refine g_goto (tgt := 40) dX3_orders_87 (by decide) ?_
          exact (ih x9 s8)
        · refine g_aload_n dX3_orders_65 rfl rfl ?_
          refine g_getr' (q := 107) fl_RX3_15 kh_105 (by decide) rfl dX3_orders_66 ?_
          refine g_iload_n dX3_orders_69 rfl rfl ?_
          refine g_iconst dX3_orders_70 (by decide) ?_
          refine g_iload_n dX3_orders_71 rfl rfl ?_
          refine g_ishl dX3_orders_72 ?_
          refine g_ior dX3_orders_73 ?_
          refine g_dup2 dX3_orders_74 rfl rfl ?_
          refine g_iald kh_107 dX3_orders_75 ?_
          intro x10
          refine g_aload_n dX3_orders_76 rfl rfl ?_
          refine g_getr' (q := 107) fl_RX3_15 kh_105 (by decide) rfl dX3_orders_77 ?_
          refine g_iload_n dX3_orders_80 rfl rfl ?_
          refine g_iald kh_107 dX3_orders_81 ?_
          intro x11
          refine g_iadd dX3_orders_82 ?_
          refine g_iast kh_107 dX3_orders_83 ?_
          intro s12
          refine n_iinc (fun x13 => [some (.inr (.inr 105)), some (.inl a1), some (.inl v2), some (.inl x13)]) dX3_orders_84 rfl (Nat.le_of_ble_eq_true rfl) (fun _ => rfl) ?_
          intro x13
          refine g_goto (tgt := 40) dX3_orders_87 (by decide) ?_
          exact (ih x13 s12)
      · refine n_iinc (fun x14 => [some (.inr (.inr 105)), some (.inl a1), some (.inl x14), some (.inl v3)]) dX3_orders_90 rfl (Nat.le_of_ble_eq_true rfl) (fun _ => rfl) ?_
        intro x14
        refine g_goto (tgt := 31) dX3_orders_93 (by decide) ?_
        exact (g_weak [true, true, true, false] (hk31 x14 σ))
    · refine n_iinc (fun x15 => [some (.inr (.inr 105)), some (.inl a1), some (.inl x15), some (.inl v3)]) dX3_orders_90 rfl (Nat.le_of_ble_eq_true rfl) (fun _ => rfl) ?_
      intro x15
      refine g_goto (tgt := 31) dX3_orders_93 (by decide) ?_
      exact (g_weak [true, true, true, false] (hk31 x15 σ))
def Pl_orders_L31 (a1 : Int) (k96 : Sg → Rs) : Nat → Int → Sg → Rs
  | 0, _, _ => none
  | n + 1, v2, σ => (if v2 < 256 then (Pl_orders_L40 a1 v2 (fun x16 s17 => (Pl_orders_L31 a1 k96 n x16 s17)) fu 0 σ) else (k96 σ))
theorem ok_Pl_orders_L31 (a1 : Int) (k96 : Sg → Rs) (hk96 : ∀ (σ : Sg), G l Kh Ph RX3 cX3_orders 4 0 2 96 [some (.inr (.inr 105)), some (.inl a1), none, none] [] σ (k96 σ)) : ∀ (n : Nat) (v2 : Int) (σ : Sg), G l Kh Ph RX3 cX3_orders 4 0 2 31 [some (.inr (.inr 105)), some (.inl a1), some (.inl v2), none] [] σ (Pl_orders_L31 a1 k96 n v2 σ) := by
  intro n
  induction n with
  | zero => intros; exact G.none_
  | succ n ih =>
    intro v2 σ
    rw [Pl_orders_L31]
    refine g_iload_n dX3_orders_31 rfl rfl ?_
    refine g_sipush dX3_orders_32 (by decide) ?_
    refine g_icmpge (tgt := 96) dX3_orders_35 (by decide) ?_ ?_
    · refine g_iconst dX3_orders_38 (by decide) ?_
      refine g_istore_n (lv' := [some (.inr (.inr 105)), some (.inl a1), some (.inl v2), some (.inl 0)]) dX3_orders_39 rfl (Nat.le_of_ble_eq_true rfl) rfl ?_
      refine (ok_Pl_orders_L40 a1 v2 _ ?_ fu 0 σ)
      · intro x16 s17
        exact (ih x16 s17)
    · exact (g_weak [true, true, false, false] (hk96 σ))
def Pl_orders_J96 (a1 : Int) (σ : Sg) : Rs := (if a1 < 0 then (some (0, σ)) else (if a1 < 256 then (rd 256 a1 (σ 107 (Int.toNat a1)) (fun x19 => (some (x19, σ)))) else (some (0, σ))))
theorem ok_Pl_orders_J96 (a1 : Int) : ∀ (σ : Sg), G l Kh Ph RX3 cX3_orders 4 0 2 96 [some (.inr (.inr 105)), some (.inl a1), none, none] [] σ (Pl_orders_J96 a1  σ) := by
  intro σ
  unfold Pl_orders_J96
  refine g_iload_n dX3_orders_96 rfl rfl ?_
  refine g_iflt (tgt := 116) dX3_orders_97 (by decide) ?_ ?_
  · refine g_iconst dX3_orders_116 (by decide) ?_
    exact g_iret dX3_orders_117
  · refine g_iload_n dX3_orders_100 rfl rfl ?_
    refine g_sipush dX3_orders_101 (by decide) ?_
    refine g_icmpge (tgt := 116) dX3_orders_104 (by decide) ?_ ?_
    · refine g_aload_n dX3_orders_107 rfl rfl ?_
      refine g_getr' (q := 107) fl_RX3_15 kh_105 (by decide) rfl dX3_orders_108 ?_
      refine g_iload_n dX3_orders_111 rfl rfl ?_
      refine g_iald kh_107 dX3_orders_112 ?_
      intro x19
      refine g_goto (tgt := 117) dX3_orders_113 (by decide) ?_
      exact g_iret dX3_orders_117
    · refine g_iconst dX3_orders_116 (by decide) ?_
      exact g_iret dX3_orders_117
def Pl_orders (a1 : Int) (σ : Sg) : Rs := (Pl_orders_L2 a1 (fun x4 s5 => (Pl_orders_L31 a1 (fun s18 => (Pl_orders_J96 a1 s18)) fu x4 s5)) fu 0 σ)
theorem ok_Pl_orders (a1 : Int) (σ : Sg) : MC l Kh Ph yX3_orders cX3_orders 4 0 2 [.inr (.inr 105), .inl a1] σ (Pl_orders a1 σ) := by
  refine mc_of (by decide) (Nat.le_of_ble_eq_true rfl) ?_
  change G l Kh Ph RX3 cX3_orders 4 0 2 0 [some (.inr (.inr 105)), some (.inl a1), none, none] [] σ (Pl_orders a1 σ)
  unfold Pl_orders
  refine g_iconst dX3_orders_0 (by decide) ?_
  refine g_istore_n (lv' := [some (.inr (.inr 105)), some (.inl a1), some (.inl 0), none]) dX3_orders_1 rfl (Nat.le_of_ble_eq_true rfl) rfl ?_
  refine (ok_Pl_orders_L2 a1 _ ?_ fu 0 σ)
  · intro x4 s5
    refine (ok_Pl_orders_L31 a1 _ ?_ fu x4 s5)
    · intro s18
      refine (ok_Pl_orders_J96 a1 s18)
theorem dX11_plaits_0 : decode cX11_plaits 0 = .ok (.aload_n 0, 1) := by decide +kernel
theorem dX11_plaits_1 : decode cX11_plaits 1 = .ok (.iload_n 1, 1) := by decide +kernel
theorem dX11_plaits_2 : decode cX11_plaits 2 = .ok (.iload_n 2, 1) := by decide +kernel
theorem dX11_plaits_3 : decode cX11_plaits 3 = .ok (.iload_n 3, 1) := by decide +kernel
theorem dX11_plaits_4 : decode cX11_plaits 4 = .ok (.invokevirtual 396, 3) := by decide +kernel
theorem dX11_plaits_7 : decode cX11_plaits 7 = .ok (.istore 4, 2) := by decide +kernel
theorem dX11_plaits_9 : decode cX11_plaits 9 = .ok (.iload 4, 2) := by decide +kernel
theorem dX11_plaits_11 : decode cX11_plaits 11 = .ok (.ifCond .eq 12, 3) := by decide +kernel
theorem dX11_plaits_14 : decode cX11_plaits 14 = .ok (.aload_n 0, 1) := by decide +kernel
theorem dX11_plaits_15 : decode cX11_plaits 15 = .ok (.iload 4, 2) := by decide +kernel
theorem dX11_plaits_17 : decode cX11_plaits 17 = .ok (.invokevirtual 147, 3) := by decide +kernel
theorem dX11_plaits_20 : decode cX11_plaits 20 = .ok (.goto 15, 3) := by decide +kernel
theorem dX11_plaits_23 : decode cX11_plaits 23 = .ok (.aload_n 0, 1) := by decide +kernel
theorem dX11_plaits_24 : decode cX11_plaits 24 = .ok (.aload_n 0, 1) := by decide +kernel
theorem dX11_plaits_25 : decode cX11_plaits 25 = .ok (.getfield 96, 3) := by decide +kernel
theorem dX11_plaits_28 : decode cX11_plaits 28 = .ok (.iload_n 1, 1) := by decide +kernel
theorem dX11_plaits_29 : decode cX11_plaits 29 = .ok (.invokevirtual 399, 3) := by decide +kernel
theorem dX11_plaits_32 : decode cX11_plaits 32 = .ok (.invokevirtual 194, 3) := by decide +kernel
theorem dX11_plaits_35 : decode cX11_plaits 35 = .ok (.ireturn, 1) := by decide +kernel
theorem mw_X11_plaits : MW yX11_plaits cX11_plaits 5 0 3 false := ⟨tm 1375 (by decide +kernel) rfl, tm 235 (by decide +kernel) rfl, by decide, by decide, (by rw [if_neg (by decide)]; exact ⟨tm 1373 (by decide +kernel) rfl, tm 1374 (by decide +kernel) rfl⟩)⟩
theorem lk_RX11_399 : LK RX11 399 yX3_orders := Or.inr ⟨"HairProvince", tm 1389 (by decide +kernel) rfl⟩
def H_plaits (a1 : Int) (a2 : Int) (a3 : Int) (σ : Sg) : Rs := (bd (H_plaitStatus a1 a2 a3 σ) (fun r1 s2 => (if r1 = 0 then (bd (Pl_orders a1 s2) (fun r3 s4 => (bd (H_give r3 s4) (fun r5 s6 => (some (r5, s6)))))) else (bd (H_fail r1 s2) (fun r7 s8 => (some (r7, s8)))))))
theorem ok_H_plaits (a1 : Int) (a2 : Int) (a3 : Int) (σ : Sg) : MC l Kh Ph yX11_plaits cX11_plaits 5 0 6 [.inr (.inr 0), .inl a1, .inl a2, .inl a3] σ (H_plaits a1 a2 a3 σ) := by
  refine mc_of (by decide) (Nat.le_of_ble_eq_true rfl) ?_
  change G l Kh Ph RX11 cX11_plaits 5 0 6 0 [some (.inr (.inr 0)), some (.inl a1), some (.inl a2), some (.inl a3), none] [] σ (H_plaits a1 a2 a3 σ)
  unfold H_plaits
  refine g_aload_n dX11_plaits_0 rfl rfl ?_
  refine g_iload_n dX11_plaits_1 rfl rfl ?_
  refine g_iload_n dX11_plaits_2 rfl rfl ?_
  refine g_iload_n dX11_plaits_3 rfl rfl ?_
  refine g_callv0 (st := []) 9 mw_X11_plaitStatus lk_RX11_396 rfl kh_0 (ok_H_plaitStatus a1 a2 a3 σ) (Nat.le_of_ble_eq_true rfl) rfl rfl (Nat.le_of_ble_eq_true rfl) dX11_plaits_4 ?_
  intro r1 s2
  refine g_istore (lv' := [some (.inr (.inr 0)), some (.inl a1), some (.inl a2), some (.inl a3), some (.inl r1)]) dX11_plaits_7 (Nat.le_of_ble_eq_true rfl) rfl ?_
  refine g_iload dX11_plaits_9 rfl ?_
  refine g_ifeq (tgt := 23) dX11_plaits_11 (by decide) ?_ ?_
  · refine g_aload_n dX11_plaits_23 rfl rfl ?_
    refine g_aload_n dX11_plaits_24 rfl rfl ?_
    refine g_getr' (q := 105) fl_RX11_96 kh_0 (by decide) rfl dX11_plaits_25 ?_
    refine g_iload_n dX11_plaits_28 rfl rfl ?_
    refine g_callv0 (st := [.inr (.inr 0)]) 3 mw_X3_orders lk_RX11_399 rfl kh_105 (ok_Pl_orders a1 s2) (Nat.le_of_ble_eq_true rfl) rfl rfl (Nat.le_of_ble_eq_true rfl) dX11_plaits_29 ?_
    intro r3 s4
    refine g_callv0 (st := []) 9 mw_X11_give lk_RX11_194 rfl kh_0 (ok_H_give r3 s4) (Nat.le_of_ble_eq_true rfl) rfl rfl (Nat.le_of_ble_eq_true rfl) dX11_plaits_32 ?_
    intro r5 s6
    exact g_iret dX11_plaits_35
  · refine g_aload_n dX11_plaits_14 rfl rfl ?_
    refine g_iload dX11_plaits_15 rfl ?_
    refine g_callv0 (st := []) 9 mw_X11_fail lk_RX11_147 rfl kh_0 (ok_H_fail r1 s2) (Nat.le_of_ble_eq_true rfl) rfl rfl (Nat.le_of_ble_eq_true rfl) dX11_plaits_17 ?_
    intro r7 s8
    refine g_goto (tgt := 35) dX11_plaits_20 (by decide) ?_
    exact g_iret dX11_plaits_35
theorem dX8_move_0 : decode cX8_move 0 = .ok (.aload_n 0, 1) := by decide +kernel
theorem dX8_move_1 : decode cX8_move 1 = .ok (.iload_n 1, 1) := by decide +kernel
theorem dX8_move_2 : decode cX8_move 2 = .ok (.iload_n 2, 1) := by decide +kernel
theorem dX8_move_3 : decode cX8_move 3 = .ok (.iload 5, 2) := by decide +kernel
theorem dX8_move_5 : decode cX8_move 5 = .ok (.invokevirtual 30, 3) := by decide +kernel
theorem dX8_move_8 : decode cX8_move 8 = .ok (.ifCond .eq 41, 3) := by decide +kernel
theorem dX8_move_11 : decode cX8_move 11 = .ok (.aload_n 0, 1) := by decide +kernel
theorem dX8_move_12 : decode cX8_move 12 = .ok (.iload_n 3, 1) := by decide +kernel
theorem dX8_move_13 : decode cX8_move 13 = .ok (.iload 4, 2) := by decide +kernel
theorem dX8_move_15 : decode cX8_move 15 = .ok (.iload 5, 2) := by decide +kernel
theorem dX8_move_17 : decode cX8_move 17 = .ok (.invokevirtual 30, 3) := by decide +kernel
theorem dX8_move_20 : decode cX8_move 20 = .ok (.ifCond .eq 29, 3) := by decide +kernel
theorem dX8_move_23 : decode cX8_move 23 = .ok (.aload_n 0, 1) := by decide +kernel
theorem dX8_move_24 : decode cX8_move 24 = .ok (.getfield 18, 3) := by decide +kernel
theorem dX8_move_27 : decode cX8_move 27 = .ok (.iload_n 1, 1) := by decide +kernel
theorem dX8_move_28 : decode cX8_move 28 = .ok (.bipush 60, 2) := by decide +kernel
theorem dX8_move_30 : decode cX8_move 30 = .ok (.imul, 1) := by decide +kernel
theorem dX8_move_31 : decode cX8_move 31 = .ok (.iload_n 2, 1) := by decide +kernel
theorem dX8_move_32 : decode cX8_move 32 = .ok (.iadd, 1) := by decide +kernel
theorem dX8_move_33 : decode cX8_move 33 = .ok (.aload_n 0, 1) := by decide +kernel
theorem dX8_move_34 : decode cX8_move 34 = .ok (.getfield 18, 3) := by decide +kernel
theorem dX8_move_37 : decode cX8_move 37 = .ok (.iload_n 3, 1) := by decide +kernel
theorem dX8_move_38 : decode cX8_move 38 = .ok (.bipush 60, 2) := by decide +kernel
theorem dX8_move_40 : decode cX8_move 40 = .ok (.imul, 1) := by decide +kernel
theorem dX8_move_41 : decode cX8_move 41 = .ok (.iload 4, 2) := by decide +kernel
theorem dX8_move_43 : decode cX8_move 43 = .ok (.iadd, 1) := by decide +kernel
theorem dX8_move_44 : decode cX8_move 44 = .ok (.iload 5, 2) := by decide +kernel
theorem dX8_move_46 : decode cX8_move 46 = .ok (.invokestatic 38, 3) := by decide +kernel
theorem dX8_move_49 : decode cX8_move 49 = .ok (.return_, 1) := by decide +kernel
theorem mw_X8_move : MW yX8_move cX8_move 6 2 5 false := ⟨tm 779 (by decide +kernel) rfl, tm 236 (by decide +kernel) rfl, by decide, by decide, (by rw [if_neg (by decide)]; exact ⟨tm 778 (by decide +kernel) rfl, tm 14 (by decide +kernel) rfl⟩)⟩
theorem cy_RX8_38 : CY RX8 38 := ⟨tm 780 (by decide +kernel) rfl, tm 782 (by decide +kernel) rfl, tm 781 (by decide +kernel) rfl, tm 250 (by decide +kernel) rfl⟩
def Tr_move (a1 : Int) (a2 : Int) (a3 : Int) (a4 : Int) (a5 : Int) (σ : Sg) : Rs := (bd (Tr_hasRow a1 a2 a5 σ) (fun r1 s2 => (if r1 = 0 then (some (0, s2)) else (bd (Tr_hasRow a3 a4 a5 s2) (fun r3 s4 => (if r3 = 0 then (some (0, s4)) else (cpw 240 240 (w32 ((w32 (a1 * 60)) + a2)) (w32 ((w32 (a3 * 60)) + a4)) a5 (cp_s s4 4 4 (Int.toNat (w32 ((w32 (a1 * 60)) + a2))) (Int.toNat (w32 ((w32 (a3 * 60)) + a4))) (Int.toNat a5)) (fun s5 => (some (0, s5))))))))))
theorem ok_Tr_move (a1 : Int) (a2 : Int) (a3 : Int) (a4 : Int) (a5 : Int) (σ : Sg) : MC l Kh Ph yX8_move cX8_move 6 2 4 [.inr (.inr 1), .inl a1, .inl a2, .inl a3, .inl a4, .inl a5] σ (Tr_move a1 a2 a3 a4 a5 σ) := by
  refine mc_of (by decide) (Nat.le_of_ble_eq_true rfl) ?_
  change G l Kh Ph RX8 cX8_move 6 2 4 0 [some (.inr (.inr 1)), some (.inl a1), some (.inl a2), some (.inl a3), some (.inl a4), some (.inl a5)] [] σ (Tr_move a1 a2 a3 a4 a5 σ)
  unfold Tr_move
  refine g_aload_n dX8_move_0 rfl rfl ?_
  refine g_iload_n dX8_move_1 rfl rfl ?_
  refine g_iload_n dX8_move_2 rfl rfl ?_
  refine g_iload dX8_move_3 rfl ?_
  refine g_callv3 (st := []) 7 mw_X8_hasRow lk_RX8_30 rfl kh_1 (ok_Tr_hasRow a1 a2 a5 σ) (Nat.le_of_ble_eq_true rfl) rfl rfl (Nat.le_of_ble_eq_true rfl) dX8_move_5 ?_
  intro r1 s2
  refine g_ifeq (tgt := 49) dX8_move_8 (by decide) ?_ ?_
  · exact g_vret dX8_move_49
  · refine g_aload_n dX8_move_11 rfl rfl ?_
    refine g_iload_n dX8_move_12 rfl rfl ?_
    refine g_iload dX8_move_13 rfl ?_
    refine g_iload dX8_move_15 rfl ?_
    refine g_callv3 (st := []) 7 mw_X8_hasRow lk_RX8_30 rfl kh_1 (ok_Tr_hasRow a3 a4 a5 s2) (Nat.le_of_ble_eq_true rfl) rfl rfl (Nat.le_of_ble_eq_true rfl) dX8_move_17 ?_
    intro r3 s4
    refine g_ifeq (tgt := 49) dX8_move_20 (by decide) ?_ ?_
    · exact g_vret dX8_move_49
    · refine g_aload_n dX8_move_23 rfl rfl ?_
      refine g_getr' (q := 4) fl_RX8_18 kh_1 (by decide) rfl dX8_move_24 ?_
      refine g_iload_n dX8_move_27 rfl rfl ?_
      refine g_bipush dX8_move_28 (by decide) ?_
      refine g_imul dX8_move_30 ?_
      refine g_iload_n dX8_move_31 rfl rfl ?_
      refine g_iadd dX8_move_32 ?_
      refine g_aload_n dX8_move_33 rfl rfl ?_
      refine g_getr' (q := 4) fl_RX8_18 kh_1 (by decide) rfl dX8_move_34 ?_
      refine g_iload_n dX8_move_37 rfl rfl ?_
      refine g_bipush dX8_move_38 (by decide) ?_
      refine g_imul dX8_move_40 ?_
      refine g_iload dX8_move_41 rfl ?_
      refine g_iadd dX8_move_43 ?_
      refine g_iload dX8_move_44 rfl ?_
      refine g_copyl cy_RX8_38 kh_4 kh_4 (Nat.le_of_ble_eq_true rfl) (Nat.le_of_ble_eq_true rfl) dX8_move_46 ?_
      intro s5
      exact g_vret dX8_move_49
theorem dX8_sortOf_0 : decode cX8_sortOf 0 = .ok (.aload_n 0, 1) := by decide +kernel
theorem dX8_sortOf_1 : decode cX8_sortOf 1 = .ok (.iload_n 1, 1) := by decide +kernel
theorem dX8_sortOf_2 : decode cX8_sortOf 2 = .ok (.invokevirtual 22, 3) := by decide +kernel
theorem dX8_sortOf_5 : decode cX8_sortOf 5 = .ok (.ifCond .eq 12, 3) := by decide +kernel
theorem dX8_sortOf_8 : decode cX8_sortOf 8 = .ok (.aload_n 0, 1) := by decide +kernel
theorem dX8_sortOf_9 : decode cX8_sortOf 9 = .ok (.getfield 11, 3) := by decide +kernel
theorem dX8_sortOf_12 : decode cX8_sortOf 12 = .ok (.iload_n 1, 1) := by decide +kernel
theorem dX8_sortOf_13 : decode cX8_sortOf 13 = .ok (.iaload, 1) := by decide +kernel
theorem dX8_sortOf_14 : decode cX8_sortOf 14 = .ok (.goto 4, 3) := by decide +kernel
theorem dX8_sortOf_17 : decode cX8_sortOf 17 = .ok (.iconst (-1), 1) := by decide +kernel
theorem dX8_sortOf_18 : decode cX8_sortOf 18 = .ok (.ireturn, 1) := by decide +kernel
theorem mw_X8_sortOf : MW yX8_sortOf cX8_sortOf 2 0 1 false := ⟨tm 774 (by decide +kernel) rfl, tm 236 (by decide +kernel) rfl, by decide, by decide, (by rw [if_neg (by decide)]; exact ⟨tm 773 (by decide +kernel) rfl, tm 13 (by decide +kernel) rfl⟩)⟩
def Tr_sortOf (a1 : Int) (σ : Sg) : Rs := (bd (Tr_isTray a1 σ) (fun r1 s2 => (if r1 = 0 then (some ((-1), s2)) else (rd 4 a1 (s2 2 (Int.toNat a1)) (fun x3 => (some (x3, s2)))))))
theorem ok_Tr_sortOf (a1 : Int) (σ : Sg) : MC l Kh Ph yX8_sortOf cX8_sortOf 2 0 2 [.inr (.inr 1), .inl a1] σ (Tr_sortOf a1 σ) := by
  refine mc_of (by decide) (Nat.le_of_ble_eq_true rfl) ?_
  change G l Kh Ph RX8 cX8_sortOf 2 0 2 0 [some (.inr (.inr 1)), some (.inl a1)] [] σ (Tr_sortOf a1 σ)
  unfold Tr_sortOf
  refine g_aload_n dX8_sortOf_0 rfl rfl ?_
  refine g_iload_n dX8_sortOf_1 rfl rfl ?_
  refine g_callv3 (st := []) 7 mw_X8_isTray lk_RX8_22 rfl kh_1 (ok_Tr_isTray a1 σ) (Nat.le_of_ble_eq_true rfl) rfl rfl (Nat.le_of_ble_eq_true rfl) dX8_sortOf_2 ?_
  intro r1 s2
  refine g_ifeq (tgt := 17) dX8_sortOf_5 (by decide) ?_ ?_
  · refine g_iconst dX8_sortOf_17 (by decide) ?_
    exact g_iret dX8_sortOf_18
  · refine g_aload_n dX8_sortOf_8 rfl rfl ?_
    refine g_getr' (q := 2) fl_RX8_11 kh_1 (by decide) rfl dX8_sortOf_9 ?_
    refine g_iload_n dX8_sortOf_12 rfl rfl ?_
    refine g_iald kh_2 dX8_sortOf_13 ?_
    intro x3
    refine g_goto (tgt := 18) dX8_sortOf_14 (by decide) ?_
    exact g_iret dX8_sortOf_18
theorem dX11_pour_0 : decode cX11_pour 0 = .ok (.aload_n 0, 1) := by decide +kernel
theorem dX11_pour_1 : decode cX11_pour 1 = .ok (.getfield 29, 3) := by decide +kernel
theorem dX11_pour_4 : decode cX11_pour 4 = .ok (.iload_n 1, 1) := by decide +kernel
theorem dX11_pour_5 : decode cX11_pour 5 = .ok (.invokevirtual 107, 3) := by decide +kernel
theorem dX11_pour_8 : decode cX11_pour 8 = .ok (.ifCond .eq 14, 3) := by decide +kernel
theorem dX11_pour_11 : decode cX11_pour 11 = .ok (.aload_n 0, 1) := by decide +kernel
theorem dX11_pour_12 : decode cX11_pour 12 = .ok (.getfield 29, 3) := by decide +kernel
theorem dX11_pour_15 : decode cX11_pour 15 = .ok (.iload_n 3, 1) := by decide +kernel
theorem dX11_pour_16 : decode cX11_pour 16 = .ok (.invokevirtual 107, 3) := by decide +kernel
theorem dX11_pour_19 : decode cX11_pour 19 = .ok (.ifCond .ne 9, 3) := by decide +kernel
theorem dX11_pour_22 : decode cX11_pour 22 = .ok (.aload_n 0, 1) := by decide +kernel
theorem dX11_pour_23 : decode cX11_pour 23 = .ok (.iconst 1, 1) := by decide +kernel
theorem dX11_pour_24 : decode cX11_pour 24 = .ok (.invokevirtual 114, 3) := by decide +kernel
theorem dX11_pour_27 : decode cX11_pour 27 = .ok (.ireturn, 1) := by decide +kernel
theorem dX11_pour_28 : decode cX11_pour 28 = .ok (.aload_n 0, 1) := by decide +kernel
theorem dX11_pour_29 : decode cX11_pour 29 = .ok (.getfield 29, 3) := by decide +kernel
theorem dX11_pour_32 : decode cX11_pour 32 = .ok (.iload_n 1, 1) := by decide +kernel
theorem dX11_pour_33 : decode cX11_pour 33 = .ok (.invokevirtual 125, 3) := by decide +kernel
theorem dX11_pour_36 : decode cX11_pour 36 = .ok (.ifCond .ne 14, 3) := by decide +kernel
theorem dX11_pour_39 : decode cX11_pour 39 = .ok (.aload_n 0, 1) := by decide +kernel
theorem dX11_pour_40 : decode cX11_pour 40 = .ok (.getfield 29, 3) := by decide +kernel
theorem dX11_pour_43 : decode cX11_pour 43 = .ok (.iload_n 3, 1) := by decide +kernel
theorem dX11_pour_44 : decode cX11_pour 44 = .ok (.invokevirtual 125, 3) := by decide +kernel
theorem dX11_pour_47 : decode cX11_pour 47 = .ok (.ifCond .eq 9, 3) := by decide +kernel
theorem dX11_pour_50 : decode cX11_pour 50 = .ok (.aload_n 0, 1) := by decide +kernel
theorem dX11_pour_51 : decode cX11_pour 51 = .ok (.iconst 3, 1) := by decide +kernel
theorem dX11_pour_52 : decode cX11_pour 52 = .ok (.invokevirtual 114, 3) := by decide +kernel
theorem dX11_pour_55 : decode cX11_pour 55 = .ok (.ireturn, 1) := by decide +kernel
theorem dX11_pour_56 : decode cX11_pour 56 = .ok (.aload_n 0, 1) := by decide +kernel
theorem dX11_pour_57 : decode cX11_pour 57 = .ok (.getfield 29, 3) := by decide +kernel
theorem dX11_pour_60 : decode cX11_pour 60 = .ok (.iload_n 1, 1) := by decide +kernel
theorem dX11_pour_61 : decode cX11_pour 61 = .ok (.invokevirtual 154, 3) := by decide +kernel
theorem dX11_pour_64 : decode cX11_pour 64 = .ok (.aload_n 0, 1) := by decide +kernel
theorem dX11_pour_65 : decode cX11_pour 65 = .ok (.getfield 29, 3) := by decide +kernel
theorem dX11_pour_68 : decode cX11_pour 68 = .ok (.iload_n 3, 1) := by decide +kernel
theorem dX11_pour_69 : decode cX11_pour 69 = .ok (.invokevirtual 154, 3) := by decide +kernel
theorem dX11_pour_72 : decode cX11_pour 72 = .ok (.if_icmp .eq 10, 3) := by decide +kernel
theorem dX11_pour_75 : decode cX11_pour 75 = .ok (.aload_n 0, 1) := by decide +kernel
theorem dX11_pour_76 : decode cX11_pour 76 = .ok (.bipush 11, 2) := by decide +kernel
theorem dX11_pour_78 : decode cX11_pour 78 = .ok (.invokevirtual 114, 3) := by decide +kernel
theorem dX11_pour_81 : decode cX11_pour 81 = .ok (.ireturn, 1) := by decide +kernel
theorem dX11_pour_82 : decode cX11_pour 82 = .ok (.iload 5, 2) := by decide +kernel
theorem dX11_pour_84 : decode cX11_pour 84 = .ok (.ifCond .ge 10, 3) := by decide +kernel
theorem dX11_pour_87 : decode cX11_pour 87 = .ok (.aload_n 0, 1) := by decide +kernel
theorem dX11_pour_88 : decode cX11_pour 88 = .ok (.bipush 6, 2) := by decide +kernel
theorem dX11_pour_90 : decode cX11_pour 90 = .ok (.invokevirtual 114, 3) := by decide +kernel
theorem dX11_pour_93 : decode cX11_pour 93 = .ok (.ireturn, 1) := by decide +kernel
theorem dX11_pour_94 : decode cX11_pour 94 = .ok (.aload_n 0, 1) := by decide +kernel
theorem dX11_pour_95 : decode cX11_pour 95 = .ok (.getfield 29, 3) := by decide +kernel
theorem dX11_pour_98 : decode cX11_pour 98 = .ok (.iload_n 1, 1) := by decide +kernel
theorem dX11_pour_99 : decode cX11_pour 99 = .ok (.iload_n 2, 1) := by decide +kernel
theorem dX11_pour_100 : decode cX11_pour 100 = .ok (.iload 5, 2) := by decide +kernel
theorem dX11_pour_102 : decode cX11_pour 102 = .ok (.invokevirtual 157, 3) := by decide +kernel
theorem dX11_pour_105 : decode cX11_pour 105 = .ok (.ifCond .eq 18, 3) := by decide +kernel
theorem dX11_pour_108 : decode cX11_pour 108 = .ok (.aload_n 0, 1) := by decide +kernel
theorem dX11_pour_109 : decode cX11_pour 109 = .ok (.getfield 29, 3) := by decide +kernel
theorem dX11_pour_112 : decode cX11_pour 112 = .ok (.iload_n 3, 1) := by decide +kernel
theorem dX11_pour_113 : decode cX11_pour 113 = .ok (.iload 4, 2) := by decide +kernel
theorem dX11_pour_115 : decode cX11_pour 115 = .ok (.iload 5, 2) := by decide +kernel
theorem dX11_pour_117 : decode cX11_pour 117 = .ok (.invokevirtual 157, 3) := by decide +kernel
theorem dX11_pour_120 : decode cX11_pour 120 = .ok (.ifCond .ne 9, 3) := by decide +kernel
theorem dX11_pour_123 : decode cX11_pour 123 = .ok (.aload_n 0, 1) := by decide +kernel
theorem dX11_pour_124 : decode cX11_pour 124 = .ok (.iconst 4, 1) := by decide +kernel
theorem dX11_pour_125 : decode cX11_pour 125 = .ok (.invokevirtual 114, 3) := by decide +kernel
theorem dX11_pour_128 : decode cX11_pour 128 = .ok (.ireturn, 1) := by decide +kernel
theorem dX11_pour_129 : decode cX11_pour 129 = .ok (.aload_n 0, 1) := by decide +kernel
theorem dX11_pour_130 : decode cX11_pour 130 = .ok (.getfield 29, 3) := by decide +kernel
theorem dX11_pour_133 : decode cX11_pour 133 = .ok (.iload_n 1, 1) := by decide +kernel
theorem dX11_pour_134 : decode cX11_pour 134 = .ok (.iload_n 2, 1) := by decide +kernel
theorem dX11_pour_135 : decode cX11_pour 135 = .ok (.iload_n 3, 1) := by decide +kernel
theorem dX11_pour_136 : decode cX11_pour 136 = .ok (.iload 4, 2) := by decide +kernel
theorem dX11_pour_138 : decode cX11_pour 138 = .ok (.iload 5, 2) := by decide +kernel
theorem dX11_pour_140 : decode cX11_pour 140 = .ok (.invokevirtual 160, 3) := by decide +kernel
theorem dX11_pour_143 : decode cX11_pour 143 = .ok (.aload_n 0, 1) := by decide +kernel
theorem dX11_pour_144 : decode cX11_pour 144 = .ok (.invokevirtual 121, 3) := by decide +kernel
theorem dX11_pour_147 : decode cX11_pour 147 = .ok (.ireturn, 1) := by decide +kernel
theorem mw_X11_pour : MW yX11_pour cX11_pour 6 3 5 false := ⟨tm 770 (by decide +kernel) rfl, tm 235 (by decide +kernel) rfl, by decide, by decide, (by rw [if_neg (by decide)]; exact ⟨tm 768 (by decide +kernel) rfl, tm 769 (by decide +kernel) rfl⟩)⟩
theorem lk_RX11_154 : LK RX11 154 yX8_sortOf := Or.inr ⟨"HairProvince", tm 771 (by decide +kernel) rfl⟩
theorem lk_RX11_157 : LK RX11 157 yX8_hasRow := Or.inr ⟨"HairProvince", tm 775 (by decide +kernel) rfl⟩
theorem lk_RX11_160 : LK RX11 160 yX8_move := Or.inr ⟨"HairProvince", tm 776 (by decide +kernel) rfl⟩
def H_pour (a1 : Int) (a2 : Int) (a3 : Int) (a4 : Int) (a5 : Int) (σ : Sg) : Rs := (bd (Tr_isTray a1 σ) (fun r1 s2 => (if r1 = 0 then (bd (H_refuse 1 s2) (fun r3 s4 => (zb r3 (some (r3, s4))))) else (bd (Tr_isTray a3 s2) (fun r5 s6 => (if r5 = 0 then (bd (H_refuse 1 s6) (fun r7 s8 => (zb r7 (some (r7, s8))))) else (bd (Tr_isMissing a1 s6) (fun r9 s10 => (if r9 = 0 then (bd (Tr_isMissing a3 s10) (fun r11 s12 => (if r11 = 0 then (bd (Tr_sortOf a1 s12) (fun r13 s14 => (bd (Tr_sortOf a3 s14) (fun r15 s16 => (if r13 = r15 then (if a5 < 0 then (bd (H_refuse 6 s16) (fun r17 s18 => (zb r17 (some (r17, s18))))) else (bd (Tr_hasRow a1 a2 a5 s16) (fun r19 s20 => (if r19 = 0 then (bd (H_refuse 4 s20) (fun r21 s22 => (zb r21 (some (r21, s22))))) else (bd (Tr_hasRow a3 a4 a5 s20) (fun r23 s24 => (if r23 = 0 then (bd (H_refuse 4 s24) (fun r25 s26 => (zb r25 (some (r25, s26))))) else (bd (Tr_move a1 a2 a3 a4 a5 s24) (fun r27 s28 => (bd (H_agree s28) (fun r29 s30 => (zb r29 (some (r29, s30)))))))))))))) else (bd (H_refuse 11 s16) (fun r31 s32 => (zb r31 (some (r31, s32)))))))))) else (bd (H_refuse 3 s12) (fun r33 s34 => (zb r33 (some (r33, s34)))))))) else (bd (H_refuse 3 s10) (fun r35 s36 => (zb r35 (some (r35, s36))))))))))))))
theorem ok_H_pour (a1 : Int) (a2 : Int) (a3 : Int) (a4 : Int) (a5 : Int) (σ : Sg) : MC l Kh Ph yX11_pour cX11_pour 6 3 5 [.inr (.inr 0), .inl a1, .inl a2, .inl a3, .inl a4, .inl a5] σ (H_pour a1 a2 a3 a4 a5 σ) := by
  refine mc_of (by decide) (Nat.le_of_ble_eq_true rfl) ?_
  change G l Kh Ph RX11 cX11_pour 6 3 5 0 [some (.inr (.inr 0)), some (.inl a1), some (.inl a2), some (.inl a3), some (.inl a4), some (.inl a5)] [] σ (H_pour a1 a2 a3 a4 a5 σ)
  unfold H_pour
  refine g_aload_n dX11_pour_0 rfl rfl ?_
  refine g_getr' (q := 1) fl_RX11_29 kh_0 (by decide) rfl dX11_pour_1 ?_
  refine g_iload_n dX11_pour_4 rfl rfl ?_
  refine g_callv3 (st := []) 7 mw_X8_isTray lk_RX11_107 rfl kh_1 (ok_Tr_isTray a1 σ) (Nat.le_of_ble_eq_true rfl) rfl rfl (Nat.le_of_ble_eq_true rfl) dX11_pour_5 ?_
  intro r1 s2
  refine g_ifeq (tgt := 22) dX11_pour_8 (by decide) ?_ ?_
  · refine g_aload_n dX11_pour_22 rfl rfl ?_
    refine g_iconst dX11_pour_23 (by decide) ?_
    refine g_callv3 (st := []) 9 mw_X11_refuse lk_RX11_114 rfl kh_0 (ok_H_refuse 1 s2) (Nat.le_of_ble_eq_true rfl) rfl rfl (Nat.le_of_ble_eq_true rfl) dX11_pour_24 ?_
    intro r3 s4
    exact g_zret dX11_pour_27
  · refine g_aload_n dX11_pour_11 rfl rfl ?_
    refine g_getr' (q := 1) fl_RX11_29 kh_0 (by decide) rfl dX11_pour_12 ?_
    refine g_iload_n dX11_pour_15 rfl rfl ?_
    refine g_callv3 (st := []) 7 mw_X8_isTray lk_RX11_107 rfl kh_1 (ok_Tr_isTray a3 s2) (Nat.le_of_ble_eq_true rfl) rfl rfl (Nat.le_of_ble_eq_true rfl) dX11_pour_16 ?_
    intro r5 s6
    refine g_ifne (tgt := 28) dX11_pour_19 (by decide) ?_ ?_
    · refine g_aload_n dX11_pour_22 rfl rfl ?_
      refine g_iconst dX11_pour_23 (by decide) ?_
      refine g_callv3 (st := []) 9 mw_X11_refuse lk_RX11_114 rfl kh_0 (ok_H_refuse 1 s6) (Nat.le_of_ble_eq_true rfl) rfl rfl (Nat.le_of_ble_eq_true rfl) dX11_pour_24 ?_
      intro r7 s8
      exact g_zret dX11_pour_27
    · refine g_aload_n dX11_pour_28 rfl rfl ?_
      refine g_getr' (q := 1) fl_RX11_29 kh_0 (by decide) rfl dX11_pour_29 ?_
      refine g_iload_n dX11_pour_32 rfl rfl ?_
      refine g_callv3 (st := []) 7 mw_X8_isMissing lk_RX11_125 rfl kh_1 (ok_Tr_isMissing a1 s6) (Nat.le_of_ble_eq_true rfl) rfl rfl (Nat.le_of_ble_eq_true rfl) dX11_pour_33 ?_
      intro r9 s10
      refine g_ifne (tgt := 50) dX11_pour_36 (by decide) ?_ ?_
      · refine g_aload_n dX11_pour_39 rfl rfl ?_
        refine g_getr' (q := 1) fl_RX11_29 kh_0 (by decide) rfl dX11_pour_40 ?_
        refine g_iload_n dX11_pour_43 rfl rfl ?_
        refine g_callv3 (st := []) 7 mw_X8_isMissing lk_RX11_125 rfl kh_1 (ok_Tr_isMissing a3 s10) (Nat.le_of_ble_eq_true rfl) rfl rfl (Nat.le_of_ble_eq_true rfl) dX11_pour_44 ?_
        intro r11 s12
        refine g_ifeq (tgt := 56) dX11_pour_47 (by decide) ?_ ?_
        · refine g_aload_n dX11_pour_56 rfl rfl ?_
          refine g_getr' (q := 1) fl_RX11_29 kh_0 (by decide) rfl dX11_pour_57 ?_
          refine g_iload_n dX11_pour_60 rfl rfl ?_
          refine g_callv0 (st := []) 7 mw_X8_sortOf lk_RX11_154 rfl kh_1 (ok_Tr_sortOf a1 s12) (Nat.le_of_ble_eq_true rfl) rfl rfl (Nat.le_of_ble_eq_true rfl) dX11_pour_61 ?_
          intro r13 s14
          refine g_aload_n dX11_pour_64 rfl rfl ?_
          refine g_getr' (q := 1) fl_RX11_29 kh_0 (by decide) rfl dX11_pour_65 ?_
          refine g_iload_n dX11_pour_68 rfl rfl ?_
          refine g_callv0 (st := [.inl r13]) 7 mw_X8_sortOf lk_RX11_154 rfl kh_1 (ok_Tr_sortOf a3 s14) (Nat.le_of_ble_eq_true rfl) rfl rfl (Nat.le_of_ble_eq_true rfl) dX11_pour_69 ?_
          intro r15 s16
          refine g_icmpeq (tgt := 82) dX11_pour_72 (by decide) ?_ ?_
          · refine g_iload dX11_pour_82 rfl ?_
            refine g_ifge (tgt := 94) dX11_pour_84 (by decide) ?_ ?_
            · refine g_aload_n dX11_pour_87 rfl rfl ?_
              refine g_bipush dX11_pour_88 (by decide) ?_
              refine g_callv3 (st := []) 9 mw_X11_refuse lk_RX11_114 rfl kh_0 (ok_H_refuse 6 s16) (Nat.le_of_ble_eq_true rfl) rfl rfl (Nat.le_of_ble_eq_true rfl) dX11_pour_90 ?_
              intro r17 s18
              exact g_zret dX11_pour_93
            · refine g_aload_n dX11_pour_94 rfl rfl ?_
              refine g_getr' (q := 1) fl_RX11_29 kh_0 (by decide) rfl dX11_pour_95 ?_
              refine g_iload_n dX11_pour_98 rfl rfl ?_
              refine g_iload_n dX11_pour_99 rfl rfl ?_
              refine g_iload dX11_pour_100 rfl ?_
              refine g_callv3 (st := []) 7 mw_X8_hasRow lk_RX11_157 rfl kh_1 (ok_Tr_hasRow a1 a2 a5 s16) (Nat.le_of_ble_eq_true rfl) rfl rfl (Nat.le_of_ble_eq_true rfl) dX11_pour_102 ?_
              intro r19 s20
              refine g_ifeq (tgt := 123) dX11_pour_105 (by decide) ?_ ?_
              · refine g_aload_n dX11_pour_123 rfl rfl ?_
                refine g_iconst dX11_pour_124 (by decide) ?_
                refine g_callv3 (st := []) 9 mw_X11_refuse lk_RX11_114 rfl kh_0 (ok_H_refuse 4 s20) (Nat.le_of_ble_eq_true rfl) rfl rfl (Nat.le_of_ble_eq_true rfl) dX11_pour_125 ?_
                intro r21 s22
                exact g_zret dX11_pour_128
              · refine g_aload_n dX11_pour_108 rfl rfl ?_
                refine g_getr' (q := 1) fl_RX11_29 kh_0 (by decide) rfl dX11_pour_109 ?_
                refine g_iload_n dX11_pour_112 rfl rfl ?_
                refine g_iload dX11_pour_113 rfl ?_
                refine g_iload dX11_pour_115 rfl ?_
                refine g_callv3 (st := []) 7 mw_X8_hasRow lk_RX11_157 rfl kh_1 (ok_Tr_hasRow a3 a4 a5 s20) (Nat.le_of_ble_eq_true rfl) rfl rfl (Nat.le_of_ble_eq_true rfl) dX11_pour_117 ?_
                intro r23 s24
                refine g_ifne (tgt := 129) dX11_pour_120 (by decide) ?_ ?_
                · refine g_aload_n dX11_pour_123 rfl rfl ?_
                  refine g_iconst dX11_pour_124 (by decide) ?_
                  refine g_callv3 (st := []) 9 mw_X11_refuse lk_RX11_114 rfl kh_0 (ok_H_refuse 4 s24) (Nat.le_of_ble_eq_true rfl) rfl rfl (Nat.le_of_ble_eq_true rfl) dX11_pour_125 ?_
                  intro r25 s26
                  exact g_zret dX11_pour_128
                · refine g_aload_n dX11_pour_129 rfl rfl ?_
                  refine g_getr' (q := 1) fl_RX11_29 kh_0 (by decide) rfl dX11_pour_130 ?_
                  refine g_iload_n dX11_pour_133 rfl rfl ?_
                  refine g_iload_n dX11_pour_134 rfl rfl ?_
                  refine g_iload_n dX11_pour_135 rfl rfl ?_
                  refine g_iload dX11_pour_136 rfl ?_
                  refine g_iload dX11_pour_138 rfl ?_
                  refine g_callv2 (st := []) 7 mw_X8_move lk_RX11_160 rfl kh_1 (ok_Tr_move a1 a2 a3 a4 a5 s24) (Nat.le_of_ble_eq_true rfl) rfl rfl (Nat.le_of_ble_eq_true rfl) dX11_pour_140 ?_
                  intro r27 s28
                  refine g_aload_n dX11_pour_143 rfl rfl ?_
                  refine g_callv3 (st := []) 9 mw_X11_agree lk_RX11_121 rfl kh_0 (ok_H_agree s28) (Nat.le_of_ble_eq_true rfl) rfl rfl (Nat.le_of_ble_eq_true rfl) dX11_pour_144 ?_
                  intro r29 s30
                  exact g_zret dX11_pour_147
          · refine g_aload_n dX11_pour_75 rfl rfl ?_
            refine g_bipush dX11_pour_76 (by decide) ?_
            refine g_callv3 (st := []) 9 mw_X11_refuse lk_RX11_114 rfl kh_0 (ok_H_refuse 11 s16) (Nat.le_of_ble_eq_true rfl) rfl rfl (Nat.le_of_ble_eq_true rfl) dX11_pour_78 ?_
            intro r31 s32
            exact g_zret dX11_pour_81
        · refine g_aload_n dX11_pour_50 rfl rfl ?_
          refine g_iconst dX11_pour_51 (by decide) ?_
          refine g_callv3 (st := []) 9 mw_X11_refuse lk_RX11_114 rfl kh_0 (ok_H_refuse 3 s12) (Nat.le_of_ble_eq_true rfl) rfl rfl (Nat.le_of_ble_eq_true rfl) dX11_pour_52 ?_
          intro r33 s34
          exact g_zret dX11_pour_55
      · refine g_aload_n dX11_pour_50 rfl rfl ?_
        refine g_iconst dX11_pour_51 (by decide) ?_
        refine g_callv3 (st := []) 9 mw_X11_refuse lk_RX11_114 rfl kh_0 (ok_H_refuse 3 s10) (Nat.le_of_ble_eq_true rfl) rfl rfl (Nat.le_of_ble_eq_true rfl) dX11_pour_52 ?_
        intro r35 s36
        exact g_zret dX11_pour_55
theorem dX4_clear_0 : decode cX4_clear 0 = .ok (.aload_n 0, 1) := by decide +kernel
theorem dX4_clear_1 : decode cX4_clear 1 = .ok (.iconst 0, 1) := by decide +kernel
theorem dX4_clear_2 : decode cX4_clear 2 = .ok (.putfield 50, 3) := by decide +kernel
theorem dX4_clear_5 : decode cX4_clear 5 = .ok (.aload_n 0, 1) := by decide +kernel
theorem dX4_clear_6 : decode cX4_clear 6 = .ok (.iconst 0, 1) := by decide +kernel
theorem dX4_clear_7 : decode cX4_clear 7 = .ok (.putfield 53, 3) := by decide +kernel
theorem dX4_clear_10 : decode cX4_clear 10 = .ok (.aload_n 0, 1) := by decide +kernel
theorem dX4_clear_11 : decode cX4_clear 11 = .ok (.iconst 0, 1) := by decide +kernel
theorem dX4_clear_12 : decode cX4_clear 12 = .ok (.putfield 56, 3) := by decide +kernel
theorem dX4_clear_15 : decode cX4_clear 15 = .ok (.aload_n 0, 1) := by decide +kernel
theorem dX4_clear_16 : decode cX4_clear 16 = .ok (.iconst 0, 1) := by decide +kernel
theorem dX4_clear_17 : decode cX4_clear 17 = .ok (.putfield 59, 3) := by decide +kernel
theorem dX4_clear_20 : decode cX4_clear 20 = .ok (.aload_n 0, 1) := by decide +kernel
theorem dX4_clear_21 : decode cX4_clear 21 = .ok (.iconst 3, 1) := by decide +kernel
theorem dX4_clear_22 : decode cX4_clear 22 = .ok (.putfield 43, 3) := by decide +kernel
theorem dX4_clear_25 : decode cX4_clear 25 = .ok (.aload_n 0, 1) := by decide +kernel
theorem dX4_clear_26 : decode cX4_clear 26 = .ok (.iconst 1, 1) := by decide +kernel
theorem dX4_clear_27 : decode cX4_clear 27 = .ok (.putfield 47, 3) := by decide +kernel
theorem dX4_clear_30 : decode cX4_clear 30 = .ok (.aload_n 0, 1) := by decide +kernel
theorem dX4_clear_31 : decode cX4_clear 31 = .ok (.iconst 0, 1) := by decide +kernel
theorem dX4_clear_32 : decode cX4_clear 32 = .ok (.putfield 62, 3) := by decide +kernel
theorem dX4_clear_35 : decode cX4_clear 35 = .ok (.aload_n 0, 1) := by decide +kernel
theorem dX4_clear_36 : decode cX4_clear 36 = .ok (.iconst 0, 1) := by decide +kernel
theorem dX4_clear_37 : decode cX4_clear 37 = .ok (.putfield 65, 3) := by decide +kernel
theorem dX4_clear_40 : decode cX4_clear 40 = .ok (.aload_n 0, 1) := by decide +kernel
theorem dX4_clear_41 : decode cX4_clear 41 = .ok (.iconst 0, 1) := by decide +kernel
theorem dX4_clear_42 : decode cX4_clear 42 = .ok (.putfield 68, 3) := by decide +kernel
theorem dX4_clear_45 : decode cX4_clear 45 = .ok (.aload_n 0, 1) := by decide +kernel
theorem dX4_clear_46 : decode cX4_clear 46 = .ok (.iconst 0, 1) := by decide +kernel
theorem dX4_clear_47 : decode cX4_clear 47 = .ok (.putfield 71, 3) := by decide +kernel
theorem dX4_clear_50 : decode cX4_clear 50 = .ok (.return_, 1) := by decide +kernel
theorem mw_X4_clear : MW yX4_clear cX4_clear 1 2 0 false := ⟨tm 844 (by decide +kernel) rfl, tm 242 (by decide +kernel) rfl, by decide, by decide, (by rw [if_neg (by decide)]; exact ⟨tm 843 (by decide +kernel) rfl, tm 24 (by decide +kernel) rfl⟩)⟩
def Pr_clear (pr0 : Nat) (σ : Sg) : Rs := (nm (up_s σ pr0 10 0) (fun s1 => (nm (up_s s1 pr0 11 0) (fun s2 => (nm (up_s s2 pr0 12 0) (fun s3 => (nm (up_s s3 pr0 13 0) (fun s4 => (nm (up_s s4 pr0 14 3) (fun s5 => (nm (up_s s5 pr0 15 1) (fun s6 => (nm (up_s s6 pr0 16 0) (fun s7 => (nm (up_s s7 pr0 17 0) (fun s8 => (nm (up_s s8 pr0 18 0) (fun s9 => (nm (up_s s9 pr0 19 0) (fun s10 => (some (0, s10))))))))))))))))))))))
theorem ok_Pr_clear (pr0 : Nat) (hpr0 : Kh[pr0]? = some (.inl 4)) (σ : Sg) : MC l Kh Ph yX4_clear cX4_clear 1 2 1 [.inr (.inr pr0)] σ (Pr_clear pr0 σ) := by
  refine mc_of (by decide) (Nat.le_of_ble_eq_true rfl) ?_
  change G l Kh Ph RX4 cX4_clear 1 2 1 0 [some (.inr (.inr pr0))] [] σ (Pr_clear pr0 σ)
  unfold Pr_clear
  refine g_aload_n dX4_clear_0 rfl rfl ?_
  refine g_iconst dX4_clear_1 (by decide) ?_
  refine g_puti fl_RX4_50 hpr0 (by decide) dX4_clear_2 ?_
  intro s1
  refine g_aload_n dX4_clear_5 rfl rfl ?_
  refine g_iconst dX4_clear_6 (by decide) ?_
  refine g_puti fl_RX4_53 hpr0 (by decide) dX4_clear_7 ?_
  intro s2
  refine g_aload_n dX4_clear_10 rfl rfl ?_
  refine g_iconst dX4_clear_11 (by decide) ?_
  refine g_puti fl_RX4_56 hpr0 (by decide) dX4_clear_12 ?_
  intro s3
  refine g_aload_n dX4_clear_15 rfl rfl ?_
  refine g_iconst dX4_clear_16 (by decide) ?_
  refine g_puti fl_RX4_59 hpr0 (by decide) dX4_clear_17 ?_
  intro s4
  refine g_aload_n dX4_clear_20 rfl rfl ?_
  refine g_iconst dX4_clear_21 (by decide) ?_
  refine g_puti fl_RX4_43 hpr0 (by decide) dX4_clear_22 ?_
  intro s5
  refine g_aload_n dX4_clear_25 rfl rfl ?_
  refine g_iconst dX4_clear_26 (by decide) ?_
  refine g_puti fl_RX4_47 hpr0 (by decide) dX4_clear_27 ?_
  intro s6
  refine g_aload_n dX4_clear_30 rfl rfl ?_
  refine g_iconst dX4_clear_31 (by decide) ?_
  refine g_puti fl_RX4_62 hpr0 (by decide) dX4_clear_32 ?_
  intro s7
  refine g_aload_n dX4_clear_35 rfl rfl ?_
  refine g_iconst dX4_clear_36 (by decide) ?_
  refine g_puti fl_RX4_65 hpr0 (by decide) dX4_clear_37 ?_
  intro s8
  refine g_aload_n dX4_clear_40 rfl rfl ?_
  refine g_iconst dX4_clear_41 (by decide) ?_
  refine g_puti fl_RX4_68 hpr0 (by decide) dX4_clear_42 ?_
  intro s9
  refine g_aload_n dX4_clear_45 rfl rfl ?_
  refine g_iconst dX4_clear_46 (by decide) ?_
  refine g_puti fl_RX4_71 hpr0 (by decide) dX4_clear_47 ?_
  intro s10
  exact g_vret dX4_clear_50
theorem dX7_reject_0 : decode cX7_reject 0 = .ok (.aload_n 0, 1) := by decide +kernel
theorem dX7_reject_1 : decode cX7_reject 1 = .ok (.iload_n 1, 1) := by decide +kernel
theorem dX7_reject_2 : decode cX7_reject 2 = .ok (.putfield 63, 3) := by decide +kernel
theorem dX7_reject_5 : decode cX7_reject 5 = .ok (.aload_n 0, 1) := by decide +kernel
theorem dX7_reject_6 : decode cX7_reject 6 = .ok (.aload_n 0, 1) := by decide +kernel
theorem dX7_reject_7 : decode cX7_reject 7 = .ok (.getfield 105, 3) := by decide +kernel
theorem dX7_reject_10 : decode cX7_reject 10 = .ok (.putfield 22, 3) := by decide +kernel
theorem dX7_reject_13 : decode cX7_reject 13 = .ok (.iconst 0, 1) := by decide +kernel
theorem dX7_reject_14 : decode cX7_reject 14 = .ok (.ireturn, 1) := by decide +kernel
theorem mw_X7_reject : MW yX7_reject cX7_reject 2 3 1 false := ⟨tm 863 (by decide +kernel) rfl, tm 237 (by decide +kernel) rfl, by decide, by decide, (by rw [if_neg (by decide)]; exact ⟨tm 862 (by decide +kernel) rfl, tm 27 (by decide +kernel) rfl⟩)⟩
theorem fl_RX7_22 : FL RX7 22 6 12 := ⟨_, _, _, _, cw_6, by decide, Or.inl (by decide), Or.inr (by decide), Or.inl (tm 358 (by decide +kernel) rfl)⟩
theorem fl_RX7_63 : FL RX7 63 6 11 := ⟨_, _, _, _, cw_6, by decide, Or.inl (by decide), Or.inr (by decide), Or.inl (tm 356 (by decide +kernel) rfl)⟩
theorem fl_RX7_105 : FL RX7 105 6 9 := ⟨_, _, _, _, cw_6, by decide, Or.inl (by decide), Or.inr (by decide), Or.inl (tm 353 (by decide +kernel) rfl)⟩
def To_reject (a1 : Int) (σ : Sg) : Rs := (nm (up_s σ 5 11 a1) (fun s1 => (nm (up_s s1 5 12 (s1 5 9)) (fun s2 => (some (0, s2))))))
theorem ok_To_reject (a1 : Int) (σ : Sg) : MC l Kh Ph yX7_reject cX7_reject 2 3 1 [.inr (.inr 5), .inl a1] σ (To_reject a1 σ) := by
  refine mc_of (by decide) (Nat.le_of_ble_eq_true rfl) ?_
  change G l Kh Ph RX7 cX7_reject 2 3 1 0 [some (.inr (.inr 5)), some (.inl a1)] [] σ (To_reject a1 σ)
  unfold To_reject
  refine g_aload_n dX7_reject_0 rfl rfl ?_
  refine g_iload_n dX7_reject_1 rfl rfl ?_
  refine g_puti fl_RX7_63 kh_5 (by decide) dX7_reject_2 ?_
  intro s1
  refine g_aload_n dX7_reject_5 rfl rfl ?_
  refine g_aload_n dX7_reject_6 rfl rfl ?_
  refine g_geti fl_RX7_105 kh_5 (by decide) dX7_reject_7 ?_
  refine g_puti fl_RX7_22 kh_5 (by decide) dX7_reject_10 ?_
  intro s2
  refine g_iconst dX7_reject_13 (by decide) ?_
  exact g_zret0 dX7_reject_14
theorem dX7_misfit_0 : decode cX7_misfit 0 = .ok (.aload_n 0, 1) := by decide +kernel
theorem dX7_misfit_1 : decode cX7_misfit 1 = .ok (.aload_n 0, 1) := by decide +kernel
theorem dX7_misfit_2 : decode cX7_misfit 2 = .ok (.getfield 115, 3) := by decide +kernel
theorem dX7_misfit_5 : decode cX7_misfit 5 = .ok (.iconst 1, 1) := by decide +kernel
theorem dX7_misfit_6 : decode cX7_misfit 6 = .ok (.if_icmp .ne 7, 3) := by decide +kernel
theorem dX7_misfit_9 : decode cX7_misfit 9 = .ok (.iconst 1, 1) := by decide +kernel
theorem dX7_misfit_10 : decode cX7_misfit 10 = .ok (.goto 4, 3) := by decide +kernel
theorem dX7_misfit_13 : decode cX7_misfit 13 = .ok (.iconst 2, 1) := by decide +kernel
theorem dX7_misfit_14 : decode cX7_misfit 14 = .ok (.putfield 63, 3) := by decide +kernel
theorem dX7_misfit_17 : decode cX7_misfit 17 = .ok (.aload_n 0, 1) := by decide +kernel
theorem dX7_misfit_18 : decode cX7_misfit 18 = .ok (.aload_n 0, 1) := by decide +kernel
theorem dX7_misfit_19 : decode cX7_misfit 19 = .ok (.getfield 102, 3) := by decide +kernel
theorem dX7_misfit_22 : decode cX7_misfit 22 = .ok (.putfield 22, 3) := by decide +kernel
theorem dX7_misfit_25 : decode cX7_misfit 25 = .ok (.iconst 0, 1) := by decide +kernel
theorem dX7_misfit_26 : decode cX7_misfit 26 = .ok (.ireturn, 1) := by decide +kernel
theorem mw_X7_misfit : MW yX7_misfit cX7_misfit 1 3 0 false := ⟨tm 871 (by decide +kernel) rfl, tm 237 (by decide +kernel) rfl, by decide, by decide, (by rw [if_neg (by decide)]; exact ⟨tm 870 (by decide +kernel) rfl, tm 29 (by decide +kernel) rfl⟩)⟩
theorem fl_RX7_102 : FL RX7 102 6 7 := ⟨_, _, _, _, cw_6, by decide, Or.inl (by decide), Or.inr (by decide), Or.inl (tm 350 (by decide +kernel) rfl)⟩
theorem fl_RX7_115 : FL RX7 115 6 6 := ⟨_, _, _, _, cw_6, by decide, Or.inl (by decide), Or.inr (by decide), Or.inl (tm 349 (by decide +kernel) rfl)⟩
def To_misfit  (σ : Sg) : Rs := (if (σ 5 6) = 1 then (nm (up_s σ 5 11 1) (fun s1 => (nm (up_s s1 5 12 (s1 5 7)) (fun s2 => (some (0, s2)))))) else (nm (up_s σ 5 11 2) (fun s3 => (nm (up_s s3 5 12 (s3 5 7)) (fun s4 => (some (0, s4)))))))
theorem ok_To_misfit (σ : Sg) : MC l Kh Ph yX7_misfit cX7_misfit 1 3 1 [.inr (.inr 5)] σ (To_misfit σ) := by
  refine mc_of (by decide) (Nat.le_of_ble_eq_true rfl) ?_
  change G l Kh Ph RX7 cX7_misfit 1 3 1 0 [some (.inr (.inr 5))] [] σ (To_misfit  σ)
  unfold To_misfit
  refine g_aload_n dX7_misfit_0 rfl rfl ?_
  refine g_aload_n dX7_misfit_1 rfl rfl ?_
  refine g_geti fl_RX7_115 kh_5 (by decide) dX7_misfit_2 ?_
  refine g_iconst dX7_misfit_5 (by decide) ?_
  refine g_icmpne (tgt := 13) dX7_misfit_6 (by decide) ?_ ?_
  · refine g_iconst dX7_misfit_9 (by decide) ?_
    refine g_goto (tgt := 14) dX7_misfit_10 (by decide) ?_
    refine g_puti fl_RX7_63 kh_5 (by decide) dX7_misfit_14 ?_
    intro s1
    refine g_aload_n dX7_misfit_17 rfl rfl ?_
    refine g_aload_n dX7_misfit_18 rfl rfl ?_
    refine g_geti fl_RX7_102 kh_5 (by decide) dX7_misfit_19 ?_
    refine g_puti fl_RX7_22 kh_5 (by decide) dX7_misfit_22 ?_
    intro s2
    refine g_iconst dX7_misfit_25 (by decide) ?_
    exact g_zret0 dX7_misfit_26
  · refine g_iconst dX7_misfit_13 (by decide) ?_
    refine g_puti fl_RX7_63 kh_5 (by decide) dX7_misfit_14 ?_
    intro s3
    refine g_aload_n dX7_misfit_17 rfl rfl ?_
    refine g_aload_n dX7_misfit_18 rfl rfl ?_
    refine g_geti fl_RX7_102 kh_5 (by decide) dX7_misfit_19 ?_
    refine g_puti fl_RX7_22 kh_5 (by decide) dX7_misfit_22 ?_
    intro s4
    refine g_iconst dX7_misfit_25 (by decide) ?_
    exact g_zret0 dX7_misfit_26
theorem dX7_take_0 : decode cX7_take 0 = .ok (.aload_n 0, 1) := by decide +kernel
theorem dX7_take_1 : decode cX7_take 1 = .ok (.aload_n 0, 1) := by decide +kernel
theorem dX7_take_2 : decode cX7_take 2 = .ok (.getfield 102, 3) := by decide +kernel
theorem dX7_take_5 : decode cX7_take 5 = .ok (.putfield 105, 3) := by decide +kernel
theorem dX7_take_8 : decode cX7_take 8 = .ok (.aload_n 0, 1) := by decide +kernel
theorem dX7_take_9 : decode cX7_take 9 = .ok (.aload_n 0, 1) := by decide +kernel
theorem dX7_take_10 : decode cX7_take 10 = .ok (.getfield 108, 3) := by decide +kernel
theorem dX7_take_13 : decode cX7_take 13 = .ok (.putfield 112, 3) := by decide +kernel
theorem dX7_take_16 : decode cX7_take 16 = .ok (.aload_n 0, 1) := by decide +kernel
theorem dX7_take_17 : decode cX7_take 17 = .ok (.getfield 60, 3) := by decide +kernel
theorem dX7_take_20 : decode cX7_take 20 = .ok (.aload_n 0, 1) := by decide +kernel
theorem dX7_take_21 : decode cX7_take 21 = .ok (.getfield 57, 3) := by decide +kernel
theorem dX7_take_24 : decode cX7_take 24 = .ok (.iconst 1, 1) := by decide +kernel
theorem dX7_take_25 : decode cX7_take 25 = .ok (.isub, 1) := by decide +kernel
theorem dX7_take_26 : decode cX7_take 26 = .ok (.if_icmp .ge 13, 3) := by decide +kernel
theorem dX7_take_29 : decode cX7_take 29 = .ok (.aload_n 0, 1) := by decide +kernel
theorem dX7_take_30 : decode cX7_take 30 = .ok (.dup, 1) := by decide +kernel
theorem dX7_take_31 : decode cX7_take 31 = .ok (.getfield 60, 3) := by decide +kernel
theorem dX7_take_34 : decode cX7_take 34 = .ok (.iconst 1, 1) := by decide +kernel
theorem dX7_take_35 : decode cX7_take 35 = .ok (.iadd, 1) := by decide +kernel
theorem dX7_take_36 : decode cX7_take 36 = .ok (.putfield 60, 3) := by decide +kernel
theorem dX7_take_39 : decode cX7_take 39 = .ok (.aload_n 0, 1) := by decide +kernel
theorem dX7_take_40 : decode cX7_take 40 = .ok (.getfield 60, 3) := by decide +kernel
theorem dX7_take_43 : decode cX7_take 43 = .ok (.ifCond .lt 27, 3) := by decide +kernel
theorem dX7_take_46 : decode cX7_take 46 = .ok (.aload_n 0, 1) := by decide +kernel
theorem dX7_take_47 : decode cX7_take 47 = .ok (.getfield 60, 3) := by decide +kernel
theorem dX7_take_50 : decode cX7_take 50 = .ok (.aload_n 0, 1) := by decide +kernel
theorem dX7_take_51 : decode cX7_take 51 = .ok (.getfield 19, 3) := by decide +kernel
theorem dX7_take_54 : decode cX7_take 54 = .ok (.arraylength, 1) := by decide +kernel
theorem dX7_take_55 : decode cX7_take 55 = .ok (.if_icmp .ge 15, 3) := by decide +kernel
theorem dX7_take_58 : decode cX7_take 58 = .ok (.aload_n 0, 1) := by decide +kernel
theorem dX7_take_59 : decode cX7_take 59 = .ok (.getfield 19, 3) := by decide +kernel
theorem dX7_take_62 : decode cX7_take 62 = .ok (.aload_n 0, 1) := by decide +kernel
theorem dX7_take_63 : decode cX7_take 63 = .ok (.getfield 60, 3) := by decide +kernel
theorem dX7_take_66 : decode cX7_take 66 = .ok (.laload, 1) := by decide +kernel
theorem dX7_take_67 : decode cX7_take 67 = .ok (.goto 4, 3) := by decide +kernel
theorem dX7_take_70 : decode cX7_take 70 = .ok (.lconst 0, 1) := by decide +kernel
theorem dX7_take_71 : decode cX7_take 71 = .ok (.lstore_n 1, 1) := by decide +kernel
theorem dX7_take_72 : decode cX7_take 72 = .ok (.aload_n 0, 1) := by decide +kernel
theorem dX7_take_73 : decode cX7_take 73 = .ok (.lload_n 1, 1) := by decide +kernel
theorem dX7_take_74 : decode cX7_take 74 = .ok (.l2i, 1) := by decide +kernel
theorem dX7_take_75 : decode cX7_take 75 = .ok (.bipush 15, 2) := by decide +kernel
theorem dX7_take_77 : decode cX7_take 77 = .ok (.iand, 1) := by decide +kernel
theorem dX7_take_78 : decode cX7_take 78 = .ok (.putfield 115, 3) := by decide +kernel
theorem dX7_take_81 : decode cX7_take 81 = .ok (.aload_n 0, 1) := by decide +kernel
theorem dX7_take_82 : decode cX7_take 82 = .ok (.lload_n 1, 1) := by decide +kernel
theorem dX7_take_83 : decode cX7_take 83 = .ok (.iconst 4, 1) := by decide +kernel
theorem dX7_take_84 : decode cX7_take 84 = .ok (.lshr, 1) := by decide +kernel
theorem dX7_take_85 : decode cX7_take 85 = .ok (.l2i, 1) := by decide +kernel
theorem dX7_take_86 : decode cX7_take 86 = .ok (.sipush 4095, 3) := by decide +kernel
theorem dX7_take_89 : decode cX7_take 89 = .ok (.iand, 1) := by decide +kernel
theorem dX7_take_90 : decode cX7_take 90 = .ok (.putfield 102, 3) := by decide +kernel
theorem dX7_take_93 : decode cX7_take 93 = .ok (.aload_n 0, 1) := by decide +kernel
theorem dX7_take_94 : decode cX7_take 94 = .ok (.lload_n 1, 1) := by decide +kernel
theorem dX7_take_95 : decode cX7_take 95 = .ok (.bipush 16, 2) := by decide +kernel
theorem dX7_take_97 : decode cX7_take 97 = .ok (.lshr, 1) := by decide +kernel
theorem dX7_take_98 : decode cX7_take 98 = .ok (.putfield 108, 3) := by decide +kernel
theorem dX7_take_101 : decode cX7_take 101 = .ok (.return_, 1) := by decide +kernel
theorem mw_X7_take : MW yX7_take cX7_take 3 2 0 false := ⟨tm 837 (by decide +kernel) rfl, tm 237 (by decide +kernel) rfl, by decide, by decide, (by rw [if_neg (by decide)]; exact ⟨tm 836 (by decide +kernel) rfl, tm 23 (by decide +kernel) rfl⟩)⟩
theorem fl_RX7_19 : FL RX7 19 6 3 := ⟨_, _, _, _, cw_6, by decide, Or.inr (Or.inr (Or.inr (by decide))), Or.inl (by decide), Or.inl (tm 346 (by decide +kernel) rfl)⟩
theorem fl_RX7_57 : FL RX7 57 6 4 := ⟨_, _, _, _, cw_6, by decide, Or.inl (by decide), Or.inr (by decide), Or.inl (tm 347 (by decide +kernel) rfl)⟩
theorem fl_RX7_60 : FL RX7 60 6 5 := ⟨_, _, _, _, cw_6, by decide, Or.inl (by decide), Or.inr (by decide), Or.inl (tm 348 (by decide +kernel) rfl)⟩
theorem fl_RX7_108 : FL RX7 108 6 8 := ⟨_, _, _, _, cw_6, by decide, Or.inr (Or.inl (by decide)), Or.inr (by decide), Or.inl (tm 352 (by decide +kernel) rfl)⟩
theorem fl_RX7_112 : FL RX7 112 6 10 := ⟨_, _, _, _, cw_6, by decide, Or.inr (Or.inl (by decide)), Or.inr (by decide), Or.inl (tm 355 (by decide +kernel) rfl)⟩
def To_take_J71  (t0 : Int) (σ : Sg) : Rs := (nm (up_s σ 5 6 (an32 (w32 t0) 15)) (fun s4 => (nm (up_s s4 5 7 (an32 (w32 (sr64 t0 4)) 4095)) (fun s5 => (nm (up_s s5 5 8 (sr64 t0 16)) (fun s6 => (some (0, s6))))))))
theorem ok_To_take_J71 : ∀ (t0 : Int) (σ : Sg), G l Kh Ph RX7 cX7_take 3 2 1 71 [some (.inr (.inr 5)), none, none] [.inr (.inl t0)] σ (To_take_J71  t0 σ) := by
  intro t0 σ
  unfold To_take_J71
  refine g_lstore_n (lv' := [some (.inr (.inr 5)), some (.inr (.inl t0)), none]) dX7_take_71 rfl (Nat.le_of_ble_eq_true rfl) rfl ?_
  refine g_aload_n dX7_take_72 rfl rfl ?_
  refine g_lload_n dX7_take_73 rfl rfl ?_
  refine g_l2i dX7_take_74 ?_
  refine g_bipush dX7_take_75 (by decide) ?_
  refine g_iand dX7_take_77 ?_
  refine g_puti fl_RX7_115 kh_5 (by decide) dX7_take_78 ?_
  intro s4
  refine g_aload_n dX7_take_81 rfl rfl ?_
  refine g_lload_n dX7_take_82 rfl rfl ?_
  refine g_iconst dX7_take_83 (by decide) ?_
  refine g_lshr dX7_take_84 ?_
  refine g_l2i dX7_take_85 ?_
  refine g_sipush dX7_take_86 (by decide) ?_
  refine g_iand dX7_take_89 ?_
  refine g_puti fl_RX7_102 kh_5 (by decide) dX7_take_90 ?_
  intro s5
  refine g_aload_n dX7_take_93 rfl rfl ?_
  refine g_lload_n dX7_take_94 rfl rfl ?_
  refine g_bipush dX7_take_95 (by decide) ?_
  refine g_lshr dX7_take_97 ?_
  refine g_putl fl_RX7_108 kh_5 (by decide) dX7_take_98 ?_
  intro s6
  exact g_vret dX7_take_101
def To_take_J70  (σ : Sg) : Rs := (To_take_J71 0 σ)
theorem ok_To_take_J70 : ∀ (σ : Sg), G l Kh Ph RX7 cX7_take 3 2 1 70 [some (.inr (.inr 5)), none, none] [] σ (To_take_J70   σ) := by
  intro σ
  unfold To_take_J70
  refine g_lconst (v := 0) dX7_take_70 (by decide) ?_
  refine (ok_To_take_J71 0 σ)
def To_take_J39  (σ : Sg) : Rs := (if (σ 5 5) < 0 then (To_take_J70 σ) else (if (σ 5 5) < ((901 : Nat) : Int) then (rd 901 (σ 5 5) (σ 7 (Int.toNat (σ 5 5))) (fun x7 => (To_take_J71 x7 σ))) else (To_take_J70 σ)))
theorem ok_To_take_J39 : ∀ (σ : Sg), G l Kh Ph RX7 cX7_take 3 2 1 39 [some (.inr (.inr 5)), none, none] [] σ (To_take_J39   σ) := by
  intro σ
  unfold To_take_J39
  refine g_aload_n dX7_take_39 rfl rfl ?_
  refine g_geti fl_RX7_60 kh_5 (by decide) dX7_take_40 ?_
  refine g_iflt (tgt := 70) dX7_take_43 (by decide) ?_ ?_
  · refine (ok_To_take_J70 σ)
  · refine g_aload_n dX7_take_46 rfl rfl ?_
    refine g_geti fl_RX7_60 kh_5 (by decide) dX7_take_47 ?_
    refine g_aload_n dX7_take_50 rfl rfl ?_
    refine g_getr' (q := 7) fl_RX7_19 kh_5 (by decide) rfl dX7_take_51 ?_
    refine g_alen kh_7 (by decide) (Nat.le_of_ble_eq_true rfl) dX7_take_54 ?_
    refine g_icmpge (tgt := 70) dX7_take_55 (by decide) ?_ ?_
    · refine g_aload_n dX7_take_58 rfl rfl ?_
      refine g_getr' (q := 7) fl_RX7_19 kh_5 (by decide) rfl dX7_take_59 ?_
      refine g_aload_n dX7_take_62 rfl rfl ?_
      refine g_geti fl_RX7_60 kh_5 (by decide) dX7_take_63 ?_
      refine g_lald kh_7 dX7_take_66 ?_
      intro x7
      refine g_goto (tgt := 71) dX7_take_67 (by decide) ?_
      refine (ok_To_take_J71 x7 σ)
    · refine (ok_To_take_J70 σ)
def To_take  (σ : Sg) : Rs := (nm (up_s σ 5 9 (σ 5 7)) (fun s1 => (nm (up_s s1 5 10 (s1 5 8)) (fun s2 => (if (s2 5 5) < (w32 ((s2 5 4) - 1)) then (nm (up_s s2 5 5 (w32 ((s2 5 5) + 1))) (fun s3 => (To_take_J39 s3))) else (To_take_J39 s2))))))
theorem ok_To_take (σ : Sg) : MC l Kh Ph yX7_take cX7_take 3 2 1 [.inr (.inr 5)] σ (To_take σ) := by
  refine mc_of (by decide) (Nat.le_of_ble_eq_true rfl) ?_
  change G l Kh Ph RX7 cX7_take 3 2 1 0 [some (.inr (.inr 5)), none, none] [] σ (To_take  σ)
  unfold To_take
  refine g_aload_n dX7_take_0 rfl rfl ?_
  refine g_aload_n dX7_take_1 rfl rfl ?_
  refine g_geti fl_RX7_102 kh_5 (by decide) dX7_take_2 ?_
  refine g_puti fl_RX7_105 kh_5 (by decide) dX7_take_5 ?_
  intro s1
  refine g_aload_n dX7_take_8 rfl rfl ?_
  refine g_aload_n dX7_take_9 rfl rfl ?_
  refine g_getl fl_RX7_108 kh_5 (by decide) dX7_take_10 ?_
  refine g_putl fl_RX7_112 kh_5 (by decide) dX7_take_13 ?_
  intro s2
  refine g_aload_n dX7_take_16 rfl rfl ?_
  refine g_geti fl_RX7_60 kh_5 (by decide) dX7_take_17 ?_
  refine g_aload_n dX7_take_20 rfl rfl ?_
  refine g_geti fl_RX7_57 kh_5 (by decide) dX7_take_21 ?_
  refine g_iconst dX7_take_24 (by decide) ?_
  refine g_isub dX7_take_25 ?_
  refine g_icmpge (tgt := 39) dX7_take_26 (by decide) ?_ ?_
  · refine g_aload_n dX7_take_29 rfl rfl ?_
    refine g_dup dX7_take_30 rfl ?_
    refine g_geti fl_RX7_60 kh_5 (by decide) dX7_take_31 ?_
    refine g_iconst dX7_take_34 (by decide) ?_
    refine g_iadd dX7_take_35 ?_
    refine g_puti fl_RX7_60 kh_5 (by decide) dX7_take_36 ?_
    intro s3
    refine (ok_To_take_J39 s3)
  · refine (ok_To_take_J39 s2)
theorem dX7_takeClosing_0 : decode cX7_takeClosing 0 = .ok (.aload_n 0, 1) := by decide +kernel
theorem dX7_takeClosing_1 : decode cX7_takeClosing 1 = .ok (.getfield 115, 3) := by decide +kernel
theorem dX7_takeClosing_4 : decode cX7_takeClosing 4 = .ok (.bipush 6, 2) := by decide +kernel
theorem dX7_takeClosing_6 : decode cX7_takeClosing 6 = .ok (.if_icmp .ne 14, 3) := by decide +kernel
theorem dX7_takeClosing_9 : decode cX7_takeClosing 9 = .ok (.aload_n 0, 1) := by decide +kernel
theorem dX7_takeClosing_10 : decode cX7_takeClosing 10 = .ok (.getfield 108, 3) := by decide +kernel
theorem dX7_takeClosing_13 : decode cX7_takeClosing 13 = .ok (.ldc2_w 122, 3) := by decide +kernel
theorem dX7_takeClosing_16 : decode cX7_takeClosing 16 = .ok (.lcmp, 1) := by decide +kernel
theorem dX7_takeClosing_17 : decode cX7_takeClosing 17 = .ok (.ifCond .eq 8, 3) := by decide +kernel
theorem dX7_takeClosing_20 : decode cX7_takeClosing 20 = .ok (.aload_n 0, 1) := by decide +kernel
theorem dX7_takeClosing_21 : decode cX7_takeClosing 21 = .ok (.invokevirtual 118, 3) := by decide +kernel
theorem dX7_takeClosing_24 : decode cX7_takeClosing 24 = .ok (.ireturn, 1) := by decide +kernel
theorem dX7_takeClosing_25 : decode cX7_takeClosing 25 = .ok (.aload_n 0, 1) := by decide +kernel
theorem dX7_takeClosing_26 : decode cX7_takeClosing 26 = .ok (.invokevirtual 91, 3) := by decide +kernel
theorem dX7_takeClosing_29 : decode cX7_takeClosing 29 = .ok (.iconst 1, 1) := by decide +kernel
theorem dX7_takeClosing_30 : decode cX7_takeClosing 30 = .ok (.ireturn, 1) := by decide +kernel
theorem mw_X7_takeClosing : MW yX7_takeClosing cX7_takeClosing 1 3 0 false := ⟨tm 876 (by decide +kernel) rfl, tm 237 (by decide +kernel) rfl, by decide, by decide, (by rw [if_neg (by decide)]; exact ⟨tm 875 (by decide +kernel) rfl, tm 30 (by decide +kernel) rfl⟩)⟩
theorem lk_RX7_91 : LK RX7 91 yX7_take := Or.inl (tm 834 (by decide +kernel) rfl)
theorem lk_RX7_118 : LK RX7 118 yX7_misfit := Or.inl (tm 868 (by decide +kernel) rfl)
def To_takeClosing  (σ : Sg) : Rs := (if (σ 5 6) = 6 then (if (σ 5 8) = 59 then (bd (To_take σ) (fun r1 s2 => (some (1, s2)))) else (bd (To_misfit σ) (fun r3 s4 => (zb r3 (some (r3, s4)))))) else (bd (To_misfit σ) (fun r5 s6 => (zb r5 (some (r5, s6))))))
theorem ok_To_takeClosing (σ : Sg) : MC l Kh Ph yX7_takeClosing cX7_takeClosing 1 3 2 [.inr (.inr 5)] σ (To_takeClosing σ) := by
  refine mc_of (by decide) (Nat.le_of_ble_eq_true rfl) ?_
  change G l Kh Ph RX7 cX7_takeClosing 1 3 2 0 [some (.inr (.inr 5))] [] σ (To_takeClosing  σ)
  unfold To_takeClosing
  refine g_aload_n dX7_takeClosing_0 rfl rfl ?_
  refine g_geti fl_RX7_115 kh_5 (by decide) dX7_takeClosing_1 ?_
  refine g_bipush dX7_takeClosing_4 (by decide) ?_
  refine g_icmpne (tgt := 20) dX7_takeClosing_6 (by decide) ?_ ?_
  · refine g_aload_n dX7_takeClosing_9 rfl rfl ?_
    refine g_getl fl_RX7_108 kh_5 (by decide) dX7_takeClosing_10 ?_
    refine g_ldc2 (n := 59) (tm 877 (by decide +kernel) rfl) (by decide) dX7_takeClosing_13 ?_
    refine g_lcmpeq (tgt := 25) dX7_takeClosing_16 dX7_takeClosing_17 (by decide) ?_ ?_
    · refine g_aload_n dX7_takeClosing_25 rfl rfl ?_
      refine g_callv2 (st := []) 6 mw_X7_take lk_RX7_91 rfl kh_5 (ok_To_take σ) (Nat.le_of_ble_eq_true rfl) rfl rfl (Nat.le_of_ble_eq_true rfl) dX7_takeClosing_26 ?_
      intro r1 s2
      refine g_iconst dX7_takeClosing_29 (by decide) ?_
      exact g_zret1 dX7_takeClosing_30
    · refine g_aload_n dX7_takeClosing_20 rfl rfl ?_
      refine g_callv3 (st := []) 6 mw_X7_misfit lk_RX7_118 rfl kh_5 (ok_To_misfit σ) (Nat.le_of_ble_eq_true rfl) rfl rfl (Nat.le_of_ble_eq_true rfl) dX7_takeClosing_21 ?_
      intro r3 s4
      exact g_zret dX7_takeClosing_24
  · refine g_aload_n dX7_takeClosing_20 rfl rfl ?_
    refine g_callv3 (st := []) 6 mw_X7_misfit lk_RX7_118 rfl kh_5 (ok_To_misfit σ) (Nat.le_of_ble_eq_true rfl) rfl rfl (Nat.le_of_ble_eq_true rfl) dX7_takeClosing_21 ?_
    intro r5 s6
    exact g_zret dX7_takeClosing_24
theorem dX7_takeKey_0 : decode cX7_takeKey 0 = .ok (.aload_n 0, 1) := by decide +kernel
theorem dX7_takeKey_1 : decode cX7_takeKey 1 = .ok (.getfield 115, 3) := by decide +kernel
theorem dX7_takeKey_4 : decode cX7_takeKey 4 = .ok (.iconst 2, 1) := by decide +kernel
theorem dX7_takeKey_5 : decode cX7_takeKey 5 = .ok (.if_icmp .ne 13, 3) := by decide +kernel
theorem dX7_takeKey_8 : decode cX7_takeKey 8 = .ok (.aload_n 0, 1) := by decide +kernel
theorem dX7_takeKey_9 : decode cX7_takeKey 9 = .ok (.getfield 108, 3) := by decide +kernel
theorem dX7_takeKey_12 : decode cX7_takeKey 12 = .ok (.iload_n 1, 1) := by decide +kernel
theorem dX7_takeKey_13 : decode cX7_takeKey 13 = .ok (.i2l, 1) := by decide +kernel
theorem dX7_takeKey_14 : decode cX7_takeKey 14 = .ok (.lcmp, 1) := by decide +kernel
theorem dX7_takeKey_15 : decode cX7_takeKey 15 = .ok (.ifCond .eq 8, 3) := by decide +kernel
theorem dX7_takeKey_18 : decode cX7_takeKey 18 = .ok (.aload_n 0, 1) := by decide +kernel
theorem dX7_takeKey_19 : decode cX7_takeKey 19 = .ok (.invokevirtual 118, 3) := by decide +kernel
theorem dX7_takeKey_22 : decode cX7_takeKey 22 = .ok (.ireturn, 1) := by decide +kernel
theorem dX7_takeKey_23 : decode cX7_takeKey 23 = .ok (.aload_n 0, 1) := by decide +kernel
theorem dX7_takeKey_24 : decode cX7_takeKey 24 = .ok (.invokevirtual 91, 3) := by decide +kernel
theorem dX7_takeKey_27 : decode cX7_takeKey 27 = .ok (.iconst 1, 1) := by decide +kernel
theorem dX7_takeKey_28 : decode cX7_takeKey 28 = .ok (.ireturn, 1) := by decide +kernel
theorem mw_X7_takeKey : MW yX7_takeKey cX7_takeKey 2 3 1 false := ⟨tm 934 (by decide +kernel) rfl, tm 237 (by decide +kernel) rfl, by decide, by decide, (by rw [if_neg (by decide)]; exact ⟨tm 933 (by decide +kernel) rfl, tm 39 (by decide +kernel) rfl⟩)⟩
def To_takeKey (a1 : Int) (σ : Sg) : Rs := (if (σ 5 6) = 2 then (if (σ 5 8) = a1 then (bd (To_take σ) (fun r1 s2 => (some (1, s2)))) else (bd (To_misfit σ) (fun r3 s4 => (zb r3 (some (r3, s4)))))) else (bd (To_misfit σ) (fun r5 s6 => (zb r5 (some (r5, s6))))))
theorem ok_To_takeKey (a1 : Int) (σ : Sg) : MC l Kh Ph yX7_takeKey cX7_takeKey 2 3 2 [.inr (.inr 5), .inl a1] σ (To_takeKey a1 σ) := by
  refine mc_of (by decide) (Nat.le_of_ble_eq_true rfl) ?_
  change G l Kh Ph RX7 cX7_takeKey 2 3 2 0 [some (.inr (.inr 5)), some (.inl a1)] [] σ (To_takeKey a1 σ)
  unfold To_takeKey
  refine g_aload_n dX7_takeKey_0 rfl rfl ?_
  refine g_geti fl_RX7_115 kh_5 (by decide) dX7_takeKey_1 ?_
  refine g_iconst dX7_takeKey_4 (by decide) ?_
  refine g_icmpne (tgt := 18) dX7_takeKey_5 (by decide) ?_ ?_
  · refine g_aload_n dX7_takeKey_8 rfl rfl ?_
    refine g_getl fl_RX7_108 kh_5 (by decide) dX7_takeKey_9 ?_
    refine g_iload_n dX7_takeKey_12 rfl rfl ?_
    refine g_i2l dX7_takeKey_13 ?_
    refine g_lcmpeq (tgt := 23) dX7_takeKey_14 dX7_takeKey_15 (by decide) ?_ ?_
    · refine g_aload_n dX7_takeKey_23 rfl rfl ?_
      refine g_callv2 (st := []) 6 mw_X7_take lk_RX7_91 rfl kh_5 (ok_To_take σ) (Nat.le_of_ble_eq_true rfl) rfl rfl (Nat.le_of_ble_eq_true rfl) dX7_takeKey_24 ?_
      intro r1 s2
      refine g_iconst dX7_takeKey_27 (by decide) ?_
      exact g_zret1 dX7_takeKey_28
    · refine g_aload_n dX7_takeKey_18 rfl rfl ?_
      refine g_callv3 (st := []) 6 mw_X7_misfit lk_RX7_118 rfl kh_5 (ok_To_misfit σ) (Nat.le_of_ble_eq_true rfl) rfl rfl (Nat.le_of_ble_eq_true rfl) dX7_takeKey_19 ?_
      intro r3 s4
      exact g_zret dX7_takeKey_22
  · refine g_aload_n dX7_takeKey_18 rfl rfl ?_
    refine g_callv3 (st := []) 6 mw_X7_misfit lk_RX7_118 rfl kh_5 (ok_To_misfit σ) (Nat.le_of_ble_eq_true rfl) rfl rfl (Nat.le_of_ble_eq_true rfl) dX7_takeKey_19 ?_
    intro r5 s6
    exact g_zret dX7_takeKey_22
theorem dX7_takeNumber_0 : decode cX7_takeNumber 0 = .ok (.aload_n 0, 1) := by decide +kernel
theorem dX7_takeNumber_1 : decode cX7_takeNumber 1 = .ok (.getfield 115, 3) := by decide +kernel
theorem dX7_takeNumber_4 : decode cX7_takeNumber 4 = .ok (.iconst 5, 1) := by decide +kernel
theorem dX7_takeNumber_5 : decode cX7_takeNumber 5 = .ok (.if_icmp .eq 10, 3) := by decide +kernel
theorem dX7_takeNumber_8 : decode cX7_takeNumber 8 = .ok (.aload_n 0, 1) := by decide +kernel
theorem dX7_takeNumber_9 : decode cX7_takeNumber 9 = .ok (.invokevirtual 118, 3) := by decide +kernel
theorem dX7_takeNumber_12 : decode cX7_takeNumber 12 = .ok (.pop, 1) := by decide +kernel
theorem dX7_takeNumber_13 : decode cX7_takeNumber 13 = .ok (.iconst (-1), 1) := by decide +kernel
theorem dX7_takeNumber_14 : decode cX7_takeNumber 14 = .ok (.ireturn, 1) := by decide +kernel
theorem dX7_takeNumber_15 : decode cX7_takeNumber 15 = .ok (.aload_n 0, 1) := by decide +kernel
theorem dX7_takeNumber_16 : decode cX7_takeNumber 16 = .ok (.invokevirtual 91, 3) := by decide +kernel
theorem dX7_takeNumber_19 : decode cX7_takeNumber 19 = .ok (.aload_n 0, 1) := by decide +kernel
theorem dX7_takeNumber_20 : decode cX7_takeNumber 20 = .ok (.getfield 112, 3) := by decide +kernel
theorem dX7_takeNumber_23 : decode cX7_takeNumber 23 = .ok (.iload_n 1, 1) := by decide +kernel
theorem dX7_takeNumber_24 : decode cX7_takeNumber 24 = .ok (.i2l, 1) := by decide +kernel
theorem dX7_takeNumber_25 : decode cX7_takeNumber 25 = .ok (.lcmp, 1) := by decide +kernel
theorem dX7_takeNumber_26 : decode cX7_takeNumber 26 = .ok (.ifCond .lt 13, 3) := by decide +kernel
theorem dX7_takeNumber_29 : decode cX7_takeNumber 29 = .ok (.aload_n 0, 1) := by decide +kernel
theorem dX7_takeNumber_30 : decode cX7_takeNumber 30 = .ok (.getfield 112, 3) := by decide +kernel
theorem dX7_takeNumber_33 : decode cX7_takeNumber 33 = .ok (.iload_n 2, 1) := by decide +kernel
theorem dX7_takeNumber_34 : decode cX7_takeNumber 34 = .ok (.i2l, 1) := by decide +kernel
theorem dX7_takeNumber_35 : decode cX7_takeNumber 35 = .ok (.lcmp, 1) := by decide +kernel
theorem dX7_takeNumber_36 : decode cX7_takeNumber 36 = .ok (.ifCond .le 11, 3) := by decide +kernel
theorem dX7_takeNumber_39 : decode cX7_takeNumber 39 = .ok (.aload_n 0, 1) := by decide +kernel
theorem dX7_takeNumber_40 : decode cX7_takeNumber 40 = .ok (.iconst 4, 1) := by decide +kernel
theorem dX7_takeNumber_41 : decode cX7_takeNumber 41 = .ok (.invokevirtual 124, 3) := by decide +kernel
theorem dX7_takeNumber_44 : decode cX7_takeNumber 44 = .ok (.pop, 1) := by decide +kernel
theorem dX7_takeNumber_45 : decode cX7_takeNumber 45 = .ok (.iconst (-1), 1) := by decide +kernel
theorem dX7_takeNumber_46 : decode cX7_takeNumber 46 = .ok (.ireturn, 1) := by decide +kernel
theorem dX7_takeNumber_47 : decode cX7_takeNumber 47 = .ok (.aload_n 0, 1) := by decide +kernel
theorem dX7_takeNumber_48 : decode cX7_takeNumber 48 = .ok (.getfield 112, 3) := by decide +kernel
theorem dX7_takeNumber_51 : decode cX7_takeNumber 51 = .ok (.l2i, 1) := by decide +kernel
theorem dX7_takeNumber_52 : decode cX7_takeNumber 52 = .ok (.ireturn, 1) := by decide +kernel
theorem mw_X7_takeNumber : MW yX7_takeNumber cX7_takeNumber 3 0 2 false := ⟨tm 867 (by decide +kernel) rfl, tm 237 (by decide +kernel) rfl, by decide, by decide, (by rw [if_neg (by decide)]; exact ⟨tm 866 (by decide +kernel) rfl, tm 28 (by decide +kernel) rfl⟩)⟩
theorem lk_RX7_124 : LK RX7 124 yX7_reject := Or.inl (tm 872 (by decide +kernel) rfl)
def To_takeNumber (a1 : Int) (a2 : Int) (σ : Sg) : Rs := (if (σ 5 6) = 5 then (bd (To_take σ) (fun r1 s2 => (if (s2 5 10) < a1 then (bd (To_reject 4 s2) (fun r3 s4 => (some ((-1), s4)))) else (if a2 < (s2 5 10) then (bd (To_reject 4 s2) (fun r5 s6 => (some ((-1), s6)))) else (some ((w32 (s2 5 10)), s2)))))) else (bd (To_misfit σ) (fun r7 s8 => (some ((-1), s8)))))
theorem ok_To_takeNumber (a1 : Int) (a2 : Int) (σ : Sg) : MC l Kh Ph yX7_takeNumber cX7_takeNumber 3 0 2 [.inr (.inr 5), .inl a1, .inl a2] σ (To_takeNumber a1 a2 σ) := by
  refine mc_of (by decide) (Nat.le_of_ble_eq_true rfl) ?_
  change G l Kh Ph RX7 cX7_takeNumber 3 0 2 0 [some (.inr (.inr 5)), some (.inl a1), some (.inl a2)] [] σ (To_takeNumber a1 a2 σ)
  unfold To_takeNumber
  refine g_aload_n dX7_takeNumber_0 rfl rfl ?_
  refine g_geti fl_RX7_115 kh_5 (by decide) dX7_takeNumber_1 ?_
  refine g_iconst dX7_takeNumber_4 (by decide) ?_
  refine g_icmpeq (tgt := 15) dX7_takeNumber_5 (by decide) ?_ ?_
  · refine g_aload_n dX7_takeNumber_15 rfl rfl ?_
    refine g_callv2 (st := []) 6 mw_X7_take lk_RX7_91 rfl kh_5 (ok_To_take σ) (Nat.le_of_ble_eq_true rfl) rfl rfl (Nat.le_of_ble_eq_true rfl) dX7_takeNumber_16 ?_
    intro r1 s2
    refine g_aload_n dX7_takeNumber_19 rfl rfl ?_
    refine g_getl fl_RX7_112 kh_5 (by decide) dX7_takeNumber_20 ?_
    refine g_iload_n dX7_takeNumber_23 rfl rfl ?_
    refine g_i2l dX7_takeNumber_24 ?_
    refine g_lcmplt (tgt := 39) dX7_takeNumber_25 dX7_takeNumber_26 (by decide) ?_ ?_
    · refine g_aload_n dX7_takeNumber_39 rfl rfl ?_
      refine g_iconst dX7_takeNumber_40 (by decide) ?_
      refine g_callv3 (st := []) 6 mw_X7_reject lk_RX7_124 rfl kh_5 (ok_To_reject 4 s2) (Nat.le_of_ble_eq_true rfl) rfl rfl (Nat.le_of_ble_eq_true rfl) dX7_takeNumber_41 ?_
      intro r3 s4
      refine g_pop dX7_takeNumber_44 rfl ?_
      refine g_iconst dX7_takeNumber_45 (by decide) ?_
      exact g_iret dX7_takeNumber_46
    · refine g_aload_n dX7_takeNumber_29 rfl rfl ?_
      refine g_getl fl_RX7_112 kh_5 (by decide) dX7_takeNumber_30 ?_
      refine g_iload_n dX7_takeNumber_33 rfl rfl ?_
      refine g_i2l dX7_takeNumber_34 ?_
      refine g_lcmple (tgt := 47) dX7_takeNumber_35 dX7_takeNumber_36 (by decide) ?_ ?_
      · refine g_aload_n dX7_takeNumber_39 rfl rfl ?_
        refine g_iconst dX7_takeNumber_40 (by decide) ?_
        refine g_callv3 (st := []) 6 mw_X7_reject lk_RX7_124 rfl kh_5 (ok_To_reject 4 s2) (Nat.le_of_ble_eq_true rfl) rfl rfl (Nat.le_of_ble_eq_true rfl) dX7_takeNumber_41 ?_
        intro r5 s6
        refine g_pop dX7_takeNumber_44 rfl ?_
        refine g_iconst dX7_takeNumber_45 (by decide) ?_
        exact g_iret dX7_takeNumber_46
      · refine g_aload_n dX7_takeNumber_47 rfl rfl ?_
        refine g_getl fl_RX7_112 kh_5 (by decide) dX7_takeNumber_48 ?_
        refine g_l2i dX7_takeNumber_51 ?_
        exact g_iret dX7_takeNumber_52
  · refine g_aload_n dX7_takeNumber_8 rfl rfl ?_
    refine g_callv3 (st := []) 6 mw_X7_misfit lk_RX7_118 rfl kh_5 (ok_To_misfit σ) (Nat.le_of_ble_eq_true rfl) rfl rfl (Nat.le_of_ble_eq_true rfl) dX7_takeNumber_9 ?_
    intro r7 s8
    refine g_pop dX7_takeNumber_12 rfl ?_
    refine g_iconst dX7_takeNumber_13 (by decide) ?_
    exact g_iret dX7_takeNumber_14
theorem dX4_findPerson_0 : decode cX4_findPerson 0 = .ok (.iconst 0, 1) := by decide +kernel
theorem dX4_findPerson_1 : decode cX4_findPerson 1 = .ok (.istore_n 3, 1) := by decide +kernel
theorem dX4_findPerson_2 : decode cX4_findPerson 2 = .ok (.iload_n 3, 1) := by decide +kernel
theorem dX4_findPerson_3 : decode cX4_findPerson 3 = .ok (.aload_n 0, 1) := by decide +kernel
theorem dX4_findPerson_4 : decode cX4_findPerson 4 = .ok (.getfield 53, 3) := by decide +kernel
theorem dX4_findPerson_7 : decode cX4_findPerson 7 = .ok (.if_icmp .ge 31, 3) := by decide +kernel
theorem dX4_findPerson_10 : decode cX4_findPerson 10 = .ok (.iload_n 3, 1) := by decide +kernel
theorem dX4_findPerson_11 : decode cX4_findPerson 11 = .ok (.bipush 6, 2) := by decide +kernel
theorem dX4_findPerson_13 : decode cX4_findPerson 13 = .ok (.if_icmp .ge 25, 3) := by decide +kernel
theorem dX4_findPerson_16 : decode cX4_findPerson 16 = .ok (.aload_n 0, 1) := by decide +kernel
theorem dX4_findPerson_17 : decode cX4_findPerson 17 = .ok (.getfield 9, 3) := by decide +kernel
theorem dX4_findPerson_20 : decode cX4_findPerson 20 = .ok (.bipush 8, 2) := by decide +kernel
theorem dX4_findPerson_22 : decode cX4_findPerson 22 = .ok (.iload_n 3, 1) := by decide +kernel
theorem dX4_findPerson_23 : decode cX4_findPerson 23 = .ok (.iadd, 1) := by decide +kernel
theorem dX4_findPerson_24 : decode cX4_findPerson 24 = .ok (.laload, 1) := by decide +kernel
theorem dX4_findPerson_25 : decode cX4_findPerson 25 = .ok (.lload_n 1, 1) := by decide +kernel
theorem dX4_findPerson_26 : decode cX4_findPerson 26 = .ok (.lcmp, 1) := by decide +kernel
theorem dX4_findPerson_27 : decode cX4_findPerson 27 = .ok (.ifCond .ne 5, 3) := by decide +kernel
theorem dX4_findPerson_30 : decode cX4_findPerson 30 = .ok (.iload_n 3, 1) := by decide +kernel
theorem dX4_findPerson_31 : decode cX4_findPerson 31 = .ok (.ireturn, 1) := by decide +kernel
theorem dX4_findPerson_32 : decode cX4_findPerson 32 = .ok (.iinc 3 1, 3) := by decide +kernel
theorem dX4_findPerson_35 : decode cX4_findPerson 35 = .ok (.goto (-33), 3) := by decide +kernel
theorem dX4_findPerson_38 : decode cX4_findPerson 38 = .ok (.iconst (-1), 1) := by decide +kernel
theorem dX4_findPerson_39 : decode cX4_findPerson 39 = .ok (.ireturn, 1) := by decide +kernel
theorem mw_X4_findPerson : MW yX4_findPerson cX4_findPerson 4 0 1 false := ⟨tm 896 (by decide +kernel) rfl, tm 242 (by decide +kernel) rfl, by decide, by decide, (by rw [if_neg (by decide)]; exact ⟨tm 895 (by decide +kernel) rfl, tm 33 (by decide +kernel) rfl⟩)⟩
def Pr_findPerson_L2 (pr0 : Nat) (a1 : Int) : Nat → Int → Sg → Rs
  | 0, _, _ => none
  | n + 1, v3, σ => (if v3 < (σ pr0 11) then (if v3 < 6 then (rd 14 (w32 (8 + v3)) (σ (pr0 + 1) (Int.toNat (w32 (8 + v3)))) (fun x1 => (if x1 = a1 then (some (v3, σ)) else (nm (w32 (v3 + 1)) (fun x2 => (Pr_findPerson_L2 pr0 a1 n x2 σ)))))) else (some ((-1), σ))) else (some ((-1), σ)))
theorem ok_Pr_findPerson_L2 (pr0 : Nat) (a1 : Int) (hpr0 : Kh[pr0]? = some (.inl 4)) : ∀ (n : Nat) (v3 : Int) (σ : Sg), G l Kh Ph RX4 cX4_findPerson 4 0 1 2 [some (.inr (.inr pr0)), some (.inr (.inl a1)), none, some (.inl v3)] [] σ (Pr_findPerson_L2 pr0 a1 n v3 σ) := by
  intro n
  induction n with
  | zero => intros; exact G.none_
  | succ n ih =>
    intro v3 σ
    rw [Pr_findPerson_L2]
    refine g_iload_n dX4_findPerson_2 rfl rfl ?_
    refine g_aload_n dX4_findPerson_3 rfl rfl ?_
    refine g_geti fl_RX4_53 hpr0 (by decide) dX4_findPerson_4 ?_
    refine g_icmpge (tgt := 38) dX4_findPerson_7 (by decide) ?_ ?_
    · refine g_iload_n dX4_findPerson_10 rfl rfl ?_
      refine g_bipush dX4_findPerson_11 (by decide) ?_
      refine g_icmpge (tgt := 38) dX4_findPerson_13 (by decide) ?_ ?_
      · refine g_aload_n dX4_findPerson_16 rfl rfl ?_
        refine g_getr' (q := (pr0 + 1)) fl_RX4_9 hpr0 (by decide) (qp0 hpr0) dX4_findPerson_17 ?_
        refine g_bipush dX4_findPerson_20 (by decide) ?_
        refine g_iload_n dX4_findPerson_22 rfl rfl ?_
        refine g_iadd dX4_findPerson_23 ?_
        refine g_lald (kp0 hpr0) dX4_findPerson_24 ?_
        intro x1
        refine g_lload_n dX4_findPerson_25 rfl rfl ?_
        refine g_lcmpne (tgt := 32) dX4_findPerson_26 dX4_findPerson_27 (by decide) ?_ ?_
        · refine g_iload_n dX4_findPerson_30 rfl rfl ?_
          exact g_iret dX4_findPerson_31
        · refine n_iinc (fun x2 => [some (.inr (.inr pr0)), some (.inr (.inl a1)), none, some (.inl x2)]) dX4_findPerson_32 rfl (Nat.le_of_ble_eq_true rfl) (fun _ => rfl) ?_
          intro x2
          refine g_goto (tgt := 2) dX4_findPerson_35 (by decide) ?_
          exact (ih x2 σ)
      · refine g_iconst dX4_findPerson_38 (by decide) ?_
        exact g_iret dX4_findPerson_39
    · refine g_iconst dX4_findPerson_38 (by decide) ?_
      exact g_iret dX4_findPerson_39
def Pr_findPerson (pr0 : Nat) (a1 : Int) (σ : Sg) : Rs := (Pr_findPerson_L2 pr0 a1 fu 0 σ)
theorem ok_Pr_findPerson (pr0 : Nat) (a1 : Int) (hpr0 : Kh[pr0]? = some (.inl 4)) (σ : Sg) : MC l Kh Ph yX4_findPerson cX4_findPerson 4 0 1 [.inr (.inr pr0), .inr (.inl a1)] σ (Pr_findPerson pr0 a1 σ) := by
  refine mc_of (by decide) (Nat.le_of_ble_eq_true rfl) ?_
  change G l Kh Ph RX4 cX4_findPerson 4 0 1 0 [some (.inr (.inr pr0)), some (.inr (.inl a1)), none, none] [] σ (Pr_findPerson pr0 a1 σ)
  unfold Pr_findPerson
  refine g_iconst dX4_findPerson_0 (by decide) ?_
  refine g_istore_n (lv' := [some (.inr (.inr pr0)), some (.inr (.inl a1)), none, some (.inl 0)]) dX4_findPerson_1 rfl (Nat.le_of_ble_eq_true rfl) rfl ?_
  refine (ok_Pr_findPerson_L2 pr0 a1 hpr0 fu 0 σ)
theorem dX7_takePerson_0 : decode cX7_takePerson 0 = .ok (.aload_n 0, 1) := by decide +kernel
theorem dX7_takePerson_1 : decode cX7_takePerson 1 = .ok (.getfield 115, 3) := by decide +kernel
theorem dX7_takePerson_4 : decode cX7_takePerson 4 = .ok (.iconst 3, 1) := by decide +kernel
theorem dX7_takePerson_5 : decode cX7_takePerson 5 = .ok (.if_icmp .eq 10, 3) := by decide +kernel
theorem dX7_takePerson_8 : decode cX7_takePerson 8 = .ok (.aload_n 0, 1) := by decide +kernel
theorem dX7_takePerson_9 : decode cX7_takePerson 9 = .ok (.invokevirtual 118, 3) := by decide +kernel
theorem dX7_takePerson_12 : decode cX7_takePerson 12 = .ok (.pop, 1) := by decide +kernel
theorem dX7_takePerson_13 : decode cX7_takePerson 13 = .ok (.iconst (-1), 1) := by decide +kernel
theorem dX7_takePerson_14 : decode cX7_takePerson 14 = .ok (.ireturn, 1) := by decide +kernel
theorem dX7_takePerson_15 : decode cX7_takePerson 15 = .ok (.aload_n 0, 1) := by decide +kernel
theorem dX7_takePerson_16 : decode cX7_takePerson 16 = .ok (.invokevirtual 91, 3) := by decide +kernel
theorem dX7_takePerson_19 : decode cX7_takePerson 19 = .ok (.aload_n 1, 1) := by decide +kernel
theorem dX7_takePerson_20 : decode cX7_takePerson 20 = .ok (.aload_n 0, 1) := by decide +kernel
theorem dX7_takePerson_21 : decode cX7_takePerson 21 = .ok (.getfield 112, 3) := by decide +kernel
theorem dX7_takePerson_24 : decode cX7_takePerson 24 = .ok (.invokevirtual 132, 3) := by decide +kernel
theorem dX7_takePerson_27 : decode cX7_takePerson 27 = .ok (.istore_n 2, 1) := by decide +kernel
theorem dX7_takePerson_28 : decode cX7_takePerson 28 = .ok (.iload_n 2, 1) := by decide +kernel
theorem dX7_takePerson_29 : decode cX7_takePerson 29 = .ok (.iconst (-1), 1) := by decide +kernel
theorem dX7_takePerson_30 : decode cX7_takePerson 30 = .ok (.if_icmp .ne 9, 3) := by decide +kernel
theorem dX7_takePerson_33 : decode cX7_takePerson 33 = .ok (.aload_n 0, 1) := by decide +kernel
theorem dX7_takePerson_34 : decode cX7_takePerson 34 = .ok (.iconst 3, 1) := by decide +kernel
theorem dX7_takePerson_35 : decode cX7_takePerson 35 = .ok (.invokevirtual 124, 3) := by decide +kernel
theorem dX7_takePerson_38 : decode cX7_takePerson 38 = .ok (.pop, 1) := by decide +kernel
theorem dX7_takePerson_39 : decode cX7_takePerson 39 = .ok (.iload_n 2, 1) := by decide +kernel
theorem dX7_takePerson_40 : decode cX7_takePerson 40 = .ok (.ireturn, 1) := by decide +kernel
theorem mw_X7_takePerson : MW yX7_takePerson cX7_takePerson 3 0 1 false := ⟨tm 929 (by decide +kernel) rfl, tm 237 (by decide +kernel) rfl, by decide, by decide, (by rw [if_neg (by decide)]; exact ⟨tm 928 (by decide +kernel) rfl, tm 38 (by decide +kernel) rfl⟩)⟩
theorem lk_RX7_132 : LK RX7 132 yX4_findPerson := Or.inr ⟨"HairProvince", tm 930 (by decide +kernel) rfl⟩
def To_takePerson (pr1 : Nat) (σ : Sg) : Rs := (if (σ 5 6) = 3 then (bd (To_take σ) (fun r1 s2 => (bd (Pr_findPerson pr1 (s2 5 10) s2) (fun r3 s4 => (if r3 = (-1) then (bd (To_reject 3 s4) (fun r5 s6 => (some (r3, s6)))) else (some (r3, s4))))))) else (bd (To_misfit σ) (fun r7 s8 => (some ((-1), s8)))))
theorem ok_To_takePerson (pr1 : Nat) (hpr1 : Kh[pr1]? = some (.inl 4)) (σ : Sg) : MC l Kh Ph yX7_takePerson cX7_takePerson 3 0 2 [.inr (.inr 5), .inr (.inr pr1)] σ (To_takePerson pr1 σ) := by
  refine mc_of (by decide) (Nat.le_of_ble_eq_true rfl) ?_
  change G l Kh Ph RX7 cX7_takePerson 3 0 2 0 [some (.inr (.inr 5)), some (.inr (.inr pr1)), none] [] σ (To_takePerson pr1 σ)
  unfold To_takePerson
  refine g_aload_n dX7_takePerson_0 rfl rfl ?_
  refine g_geti fl_RX7_115 kh_5 (by decide) dX7_takePerson_1 ?_
  refine g_iconst dX7_takePerson_4 (by decide) ?_
  refine g_icmpeq (tgt := 15) dX7_takePerson_5 (by decide) ?_ ?_
  · refine g_aload_n dX7_takePerson_15 rfl rfl ?_
    refine g_callv2 (st := []) 6 mw_X7_take lk_RX7_91 rfl kh_5 (ok_To_take σ) (Nat.le_of_ble_eq_true rfl) rfl rfl (Nat.le_of_ble_eq_true rfl) dX7_takePerson_16 ?_
    intro r1 s2
    refine g_aload_n dX7_takePerson_19 rfl rfl ?_
    refine g_aload_n dX7_takePerson_20 rfl rfl ?_
    refine g_getl fl_RX7_112 kh_5 (by decide) dX7_takePerson_21 ?_
    refine g_callv0 (st := []) 4 mw_X4_findPerson lk_RX7_132 rfl hpr1 (ok_Pr_findPerson pr1 (s2 5 10) hpr1 s2) (Nat.le_of_ble_eq_true rfl) rfl rfl (Nat.le_of_ble_eq_true rfl) dX7_takePerson_24 ?_
    intro r3 s4
    refine g_istore_n (lv' := [some (.inr (.inr 5)), some (.inr (.inr pr1)), some (.inl r3)]) dX7_takePerson_27 rfl (Nat.le_of_ble_eq_true rfl) rfl ?_
    refine g_iload_n dX7_takePerson_28 rfl rfl ?_
    refine g_iconst dX7_takePerson_29 (by decide) ?_
    refine g_icmpne (tgt := 39) dX7_takePerson_30 (by decide) ?_ ?_
    · refine g_aload_n dX7_takePerson_33 rfl rfl ?_
      refine g_iconst dX7_takePerson_34 (by decide) ?_
      refine g_callv3 (st := []) 6 mw_X7_reject lk_RX7_124 rfl kh_5 (ok_To_reject 3 s4) (Nat.le_of_ble_eq_true rfl) rfl rfl (Nat.le_of_ble_eq_true rfl) dX7_takePerson_35 ?_
      intro r5 s6
      refine g_pop dX7_takePerson_38 rfl ?_
      refine g_iload_n dX7_takePerson_39 rfl rfl ?_
      exact g_iret dX7_takePerson_40
    · refine g_iload_n dX7_takePerson_39 rfl rfl ?_
      exact g_iret dX7_takePerson_40
  · refine g_aload_n dX7_takePerson_8 rfl rfl ?_
    refine g_callv3 (st := []) 6 mw_X7_misfit lk_RX7_118 rfl kh_5 (ok_To_misfit σ) (Nat.le_of_ble_eq_true rfl) rfl rfl (Nat.le_of_ble_eq_true rfl) dX7_takePerson_9 ?_
    intro r7 s8
    refine g_pop dX7_takePerson_12 rfl ?_
    refine g_iconst dX7_takePerson_13 (by decide) ?_
    exact g_iret dX7_takePerson_14
theorem dX5_readDinner_0 : decode cX5_readDinner 0 = .ok (.aload_n 0, 1) := by decide +kernel
theorem dX5_readDinner_1 : decode cX5_readDinner 1 = .ok (.aload_n 1, 1) := by decide +kernel
theorem dX5_readDinner_2 : decode cX5_readDinner 2 = .ok (.invokevirtual 125, 3) := by decide +kernel
theorem dX5_readDinner_5 : decode cX5_readDinner 5 = .ok (.istore_n 2, 1) := by decide +kernel
theorem dX5_readDinner_6 : decode cX5_readDinner 6 = .ok (.iload_n 2, 1) := by decide +kernel
theorem dX5_readDinner_7 : decode cX5_readDinner 7 = .ok (.iconst (-1), 1) := by decide +kernel
theorem dX5_readDinner_8 : decode cX5_readDinner 8 = .ok (.if_icmp .ne 5, 3) := by decide +kernel
theorem dX5_readDinner_11 : decode cX5_readDinner 11 = .ok (.iconst 0, 1) := by decide +kernel
theorem dX5_readDinner_12 : decode cX5_readDinner 12 = .ok (.ireturn, 1) := by decide +kernel
theorem dX5_readDinner_13 : decode cX5_readDinner 13 = .ok (.aload_n 0, 1) := by decide +kernel
theorem dX5_readDinner_14 : decode cX5_readDinner 14 = .ok (.aload_n 1, 1) := by decide +kernel
theorem dX5_readDinner_15 : decode cX5_readDinner 15 = .ok (.invokevirtual 125, 3) := by decide +kernel
theorem dX5_readDinner_18 : decode cX5_readDinner 18 = .ok (.istore_n 3, 1) := by decide +kernel
theorem dX5_readDinner_19 : decode cX5_readDinner 19 = .ok (.iload_n 3, 1) := by decide +kernel
theorem dX5_readDinner_20 : decode cX5_readDinner 20 = .ok (.iconst (-1), 1) := by decide +kernel
theorem dX5_readDinner_21 : decode cX5_readDinner 21 = .ok (.if_icmp .ne 5, 3) := by decide +kernel
theorem dX5_readDinner_24 : decode cX5_readDinner 24 = .ok (.iconst 0, 1) := by decide +kernel
theorem dX5_readDinner_25 : decode cX5_readDinner 25 = .ok (.ireturn, 1) := by decide +kernel
theorem dX5_readDinner_26 : decode cX5_readDinner 26 = .ok (.iload_n 2, 1) := by decide +kernel
theorem dX5_readDinner_27 : decode cX5_readDinner 27 = .ok (.iload_n 3, 1) := by decide +kernel
theorem dX5_readDinner_28 : decode cX5_readDinner 28 = .ok (.if_icmp .ne 9, 3) := by decide +kernel
theorem dX5_readDinner_31 : decode cX5_readDinner 31 = .ok (.aload_n 0, 1) := by decide +kernel
theorem dX5_readDinner_32 : decode cX5_readDinner 32 = .ok (.iconst 5, 1) := by decide +kernel
theorem dX5_readDinner_33 : decode cX5_readDinner 33 = .ok (.invokevirtual 47, 3) := by decide +kernel
theorem dX5_readDinner_36 : decode cX5_readDinner 36 = .ok (.ireturn, 1) := by decide +kernel
theorem dX5_readDinner_37 : decode cX5_readDinner 37 = .ok (.aload_n 0, 1) := by decide +kernel
theorem dX5_readDinner_38 : decode cX5_readDinner 38 = .ok (.bipush 10, 2) := by decide +kernel
theorem dX5_readDinner_40 : decode cX5_readDinner 40 = .ok (.invokevirtual 128, 3) := by decide +kernel
theorem dX5_readDinner_43 : decode cX5_readDinner 43 = .ok (.ifCond .ne 5, 3) := by decide +kernel
theorem dX5_readDinner_46 : decode cX5_readDinner 46 = .ok (.iconst 0, 1) := by decide +kernel
theorem dX5_readDinner_47 : decode cX5_readDinner 47 = .ok (.ireturn, 1) := by decide +kernel
theorem dX5_readDinner_48 : decode cX5_readDinner 48 = .ok (.aload_n 0, 1) := by decide +kernel
theorem dX5_readDinner_49 : decode cX5_readDinner 49 = .ok (.iconst 1, 1) := by decide +kernel
theorem dX5_readDinner_50 : decode cX5_readDinner 50 = .ok (.bipush 30, 2) := by decide +kernel
theorem dX5_readDinner_52 : decode cX5_readDinner 52 = .ok (.invokevirtual 75, 3) := by decide +kernel
theorem dX5_readDinner_55 : decode cX5_readDinner 55 = .ok (.istore 4, 2) := by decide +kernel
theorem dX5_readDinner_57 : decode cX5_readDinner 57 = .ok (.iload 4, 2) := by decide +kernel
theorem dX5_readDinner_59 : decode cX5_readDinner 59 = .ok (.iconst (-1), 1) := by decide +kernel
theorem dX5_readDinner_60 : decode cX5_readDinner 60 = .ok (.if_icmp .eq 10, 3) := by decide +kernel
theorem dX5_readDinner_63 : decode cX5_readDinner 63 = .ok (.aload_n 0, 1) := by decide +kernel
theorem dX5_readDinner_64 : decode cX5_readDinner 64 = .ok (.invokevirtual 79, 3) := by decide +kernel
theorem dX5_readDinner_67 : decode cX5_readDinner 67 = .ok (.ifCond .ne 5, 3) := by decide +kernel
theorem dX5_readDinner_70 : decode cX5_readDinner 70 = .ok (.iconst 0, 1) := by decide +kernel
theorem dX5_readDinner_71 : decode cX5_readDinner 71 = .ok (.ireturn, 1) := by decide +kernel
theorem dX5_readDinner_72 : decode cX5_readDinner 72 = .ok (.aload_n 1, 1) := by decide +kernel
theorem dX5_readDinner_73 : decode cX5_readDinner 73 = .ok (.iload_n 2, 1) := by decide +kernel
theorem dX5_readDinner_74 : decode cX5_readDinner 74 = .ok (.iload_n 3, 1) := by decide +kernel
theorem dX5_readDinner_75 : decode cX5_readDinner 75 = .ok (.iload 4, 2) := by decide +kernel
theorem dX5_readDinner_77 : decode cX5_readDinner 77 = .ok (.invokevirtual 131, 3) := by decide +kernel
theorem dX5_readDinner_80 : decode cX5_readDinner 80 = .ok (.iconst 1, 1) := by decide +kernel
theorem dX5_readDinner_81 : decode cX5_readDinner 81 = .ok (.ireturn, 1) := by decide +kernel
theorem mw_X5_readDinner : MW yX5_readDinner cX5_readDinner 5 3 2 true := ⟨tm 925 (by decide +kernel) rfl, tm 252 (by decide +kernel) rfl, by decide, by decide, (by rw [if_pos rfl]; exact tm 924 (by decide +kernel) rfl)⟩
theorem lk_RX5_47 : LK RX5 47 yX7_reject := Or.inr ⟨"HairProvince", tm 860 (by decide +kernel) rfl⟩
theorem lk_RX5_75 : LK RX5 75 yX7_takeNumber := Or.inr ⟨"HairProvince", tm 864 (by decide +kernel) rfl⟩
theorem lk_RX5_79 : LK RX5 79 yX7_takeClosing := Or.inr ⟨"HairProvince", tm 873 (by decide +kernel) rfl⟩
theorem lk_RX5_125 : LK RX5 125 yX7_takePerson := Or.inr ⟨"HairProvince", tm 926 (by decide +kernel) rfl⟩
theorem lk_RX5_128 : LK RX5 128 yX7_takeKey := Or.inr ⟨"HairProvince", tm 931 (by decide +kernel) rfl⟩
theorem lk_RX5_131 : LK RX5 131 yX4_addDinner := Or.inr ⟨"HairProvince", tm 935 (by decide +kernel) rfl⟩
def PR_readDinner (pr1 : Nat) (σ : Sg) : Rs := (bd (To_takePerson pr1 σ) (fun r1 s2 => (if r1 = (-1) then (some (0, s2)) else (bd (To_takePerson pr1 s2) (fun r3 s4 => (if r3 = (-1) then (some (0, s4)) else (if r1 = r3 then (bd (To_reject 5 s4) (fun r5 s6 => (zb r5 (some (r5, s6))))) else (bd (To_takeKey 10 s4) (fun r7 s8 => (if r7 = 0 then (some (0, s8)) else (bd (To_takeNumber 1 30 s8) (fun r9 s10 => (if r9 = (-1) then (some (0, s10)) else (bd (To_takeClosing s10) (fun r11 s12 => (if r11 = 0 then (some (0, s12)) else (bd (Pr_addDinner pr1 r1 r3 r9 s12) (fun r13 s14 => (some (1, s14))))))))))))))))))))
theorem ok_PR_readDinner (pr1 : Nat) (hpr1 : Kh[pr1]? = some (.inl 4)) (σ : Sg) : MC l Kh Ph yX5_readDinner cX5_readDinner 5 3 3 [.inr (.inr 5), .inr (.inr pr1)] σ (PR_readDinner pr1 σ) := by
  refine mc_of (by decide) (Nat.le_of_ble_eq_true rfl) ?_
  change G l Kh Ph RX5 cX5_readDinner 5 3 3 0 [some (.inr (.inr 5)), some (.inr (.inr pr1)), none, none, none] [] σ (PR_readDinner pr1 σ)
  unfold PR_readDinner
  refine g_aload_n dX5_readDinner_0 rfl rfl ?_
  refine g_aload_n dX5_readDinner_1 rfl rfl ?_
  refine g_callv0 (st := []) 6 mw_X7_takePerson lk_RX5_125 rfl kh_5 (ok_To_takePerson pr1 hpr1 σ) (Nat.le_of_ble_eq_true rfl) rfl rfl (Nat.le_of_ble_eq_true rfl) dX5_readDinner_2 ?_
  intro r1 s2
  refine g_istore_n (lv' := [some (.inr (.inr 5)), some (.inr (.inr pr1)), some (.inl r1), none, none]) dX5_readDinner_5 rfl (Nat.le_of_ble_eq_true rfl) rfl ?_
  refine g_iload_n dX5_readDinner_6 rfl rfl ?_
  refine g_iconst dX5_readDinner_7 (by decide) ?_
  refine g_icmpne (tgt := 13) dX5_readDinner_8 (by decide) ?_ ?_
  · refine g_iconst dX5_readDinner_11 (by decide) ?_
    exact g_zret0 dX5_readDinner_12
  · refine g_aload_n dX5_readDinner_13 rfl rfl ?_
    refine g_aload_n dX5_readDinner_14 rfl rfl ?_
    refine g_callv0 (st := []) 6 mw_X7_takePerson lk_RX5_125 rfl kh_5 (ok_To_takePerson pr1 hpr1 s2) (Nat.le_of_ble_eq_true rfl) rfl rfl (Nat.le_of_ble_eq_true rfl) dX5_readDinner_15 ?_
    intro r3 s4
    refine g_istore_n (lv' := [some (.inr (.inr 5)), some (.inr (.inr pr1)), some (.inl r1), some (.inl r3), none]) dX5_readDinner_18 rfl (Nat.le_of_ble_eq_true rfl) rfl ?_
    refine g_iload_n dX5_readDinner_19 rfl rfl ?_
    refine g_iconst dX5_readDinner_20 (by decide) ?_
    refine g_icmpne (tgt := 26) dX5_readDinner_21 (by decide) ?_ ?_
    · refine g_iconst dX5_readDinner_24 (by decide) ?_
      exact g_zret0 dX5_readDinner_25
    · refine g_iload_n dX5_readDinner_26 rfl rfl ?_
      refine g_iload_n dX5_readDinner_27 rfl rfl ?_
      refine g_icmpne (tgt := 37) dX5_readDinner_28 (by decide) ?_ ?_
      · refine g_aload_n dX5_readDinner_31 rfl rfl ?_
        refine g_iconst dX5_readDinner_32 (by decide) ?_
        refine g_callv3 (st := []) 6 mw_X7_reject lk_RX5_47 rfl kh_5 (ok_To_reject 5 s4) (Nat.le_of_ble_eq_true rfl) rfl rfl (Nat.le_of_ble_eq_true rfl) dX5_readDinner_33 ?_
        intro r5 s6
        exact g_zret dX5_readDinner_36
      · refine g_aload_n dX5_readDinner_37 rfl rfl ?_
        refine g_bipush dX5_readDinner_38 (by decide) ?_
        refine g_callv3 (st := []) 6 mw_X7_takeKey lk_RX5_128 rfl kh_5 (ok_To_takeKey 10 s4) (Nat.le_of_ble_eq_true rfl) rfl rfl (Nat.le_of_ble_eq_true rfl) dX5_readDinner_40 ?_
        intro r7 s8
        refine g_ifne (tgt := 48) dX5_readDinner_43 (by decide) ?_ ?_
        · refine g_iconst dX5_readDinner_46 (by decide) ?_
          exact g_zret0 dX5_readDinner_47
        · refine g_aload_n dX5_readDinner_48 rfl rfl ?_
          refine g_iconst dX5_readDinner_49 (by decide) ?_
          refine g_bipush dX5_readDinner_50 (by decide) ?_
          refine g_callv0 (st := []) 6 mw_X7_takeNumber lk_RX5_75 rfl kh_5 (ok_To_takeNumber 1 30 s8) (Nat.le_of_ble_eq_true rfl) rfl rfl (Nat.le_of_ble_eq_true rfl) dX5_readDinner_52 ?_
          intro r9 s10
          refine g_istore (lv' := [some (.inr (.inr 5)), some (.inr (.inr pr1)), some (.inl r1), some (.inl r3), some (.inl r9)]) dX5_readDinner_55 (Nat.le_of_ble_eq_true rfl) rfl ?_
          refine g_iload dX5_readDinner_57 rfl ?_
          refine g_iconst dX5_readDinner_59 (by decide) ?_
          refine g_icmpeq (tgt := 70) dX5_readDinner_60 (by decide) ?_ ?_
          · refine g_iconst dX5_readDinner_70 (by decide) ?_
            exact g_zret0 dX5_readDinner_71
          · refine g_aload_n dX5_readDinner_63 rfl rfl ?_
            refine g_callv3 (st := []) 6 mw_X7_takeClosing lk_RX5_79 rfl kh_5 (ok_To_takeClosing s10) (Nat.le_of_ble_eq_true rfl) rfl rfl (Nat.le_of_ble_eq_true rfl) dX5_readDinner_64 ?_
            intro r11 s12
            refine g_ifne (tgt := 72) dX5_readDinner_67 (by decide) ?_ ?_
            · refine g_iconst dX5_readDinner_70 (by decide) ?_
              exact g_zret0 dX5_readDinner_71
            · refine g_aload_n dX5_readDinner_72 rfl rfl ?_
              refine g_iload_n dX5_readDinner_73 rfl rfl ?_
              refine g_iload_n dX5_readDinner_74 rfl rfl ?_
              refine g_iload dX5_readDinner_75 rfl ?_
              refine g_callv2 (st := []) 4 mw_X4_addDinner lk_RX5_131 rfl hpr1 (ok_Pr_addDinner pr1 r1 r3 r9 hpr1 s12) (Nat.le_of_ble_eq_true rfl) rfl rfl (Nat.le_of_ble_eq_true rfl) dX5_readDinner_77 ?_
              intro r13 s14
              refine g_iconst dX5_readDinner_80 (by decide) ?_
              exact g_zret1 dX5_readDinner_81
theorem dX4_addHalves_0 : decode cX4_addHalves 0 = .ok (.aload_n 0, 1) := by decide +kernel
theorem dX4_addHalves_1 : decode cX4_addHalves 1 = .ok (.iload_n 1, 1) := by decide +kernel
theorem dX4_addHalves_2 : decode cX4_addHalves 2 = .ok (.invokevirtual 80, 3) := by decide +kernel
theorem dX4_addHalves_5 : decode cX4_addHalves 5 = .ok (.ifCond .eq 45, 3) := by decide +kernel
theorem dX4_addHalves_8 : decode cX4_addHalves 8 = .ok (.aload_n 0, 1) := by decide +kernel
theorem dX4_addHalves_9 : decode cX4_addHalves 9 = .ok (.iload_n 2, 1) := by decide +kernel
theorem dX4_addHalves_10 : decode cX4_addHalves 10 = .ok (.invokevirtual 80, 3) := by decide +kernel
theorem dX4_addHalves_13 : decode cX4_addHalves 13 = .ok (.ifCond .eq 37, 3) := by decide +kernel
theorem dX4_addHalves_16 : decode cX4_addHalves 16 = .ok (.aload_n 0, 1) := by decide +kernel
theorem dX4_addHalves_17 : decode cX4_addHalves 17 = .ok (.getfield 22, 3) := by decide +kernel
theorem dX4_addHalves_20 : decode cX4_addHalves 20 = .ok (.iload_n 1, 1) := by decide +kernel
theorem dX4_addHalves_21 : decode cX4_addHalves 21 = .ok (.dup2, 1) := by decide +kernel
theorem dX4_addHalves_22 : decode cX4_addHalves 22 = .ok (.iaload, 1) := by decide +kernel
theorem dX4_addHalves_23 : decode cX4_addHalves 23 = .ok (.iconst 1, 1) := by decide +kernel
theorem dX4_addHalves_24 : decode cX4_addHalves 24 = .ok (.iload_n 2, 1) := by decide +kernel
theorem dX4_addHalves_25 : decode cX4_addHalves 25 = .ok (.ishl, 1) := by decide +kernel
theorem dX4_addHalves_26 : decode cX4_addHalves 26 = .ok (.ior, 1) := by decide +kernel
theorem dX4_addHalves_27 : decode cX4_addHalves 27 = .ok (.iastore, 1) := by decide +kernel
theorem dX4_addHalves_28 : decode cX4_addHalves 28 = .ok (.aload_n 0, 1) := by decide +kernel
theorem dX4_addHalves_29 : decode cX4_addHalves 29 = .ok (.getfield 22, 3) := by decide +kernel
theorem dX4_addHalves_32 : decode cX4_addHalves 32 = .ok (.iload_n 2, 1) := by decide +kernel
theorem dX4_addHalves_33 : decode cX4_addHalves 33 = .ok (.dup2, 1) := by decide +kernel
theorem dX4_addHalves_34 : decode cX4_addHalves 34 = .ok (.iaload, 1) := by decide +kernel
theorem dX4_addHalves_35 : decode cX4_addHalves 35 = .ok (.iconst 1, 1) := by decide +kernel
theorem dX4_addHalves_36 : decode cX4_addHalves 36 = .ok (.iload_n 1, 1) := by decide +kernel
theorem dX4_addHalves_37 : decode cX4_addHalves 37 = .ok (.ishl, 1) := by decide +kernel
theorem dX4_addHalves_38 : decode cX4_addHalves 38 = .ok (.ior, 1) := by decide +kernel
theorem dX4_addHalves_39 : decode cX4_addHalves 39 = .ok (.iastore, 1) := by decide +kernel
theorem dX4_addHalves_40 : decode cX4_addHalves 40 = .ok (.aload_n 0, 1) := by decide +kernel
theorem dX4_addHalves_41 : decode cX4_addHalves 41 = .ok (.dup, 1) := by decide +kernel
theorem dX4_addHalves_42 : decode cX4_addHalves 42 = .ok (.getfield 59, 3) := by decide +kernel
theorem dX4_addHalves_45 : decode cX4_addHalves 45 = .ok (.iconst 1, 1) := by decide +kernel
theorem dX4_addHalves_46 : decode cX4_addHalves 46 = .ok (.iadd, 1) := by decide +kernel
theorem dX4_addHalves_47 : decode cX4_addHalves 47 = .ok (.putfield 59, 3) := by decide +kernel
theorem dX4_addHalves_50 : decode cX4_addHalves 50 = .ok (.return_, 1) := by decide +kernel
theorem mw_X4_addHalves : MW yX4_addHalves cX4_addHalves 3 2 2 false := ⟨tm 945 (by decide +kernel) rfl, tm 242 (by decide +kernel) rfl, by decide, by decide, (by rw [if_neg (by decide)]; exact ⟨tm 944 (by decide +kernel) rfl, tm 41 (by decide +kernel) rfl⟩)⟩
def Pr_addHalves (pr0 : Nat) (a1 : Int) (a2 : Int) (σ : Sg) : Rs := (bd (Pr_isWord pr0 a1 σ) (fun r1 s2 => (if r1 = 0 then (some (0, s2)) else (bd (Pr_isWord pr0 a2 s2) (fun r3 s4 => (if r3 = 0 then (some (0, s4)) else (rd 8 a1 (s4 (pr0 + 4) (Int.toNat a1)) (fun x5 => (wr 8 a1 (up_s s4 (pr0 + 4) (Int.toNat a1) (or32 x5 (sl32 1 a2))) (fun s6 => (rd 8 a2 (s6 (pr0 + 4) (Int.toNat a2)) (fun x7 => (wr 8 a2 (up_s s6 (pr0 + 4) (Int.toNat a2) (or32 x7 (sl32 1 a1))) (fun s8 => (nm (up_s s8 pr0 13 (w32 ((s8 pr0 13) + 1))) (fun s9 => (some (0, s9))))))))))))))))))
theorem ok_Pr_addHalves (pr0 : Nat) (a1 : Int) (a2 : Int) (hpr0 : Kh[pr0]? = some (.inl 4)) (σ : Sg) : MC l Kh Ph yX4_addHalves cX4_addHalves 3 2 2 [.inr (.inr pr0), .inl a1, .inl a2] σ (Pr_addHalves pr0 a1 a2 σ) := by
  refine mc_of (by decide) (Nat.le_of_ble_eq_true rfl) ?_
  change G l Kh Ph RX4 cX4_addHalves 3 2 2 0 [some (.inr (.inr pr0)), some (.inl a1), some (.inl a2)] [] σ (Pr_addHalves pr0 a1 a2 σ)
  unfold Pr_addHalves
  refine g_aload_n dX4_addHalves_0 rfl rfl ?_
  refine g_iload_n dX4_addHalves_1 rfl rfl ?_
  refine g_callv3 (st := []) 4 mw_X4_isWord lk_RX4_80 rfl hpr0 (ok_Pr_isWord pr0 a1 hpr0 σ) (Nat.le_of_ble_eq_true rfl) rfl rfl (Nat.le_of_ble_eq_true rfl) dX4_addHalves_2 ?_
  intro r1 s2
  refine g_ifeq (tgt := 50) dX4_addHalves_5 (by decide) ?_ ?_
  · exact g_vret dX4_addHalves_50
  · refine g_aload_n dX4_addHalves_8 rfl rfl ?_
    refine g_iload_n dX4_addHalves_9 rfl rfl ?_
    refine g_callv3 (st := []) 4 mw_X4_isWord lk_RX4_80 rfl hpr0 (ok_Pr_isWord pr0 a2 hpr0 s2) (Nat.le_of_ble_eq_true rfl) rfl rfl (Nat.le_of_ble_eq_true rfl) dX4_addHalves_10 ?_
    intro r3 s4
    refine g_ifeq (tgt := 50) dX4_addHalves_13 (by decide) ?_ ?_
    · exact g_vret dX4_addHalves_50
    · refine g_aload_n dX4_addHalves_16 rfl rfl ?_
      refine g_getr' (q := (pr0 + 4)) fl_RX4_22 hpr0 (by decide) (qp3 hpr0) dX4_addHalves_17 ?_
      refine g_iload_n dX4_addHalves_20 rfl rfl ?_
      refine g_dup2 dX4_addHalves_21 rfl rfl ?_
      refine g_iald (kp3 hpr0) dX4_addHalves_22 ?_
      intro x5
      refine g_iconst dX4_addHalves_23 (by decide) ?_
      refine g_iload_n dX4_addHalves_24 rfl rfl ?_
      refine g_ishl dX4_addHalves_25 ?_
      refine g_ior dX4_addHalves_26 ?_
      refine g_iast (kp3 hpr0) dX4_addHalves_27 ?_
      intro s6
      refine g_aload_n dX4_addHalves_28 rfl rfl ?_
      refine g_getr' (q := (pr0 + 4)) fl_RX4_22 hpr0 (by decide) (qp3 hpr0) dX4_addHalves_29 ?_
      refine g_iload_n dX4_addHalves_32 rfl rfl ?_
      refine g_dup2 dX4_addHalves_33 rfl rfl ?_
      refine g_iald (kp3 hpr0) dX4_addHalves_34 ?_
      intro x7
      refine g_iconst dX4_addHalves_35 (by decide) ?_
      refine g_iload_n dX4_addHalves_36 rfl rfl ?_
      refine g_ishl dX4_addHalves_37 ?_
      refine g_ior dX4_addHalves_38 ?_
      refine g_iast (kp3 hpr0) dX4_addHalves_39 ?_
      intro s8
      refine g_aload_n dX4_addHalves_40 rfl rfl ?_
      refine g_dup dX4_addHalves_41 rfl ?_
      refine g_geti fl_RX4_59 hpr0 (by decide) dX4_addHalves_42 ?_
      refine g_iconst dX4_addHalves_45 (by decide) ?_
      refine g_iadd dX4_addHalves_46 ?_
      refine g_puti fl_RX4_59 hpr0 (by decide) dX4_addHalves_47 ?_
      intro s9
      exact g_vret dX4_addHalves_50
theorem dX4_findWord_0 : decode cX4_findWord 0 = .ok (.iconst 0, 1) := by decide +kernel
theorem dX4_findWord_1 : decode cX4_findWord 1 = .ok (.istore_n 3, 1) := by decide +kernel
theorem dX4_findWord_2 : decode cX4_findWord 2 = .ok (.iload_n 3, 1) := by decide +kernel
theorem dX4_findWord_3 : decode cX4_findWord 3 = .ok (.aload_n 0, 1) := by decide +kernel
theorem dX4_findWord_4 : decode cX4_findWord 4 = .ok (.getfield 50, 3) := by decide +kernel
theorem dX4_findWord_7 : decode cX4_findWord 7 = .ok (.if_icmp .ge 28, 3) := by decide +kernel
theorem dX4_findWord_10 : decode cX4_findWord 10 = .ok (.iload_n 3, 1) := by decide +kernel
theorem dX4_findWord_11 : decode cX4_findWord 11 = .ok (.bipush 8, 2) := by decide +kernel
theorem dX4_findWord_13 : decode cX4_findWord 13 = .ok (.if_icmp .ge 22, 3) := by decide +kernel
theorem dX4_findWord_16 : decode cX4_findWord 16 = .ok (.aload_n 0, 1) := by decide +kernel
theorem dX4_findWord_17 : decode cX4_findWord 17 = .ok (.getfield 9, 3) := by decide +kernel
theorem dX4_findWord_20 : decode cX4_findWord 20 = .ok (.iload_n 3, 1) := by decide +kernel
theorem dX4_findWord_21 : decode cX4_findWord 21 = .ok (.laload, 1) := by decide +kernel
theorem dX4_findWord_22 : decode cX4_findWord 22 = .ok (.lload_n 1, 1) := by decide +kernel
theorem dX4_findWord_23 : decode cX4_findWord 23 = .ok (.lcmp, 1) := by decide +kernel
theorem dX4_findWord_24 : decode cX4_findWord 24 = .ok (.ifCond .ne 5, 3) := by decide +kernel
theorem dX4_findWord_27 : decode cX4_findWord 27 = .ok (.iload_n 3, 1) := by decide +kernel
theorem dX4_findWord_28 : decode cX4_findWord 28 = .ok (.ireturn, 1) := by decide +kernel
theorem dX4_findWord_29 : decode cX4_findWord 29 = .ok (.iinc 3 1, 3) := by decide +kernel
theorem dX4_findWord_32 : decode cX4_findWord 32 = .ok (.goto (-30), 3) := by decide +kernel
theorem dX4_findWord_35 : decode cX4_findWord 35 = .ok (.iconst (-1), 1) := by decide +kernel
theorem dX4_findWord_36 : decode cX4_findWord 36 = .ok (.ireturn, 1) := by decide +kernel
theorem mw_X4_findWord : MW yX4_findWord cX4_findWord 4 0 1 false := ⟨tm 892 (by decide +kernel) rfl, tm 242 (by decide +kernel) rfl, by decide, by decide, (by rw [if_neg (by decide)]; exact ⟨tm 891 (by decide +kernel) rfl, tm 32 (by decide +kernel) rfl⟩)⟩
def Pr_findWord_L2 (pr0 : Nat) (a1 : Int) : Nat → Int → Sg → Rs
  | 0, _, _ => none
  | n + 1, v3, σ => (if v3 < (σ pr0 10) then (if v3 < 8 then (rd 14 v3 (σ (pr0 + 1) (Int.toNat v3)) (fun x1 => (if x1 = a1 then (some (v3, σ)) else (nm (w32 (v3 + 1)) (fun x2 => (Pr_findWord_L2 pr0 a1 n x2 σ)))))) else (some ((-1), σ))) else (some ((-1), σ)))
theorem ok_Pr_findWord_L2 (pr0 : Nat) (a1 : Int) (hpr0 : Kh[pr0]? = some (.inl 4)) : ∀ (n : Nat) (v3 : Int) (σ : Sg), G l Kh Ph RX4 cX4_findWord 4 0 1 2 [some (.inr (.inr pr0)), some (.inr (.inl a1)), none, some (.inl v3)] [] σ (Pr_findWord_L2 pr0 a1 n v3 σ) := by
  intro n
  induction n with
  | zero => intros; exact G.none_
  | succ n ih =>
    intro v3 σ
    rw [Pr_findWord_L2]
    refine g_iload_n dX4_findWord_2 rfl rfl ?_
    refine g_aload_n dX4_findWord_3 rfl rfl ?_
    refine g_geti fl_RX4_50 hpr0 (by decide) dX4_findWord_4 ?_
    refine g_icmpge (tgt := 35) dX4_findWord_7 (by decide) ?_ ?_
    · refine g_iload_n dX4_findWord_10 rfl rfl ?_
      refine g_bipush dX4_findWord_11 (by decide) ?_
      refine g_icmpge (tgt := 35) dX4_findWord_13 (by decide) ?_ ?_
      · refine g_aload_n dX4_findWord_16 rfl rfl ?_
        refine g_getr' (q := (pr0 + 1)) fl_RX4_9 hpr0 (by decide) (qp0 hpr0) dX4_findWord_17 ?_
        refine g_iload_n dX4_findWord_20 rfl rfl ?_
        refine g_lald (kp0 hpr0) dX4_findWord_21 ?_
        intro x1
        refine g_lload_n dX4_findWord_22 rfl rfl ?_
        refine g_lcmpne (tgt := 29) dX4_findWord_23 dX4_findWord_24 (by decide) ?_ ?_
        · refine g_iload_n dX4_findWord_27 rfl rfl ?_
          exact g_iret dX4_findWord_28
        · refine n_iinc (fun x2 => [some (.inr (.inr pr0)), some (.inr (.inl a1)), none, some (.inl x2)]) dX4_findWord_29 rfl (Nat.le_of_ble_eq_true rfl) (fun _ => rfl) ?_
          intro x2
          refine g_goto (tgt := 2) dX4_findWord_32 (by decide) ?_
          exact (ih x2 σ)
      · refine g_iconst dX4_findWord_35 (by decide) ?_
        exact g_iret dX4_findWord_36
    · refine g_iconst dX4_findWord_35 (by decide) ?_
      exact g_iret dX4_findWord_36
def Pr_findWord (pr0 : Nat) (a1 : Int) (σ : Sg) : Rs := (Pr_findWord_L2 pr0 a1 fu 0 σ)
theorem ok_Pr_findWord (pr0 : Nat) (a1 : Int) (hpr0 : Kh[pr0]? = some (.inl 4)) (σ : Sg) : MC l Kh Ph yX4_findWord cX4_findWord 4 0 1 [.inr (.inr pr0), .inr (.inl a1)] σ (Pr_findWord pr0 a1 σ) := by
  refine mc_of (by decide) (Nat.le_of_ble_eq_true rfl) ?_
  change G l Kh Ph RX4 cX4_findWord 4 0 1 0 [some (.inr (.inr pr0)), some (.inr (.inl a1)), none, none] [] σ (Pr_findWord pr0 a1 σ)
  unfold Pr_findWord
  refine g_iconst dX4_findWord_0 (by decide) ?_
  refine g_istore_n (lv' := [some (.inr (.inr pr0)), some (.inr (.inl a1)), none, some (.inl 0)]) dX4_findWord_1 rfl (Nat.le_of_ble_eq_true rfl) rfl ?_
  refine (ok_Pr_findWord_L2 pr0 a1 hpr0 fu 0 σ)
theorem dX7_takeWord_0 : decode cX7_takeWord 0 = .ok (.aload_n 0, 1) := by decide +kernel
theorem dX7_takeWord_1 : decode cX7_takeWord 1 = .ok (.getfield 115, 3) := by decide +kernel
theorem dX7_takeWord_4 : decode cX7_takeWord 4 = .ok (.iconst 3, 1) := by decide +kernel
theorem dX7_takeWord_5 : decode cX7_takeWord 5 = .ok (.if_icmp .eq 10, 3) := by decide +kernel
theorem dX7_takeWord_8 : decode cX7_takeWord 8 = .ok (.aload_n 0, 1) := by decide +kernel
theorem dX7_takeWord_9 : decode cX7_takeWord 9 = .ok (.invokevirtual 118, 3) := by decide +kernel
theorem dX7_takeWord_12 : decode cX7_takeWord 12 = .ok (.pop, 1) := by decide +kernel
theorem dX7_takeWord_13 : decode cX7_takeWord 13 = .ok (.iconst (-1), 1) := by decide +kernel
theorem dX7_takeWord_14 : decode cX7_takeWord 14 = .ok (.ireturn, 1) := by decide +kernel
theorem dX7_takeWord_15 : decode cX7_takeWord 15 = .ok (.aload_n 0, 1) := by decide +kernel
theorem dX7_takeWord_16 : decode cX7_takeWord 16 = .ok (.invokevirtual 91, 3) := by decide +kernel
theorem dX7_takeWord_19 : decode cX7_takeWord 19 = .ok (.aload_n 1, 1) := by decide +kernel
theorem dX7_takeWord_20 : decode cX7_takeWord 20 = .ok (.aload_n 0, 1) := by decide +kernel
theorem dX7_takeWord_21 : decode cX7_takeWord 21 = .ok (.getfield 112, 3) := by decide +kernel
theorem dX7_takeWord_24 : decode cX7_takeWord 24 = .ok (.invokevirtual 127, 3) := by decide +kernel
theorem dX7_takeWord_27 : decode cX7_takeWord 27 = .ok (.istore_n 2, 1) := by decide +kernel
theorem dX7_takeWord_28 : decode cX7_takeWord 28 = .ok (.iload_n 2, 1) := by decide +kernel
theorem dX7_takeWord_29 : decode cX7_takeWord 29 = .ok (.iconst (-1), 1) := by decide +kernel
theorem dX7_takeWord_30 : decode cX7_takeWord 30 = .ok (.if_icmp .ne 9, 3) := by decide +kernel
theorem dX7_takeWord_33 : decode cX7_takeWord 33 = .ok (.aload_n 0, 1) := by decide +kernel
theorem dX7_takeWord_34 : decode cX7_takeWord 34 = .ok (.iconst 3, 1) := by decide +kernel
theorem dX7_takeWord_35 : decode cX7_takeWord 35 = .ok (.invokevirtual 124, 3) := by decide +kernel
theorem dX7_takeWord_38 : decode cX7_takeWord 38 = .ok (.pop, 1) := by decide +kernel
theorem dX7_takeWord_39 : decode cX7_takeWord 39 = .ok (.iload_n 2, 1) := by decide +kernel
theorem dX7_takeWord_40 : decode cX7_takeWord 40 = .ok (.ireturn, 1) := by decide +kernel
theorem mw_X7_takeWord : MW yX7_takeWord cX7_takeWord 3 0 1 false := ⟨tm 917 (by decide +kernel) rfl, tm 237 (by decide +kernel) rfl, by decide, by decide, (by rw [if_neg (by decide)]; exact ⟨tm 916 (by decide +kernel) rfl, tm 36 (by decide +kernel) rfl⟩)⟩
theorem lk_RX7_127 : LK RX7 127 yX4_findWord := Or.inr ⟨"HairProvince", tm 918 (by decide +kernel) rfl⟩
def To_takeWord (pr1 : Nat) (σ : Sg) : Rs := (if (σ 5 6) = 3 then (bd (To_take σ) (fun r1 s2 => (bd (Pr_findWord pr1 (s2 5 10) s2) (fun r3 s4 => (if r3 = (-1) then (bd (To_reject 3 s4) (fun r5 s6 => (some (r3, s6)))) else (some (r3, s4))))))) else (bd (To_misfit σ) (fun r7 s8 => (some ((-1), s8)))))
theorem ok_To_takeWord (pr1 : Nat) (hpr1 : Kh[pr1]? = some (.inl 4)) (σ : Sg) : MC l Kh Ph yX7_takeWord cX7_takeWord 3 0 2 [.inr (.inr 5), .inr (.inr pr1)] σ (To_takeWord pr1 σ) := by
  refine mc_of (by decide) (Nat.le_of_ble_eq_true rfl) ?_
  change G l Kh Ph RX7 cX7_takeWord 3 0 2 0 [some (.inr (.inr 5)), some (.inr (.inr pr1)), none] [] σ (To_takeWord pr1 σ)
  unfold To_takeWord
  refine g_aload_n dX7_takeWord_0 rfl rfl ?_
  refine g_geti fl_RX7_115 kh_5 (by decide) dX7_takeWord_1 ?_
  refine g_iconst dX7_takeWord_4 (by decide) ?_
  refine g_icmpeq (tgt := 15) dX7_takeWord_5 (by decide) ?_ ?_
  · refine g_aload_n dX7_takeWord_15 rfl rfl ?_
    refine g_callv2 (st := []) 6 mw_X7_take lk_RX7_91 rfl kh_5 (ok_To_take σ) (Nat.le_of_ble_eq_true rfl) rfl rfl (Nat.le_of_ble_eq_true rfl) dX7_takeWord_16 ?_
    intro r1 s2
    refine g_aload_n dX7_takeWord_19 rfl rfl ?_
    refine g_aload_n dX7_takeWord_20 rfl rfl ?_
    refine g_getl fl_RX7_112 kh_5 (by decide) dX7_takeWord_21 ?_
    refine g_callv0 (st := []) 4 mw_X4_findWord lk_RX7_127 rfl hpr1 (ok_Pr_findWord pr1 (s2 5 10) hpr1 s2) (Nat.le_of_ble_eq_true rfl) rfl rfl (Nat.le_of_ble_eq_true rfl) dX7_takeWord_24 ?_
    intro r3 s4
    refine g_istore_n (lv' := [some (.inr (.inr 5)), some (.inr (.inr pr1)), some (.inl r3)]) dX7_takeWord_27 rfl (Nat.le_of_ble_eq_true rfl) rfl ?_
    refine g_iload_n dX7_takeWord_28 rfl rfl ?_
    refine g_iconst dX7_takeWord_29 (by decide) ?_
    refine g_icmpne (tgt := 39) dX7_takeWord_30 (by decide) ?_ ?_
    · refine g_aload_n dX7_takeWord_33 rfl rfl ?_
      refine g_iconst dX7_takeWord_34 (by decide) ?_
      refine g_callv3 (st := []) 6 mw_X7_reject lk_RX7_124 rfl kh_5 (ok_To_reject 3 s4) (Nat.le_of_ble_eq_true rfl) rfl rfl (Nat.le_of_ble_eq_true rfl) dX7_takeWord_35 ?_
      intro r5 s6
      refine g_pop dX7_takeWord_38 rfl ?_
      refine g_iload_n dX7_takeWord_39 rfl rfl ?_
      exact g_iret dX7_takeWord_40
    · refine g_iload_n dX7_takeWord_39 rfl rfl ?_
      exact g_iret dX7_takeWord_40
  · refine g_aload_n dX7_takeWord_8 rfl rfl ?_
    refine g_callv3 (st := []) 6 mw_X7_misfit lk_RX7_118 rfl kh_5 (ok_To_misfit σ) (Nat.le_of_ble_eq_true rfl) rfl rfl (Nat.le_of_ble_eq_true rfl) dX7_takeWord_9 ?_
    intro r7 s8
    refine g_pop dX7_takeWord_12 rfl ?_
    refine g_iconst dX7_takeWord_13 (by decide) ?_
    exact g_iret dX7_takeWord_14
theorem dX5_readHalves_0 : decode cX5_readHalves 0 = .ok (.aload_n 0, 1) := by decide +kernel
theorem dX5_readHalves_1 : decode cX5_readHalves 1 = .ok (.aload_n 1, 1) := by decide +kernel
theorem dX5_readHalves_2 : decode cX5_readHalves 2 = .ok (.invokevirtual 121, 3) := by decide +kernel
theorem dX5_readHalves_5 : decode cX5_readHalves 5 = .ok (.istore_n 2, 1) := by decide +kernel
theorem dX5_readHalves_6 : decode cX5_readHalves 6 = .ok (.iload_n 2, 1) := by decide +kernel
theorem dX5_readHalves_7 : decode cX5_readHalves 7 = .ok (.iconst (-1), 1) := by decide +kernel
theorem dX5_readHalves_8 : decode cX5_readHalves 8 = .ok (.if_icmp .ne 5, 3) := by decide +kernel
theorem dX5_readHalves_11 : decode cX5_readHalves 11 = .ok (.iconst 0, 1) := by decide +kernel
theorem dX5_readHalves_12 : decode cX5_readHalves 12 = .ok (.ireturn, 1) := by decide +kernel
theorem dX5_readHalves_13 : decode cX5_readHalves 13 = .ok (.aload_n 0, 1) := by decide +kernel
theorem dX5_readHalves_14 : decode cX5_readHalves 14 = .ok (.aload_n 1, 1) := by decide +kernel
theorem dX5_readHalves_15 : decode cX5_readHalves 15 = .ok (.invokevirtual 121, 3) := by decide +kernel
theorem dX5_readHalves_18 : decode cX5_readHalves 18 = .ok (.istore_n 3, 1) := by decide +kernel
theorem dX5_readHalves_19 : decode cX5_readHalves 19 = .ok (.iload_n 3, 1) := by decide +kernel
theorem dX5_readHalves_20 : decode cX5_readHalves 20 = .ok (.iconst (-1), 1) := by decide +kernel
theorem dX5_readHalves_21 : decode cX5_readHalves 21 = .ok (.if_icmp .ne 5, 3) := by decide +kernel
theorem dX5_readHalves_24 : decode cX5_readHalves 24 = .ok (.iconst 0, 1) := by decide +kernel
theorem dX5_readHalves_25 : decode cX5_readHalves 25 = .ok (.ireturn, 1) := by decide +kernel
theorem dX5_readHalves_26 : decode cX5_readHalves 26 = .ok (.iload_n 2, 1) := by decide +kernel
theorem dX5_readHalves_27 : decode cX5_readHalves 27 = .ok (.iload_n 3, 1) := by decide +kernel
theorem dX5_readHalves_28 : decode cX5_readHalves 28 = .ok (.if_icmp .ne 9, 3) := by decide +kernel
theorem dX5_readHalves_31 : decode cX5_readHalves 31 = .ok (.aload_n 0, 1) := by decide +kernel
theorem dX5_readHalves_32 : decode cX5_readHalves 32 = .ok (.iconst 5, 1) := by decide +kernel
theorem dX5_readHalves_33 : decode cX5_readHalves 33 = .ok (.invokevirtual 47, 3) := by decide +kernel
theorem dX5_readHalves_36 : decode cX5_readHalves 36 = .ok (.ireturn, 1) := by decide +kernel
theorem dX5_readHalves_37 : decode cX5_readHalves 37 = .ok (.aload_n 0, 1) := by decide +kernel
theorem dX5_readHalves_38 : decode cX5_readHalves 38 = .ok (.invokevirtual 79, 3) := by decide +kernel
theorem dX5_readHalves_41 : decode cX5_readHalves 41 = .ok (.ifCond .ne 5, 3) := by decide +kernel
theorem dX5_readHalves_44 : decode cX5_readHalves 44 = .ok (.iconst 0, 1) := by decide +kernel
theorem dX5_readHalves_45 : decode cX5_readHalves 45 = .ok (.ireturn, 1) := by decide +kernel
theorem dX5_readHalves_46 : decode cX5_readHalves 46 = .ok (.aload_n 1, 1) := by decide +kernel
theorem dX5_readHalves_47 : decode cX5_readHalves 47 = .ok (.iload_n 2, 1) := by decide +kernel
theorem dX5_readHalves_48 : decode cX5_readHalves 48 = .ok (.iload_n 3, 1) := by decide +kernel
theorem dX5_readHalves_49 : decode cX5_readHalves 49 = .ok (.invokevirtual 135, 3) := by decide +kernel
theorem dX5_readHalves_52 : decode cX5_readHalves 52 = .ok (.iconst 1, 1) := by decide +kernel
theorem dX5_readHalves_53 : decode cX5_readHalves 53 = .ok (.ireturn, 1) := by decide +kernel
theorem mw_X5_readHalves : MW yX5_readHalves cX5_readHalves 4 3 2 true := ⟨tm 941 (by decide +kernel) rfl, tm 252 (by decide +kernel) rfl, by decide, by decide, (by rw [if_pos rfl]; exact tm 940 (by decide +kernel) rfl)⟩
theorem lk_RX5_121 : LK RX5 121 yX7_takeWord := Or.inr ⟨"HairProvince", tm 914 (by decide +kernel) rfl⟩
theorem lk_RX5_135 : LK RX5 135 yX4_addHalves := Or.inr ⟨"HairProvince", tm 942 (by decide +kernel) rfl⟩
def PR_readHalves (pr1 : Nat) (σ : Sg) : Rs := (bd (To_takeWord pr1 σ) (fun r1 s2 => (if r1 = (-1) then (some (0, s2)) else (bd (To_takeWord pr1 s2) (fun r3 s4 => (if r3 = (-1) then (some (0, s4)) else (if r1 = r3 then (bd (To_reject 5 s4) (fun r5 s6 => (zb r5 (some (r5, s6))))) else (bd (To_takeClosing s4) (fun r7 s8 => (if r7 = 0 then (some (0, s8)) else (bd (Pr_addHalves pr1 r1 r3 s8) (fun r9 s10 => (some (1, s10))))))))))))))
theorem ok_PR_readHalves (pr1 : Nat) (hpr1 : Kh[pr1]? = some (.inl 4)) (σ : Sg) : MC l Kh Ph yX5_readHalves cX5_readHalves 4 3 3 [.inr (.inr 5), .inr (.inr pr1)] σ (PR_readHalves pr1 σ) := by
  refine mc_of (by decide) (Nat.le_of_ble_eq_true rfl) ?_
  change G l Kh Ph RX5 cX5_readHalves 4 3 3 0 [some (.inr (.inr 5)), some (.inr (.inr pr1)), none, none] [] σ (PR_readHalves pr1 σ)
  unfold PR_readHalves
  refine g_aload_n dX5_readHalves_0 rfl rfl ?_
  refine g_aload_n dX5_readHalves_1 rfl rfl ?_
  refine g_callv0 (st := []) 6 mw_X7_takeWord lk_RX5_121 rfl kh_5 (ok_To_takeWord pr1 hpr1 σ) (Nat.le_of_ble_eq_true rfl) rfl rfl (Nat.le_of_ble_eq_true rfl) dX5_readHalves_2 ?_
  intro r1 s2
  refine g_istore_n (lv' := [some (.inr (.inr 5)), some (.inr (.inr pr1)), some (.inl r1), none]) dX5_readHalves_5 rfl (Nat.le_of_ble_eq_true rfl) rfl ?_
  refine g_iload_n dX5_readHalves_6 rfl rfl ?_
  refine g_iconst dX5_readHalves_7 (by decide) ?_
  refine g_icmpne (tgt := 13) dX5_readHalves_8 (by decide) ?_ ?_
  · refine g_iconst dX5_readHalves_11 (by decide) ?_
    exact g_zret0 dX5_readHalves_12
  · refine g_aload_n dX5_readHalves_13 rfl rfl ?_
    refine g_aload_n dX5_readHalves_14 rfl rfl ?_
    refine g_callv0 (st := []) 6 mw_X7_takeWord lk_RX5_121 rfl kh_5 (ok_To_takeWord pr1 hpr1 s2) (Nat.le_of_ble_eq_true rfl) rfl rfl (Nat.le_of_ble_eq_true rfl) dX5_readHalves_15 ?_
    intro r3 s4
    refine g_istore_n (lv' := [some (.inr (.inr 5)), some (.inr (.inr pr1)), some (.inl r1), some (.inl r3)]) dX5_readHalves_18 rfl (Nat.le_of_ble_eq_true rfl) rfl ?_
    refine g_iload_n dX5_readHalves_19 rfl rfl ?_
    refine g_iconst dX5_readHalves_20 (by decide) ?_
    refine g_icmpne (tgt := 26) dX5_readHalves_21 (by decide) ?_ ?_
    · refine g_iconst dX5_readHalves_24 (by decide) ?_
      exact g_zret0 dX5_readHalves_25
    · refine g_iload_n dX5_readHalves_26 rfl rfl ?_
      refine g_iload_n dX5_readHalves_27 rfl rfl ?_
      refine g_icmpne (tgt := 37) dX5_readHalves_28 (by decide) ?_ ?_
      · refine g_aload_n dX5_readHalves_31 rfl rfl ?_
        refine g_iconst dX5_readHalves_32 (by decide) ?_
        refine g_callv3 (st := []) 6 mw_X7_reject lk_RX5_47 rfl kh_5 (ok_To_reject 5 s4) (Nat.le_of_ble_eq_true rfl) rfl rfl (Nat.le_of_ble_eq_true rfl) dX5_readHalves_33 ?_
        intro r5 s6
        exact g_zret dX5_readHalves_36
      · refine g_aload_n dX5_readHalves_37 rfl rfl ?_
        refine g_callv3 (st := []) 6 mw_X7_takeClosing lk_RX5_79 rfl kh_5 (ok_To_takeClosing s4) (Nat.le_of_ble_eq_true rfl) rfl rfl (Nat.le_of_ble_eq_true rfl) dX5_readHalves_38 ?_
        intro r7 s8
        refine g_ifne (tgt := 46) dX5_readHalves_41 (by decide) ?_ ?_
        · refine g_iconst dX5_readHalves_44 (by decide) ?_
          exact g_zret0 dX5_readHalves_45
        · refine g_aload_n dX5_readHalves_46 rfl rfl ?_
          refine g_iload_n dX5_readHalves_47 rfl rfl ?_
          refine g_iload_n dX5_readHalves_48 rfl rfl ?_
          refine g_callv2 (st := []) 4 mw_X4_addHalves lk_RX5_135 rfl hpr1 (ok_Pr_addHalves pr1 r1 r3 hpr1 s8) (Nat.le_of_ble_eq_true rfl) rfl rfl (Nat.le_of_ble_eq_true rfl) dX5_readHalves_49 ?_
          intro r9 s10
          refine g_iconst dX5_readHalves_52 (by decide) ?_
          exact g_zret1 dX5_readHalves_53
theorem dX4_addPerson_0 : decode cX4_addPerson 0 = .ok (.aload_n 0, 1) := by decide +kernel
theorem dX4_addPerson_1 : decode cX4_addPerson 1 = .ok (.getfield 53, 3) := by decide +kernel
theorem dX4_addPerson_4 : decode cX4_addPerson 4 = .ok (.bipush 6, 2) := by decide +kernel
theorem dX4_addPerson_6 : decode cX4_addPerson 6 = .ok (.if_icmp .ge 136, 3) := by decide +kernel
theorem dX4_addPerson_9 : decode cX4_addPerson 9 = .ok (.aload_n 0, 1) := by decide +kernel
theorem dX4_addPerson_10 : decode cX4_addPerson 10 = .ok (.getfield 9, 3) := by decide +kernel
theorem dX4_addPerson_13 : decode cX4_addPerson 13 = .ok (.bipush 8, 2) := by decide +kernel
theorem dX4_addPerson_15 : decode cX4_addPerson 15 = .ok (.aload_n 0, 1) := by decide +kernel
theorem dX4_addPerson_16 : decode cX4_addPerson 16 = .ok (.getfield 53, 3) := by decide +kernel
theorem dX4_addPerson_19 : decode cX4_addPerson 19 = .ok (.iadd, 1) := by decide +kernel
theorem dX4_addPerson_20 : decode cX4_addPerson 20 = .ok (.lload_n 1, 1) := by decide +kernel
theorem dX4_addPerson_21 : decode cX4_addPerson 21 = .ok (.lastore, 1) := by decide +kernel
theorem dX4_addPerson_22 : decode cX4_addPerson 22 = .ok (.aload_n 0, 1) := by decide +kernel
theorem dX4_addPerson_23 : decode cX4_addPerson 23 = .ok (.getfield 25, 3) := by decide +kernel
theorem dX4_addPerson_26 : decode cX4_addPerson 26 = .ok (.aload_n 0, 1) := by decide +kernel
theorem dX4_addPerson_27 : decode cX4_addPerson 27 = .ok (.getfield 53, 3) := by decide +kernel
theorem dX4_addPerson_30 : decode cX4_addPerson 30 = .ok (.iload_n 3, 1) := by decide +kernel
theorem dX4_addPerson_31 : decode cX4_addPerson 31 = .ok (.iastore, 1) := by decide +kernel
theorem dX4_addPerson_32 : decode cX4_addPerson 32 = .ok (.aload_n 0, 1) := by decide +kernel
theorem dX4_addPerson_33 : decode cX4_addPerson 33 = .ok (.getfield 28, 3) := by decide +kernel
theorem dX4_addPerson_36 : decode cX4_addPerson 36 = .ok (.aload_n 0, 1) := by decide +kernel
theorem dX4_addPerson_37 : decode cX4_addPerson 37 = .ok (.getfield 53, 3) := by decide +kernel
theorem dX4_addPerson_40 : decode cX4_addPerson 40 = .ok (.iload 5, 2) := by decide +kernel
theorem dX4_addPerson_42 : decode cX4_addPerson 42 = .ok (.iastore, 1) := by decide +kernel
theorem dX4_addPerson_43 : decode cX4_addPerson 43 = .ok (.aload_n 0, 1) := by decide +kernel
theorem dX4_addPerson_44 : decode cX4_addPerson 44 = .ok (.getfield 31, 3) := by decide +kernel
theorem dX4_addPerson_47 : decode cX4_addPerson 47 = .ok (.aload_n 0, 1) := by decide +kernel
theorem dX4_addPerson_48 : decode cX4_addPerson 48 = .ok (.getfield 53, 3) := by decide +kernel
theorem dX4_addPerson_51 : decode cX4_addPerson 51 = .ok (.iload 5, 2) := by decide +kernel
theorem dX4_addPerson_53 : decode cX4_addPerson 53 = .ok (.iastore, 1) := by decide +kernel
theorem dX4_addPerson_54 : decode cX4_addPerson 54 = .ok (.aload_n 0, 1) := by decide +kernel
theorem dX4_addPerson_55 : decode cX4_addPerson 55 = .ok (.dup, 1) := by decide +kernel
theorem dX4_addPerson_56 : decode cX4_addPerson 56 = .ok (.getfield 65, 3) := by decide +kernel
theorem dX4_addPerson_59 : decode cX4_addPerson 59 = .ok (.iload 4, 2) := by decide +kernel
theorem dX4_addPerson_61 : decode cX4_addPerson 61 = .ok (.ifCond .eq 12, 3) := by decide +kernel
theorem dX4_addPerson_64 : decode cX4_addPerson 64 = .ok (.iconst 1, 1) := by decide +kernel
theorem dX4_addPerson_65 : decode cX4_addPerson 65 = .ok (.aload_n 0, 1) := by decide +kernel
theorem dX4_addPerson_66 : decode cX4_addPerson 66 = .ok (.getfield 53, 3) := by decide +kernel
theorem dX4_addPerson_69 : decode cX4_addPerson 69 = .ok (.ishl, 1) := by decide +kernel
theorem dX4_addPerson_70 : decode cX4_addPerson 70 = .ok (.goto 4, 3) := by decide +kernel
theorem dX4_addPerson_73 : decode cX4_addPerson 73 = .ok (.iconst 0, 1) := by decide +kernel
theorem dX4_addPerson_74 : decode cX4_addPerson 74 = .ok (.ior, 1) := by decide +kernel
theorem dX4_addPerson_75 : decode cX4_addPerson 75 = .ok (.putfield 65, 3) := by decide +kernel
theorem dX4_addPerson_78 : decode cX4_addPerson 78 = .ok (.iconst 0, 1) := by decide +kernel
theorem dX4_addPerson_79 : decode cX4_addPerson 79 = .ok (.istore 6, 2) := by decide +kernel
theorem dX4_addPerson_81 : decode cX4_addPerson 81 = .ok (.iload 6, 2) := by decide +kernel
theorem dX4_addPerson_83 : decode cX4_addPerson 83 = .ok (.bipush 8, 2) := by decide +kernel
theorem dX4_addPerson_85 : decode cX4_addPerson 85 = .ok (.if_icmp .ge 47, 3) := by decide +kernel
theorem dX4_addPerson_88 : decode cX4_addPerson 88 = .ok (.aload_n 0, 1) := by decide +kernel
theorem dX4_addPerson_89 : decode cX4_addPerson 89 = .ok (.getfield 34, 3) := by decide +kernel
theorem dX4_addPerson_92 : decode cX4_addPerson 92 = .ok (.aload_n 0, 1) := by decide +kernel
theorem dX4_addPerson_93 : decode cX4_addPerson 93 = .ok (.getfield 53, 3) := by decide +kernel
theorem dX4_addPerson_96 : decode cX4_addPerson 96 = .ok (.bipush 8, 2) := by decide +kernel
theorem dX4_addPerson_98 : decode cX4_addPerson 98 = .ok (.imul, 1) := by decide +kernel
theorem dX4_addPerson_99 : decode cX4_addPerson 99 = .ok (.iload 6, 2) := by decide +kernel
theorem dX4_addPerson_101 : decode cX4_addPerson 101 = .ok (.iadd, 1) := by decide +kernel
theorem dX4_addPerson_102 : decode cX4_addPerson 102 = .ok (.aload_n 0, 1) := by decide +kernel
theorem dX4_addPerson_103 : decode cX4_addPerson 103 = .ok (.getfield 62, 3) := by decide +kernel
theorem dX4_addPerson_106 : decode cX4_addPerson 106 = .ok (.iastore, 1) := by decide +kernel
theorem dX4_addPerson_107 : decode cX4_addPerson 107 = .ok (.aload_n 0, 1) := by decide +kernel
theorem dX4_addPerson_108 : decode cX4_addPerson 108 = .ok (.getfield 37, 3) := by decide +kernel
theorem dX4_addPerson_111 : decode cX4_addPerson 111 = .ok (.aload_n 0, 1) := by decide +kernel
theorem dX4_addPerson_112 : decode cX4_addPerson 112 = .ok (.getfield 53, 3) := by decide +kernel
theorem dX4_addPerson_115 : decode cX4_addPerson 115 = .ok (.bipush 8, 2) := by decide +kernel
theorem dX4_addPerson_117 : decode cX4_addPerson 117 = .ok (.imul, 1) := by decide +kernel
theorem dX4_addPerson_118 : decode cX4_addPerson 118 = .ok (.iload 6, 2) := by decide +kernel
theorem dX4_addPerson_120 : decode cX4_addPerson 120 = .ok (.iadd, 1) := by decide +kernel
theorem dX4_addPerson_121 : decode cX4_addPerson 121 = .ok (.aload_n 0, 1) := by decide +kernel
theorem dX4_addPerson_122 : decode cX4_addPerson 122 = .ok (.getfield 62, 3) := by decide +kernel
theorem dX4_addPerson_125 : decode cX4_addPerson 125 = .ok (.iastore, 1) := by decide +kernel
theorem dX4_addPerson_126 : decode cX4_addPerson 126 = .ok (.iinc 6 1, 3) := by decide +kernel
theorem dX4_addPerson_129 : decode cX4_addPerson 129 = .ok (.goto (-48), 3) := by decide +kernel
theorem dX4_addPerson_132 : decode cX4_addPerson 132 = .ok (.aload_n 0, 1) := by decide +kernel
theorem dX4_addPerson_133 : decode cX4_addPerson 133 = .ok (.dup, 1) := by decide +kernel
theorem dX4_addPerson_134 : decode cX4_addPerson 134 = .ok (.getfield 53, 3) := by decide +kernel
theorem dX4_addPerson_137 : decode cX4_addPerson 137 = .ok (.iconst 1, 1) := by decide +kernel
theorem dX4_addPerson_138 : decode cX4_addPerson 138 = .ok (.iadd, 1) := by decide +kernel
theorem dX4_addPerson_139 : decode cX4_addPerson 139 = .ok (.putfield 53, 3) := by decide +kernel
theorem dX4_addPerson_142 : decode cX4_addPerson 142 = .ok (.return_, 1) := by decide +kernel
theorem mw_X4_addPerson : MW yX4_addPerson cX4_addPerson 7 2 4 false := ⟨tm 922 (by decide +kernel) rfl, tm 242 (by decide +kernel) rfl, by decide, by decide, (by rw [if_neg (by decide)]; exact ⟨tm 921 (by decide +kernel) rfl, tm 37 (by decide +kernel) rfl⟩)⟩
def Pr_addPerson_L81 (pr0 : Nat) : Nat → Int → Sg → Rs
  | 0, _, _ => none
  | n + 1, v6, σ => (if v6 < 8 then (wr 48 (w32 ((w32 ((σ pr0 11) * 8)) + v6)) (up_s σ (pr0 + 8) (Int.toNat (w32 ((w32 ((σ pr0 11) * 8)) + v6))) (σ pr0 16)) (fun s6 => (wr 48 (w32 ((w32 ((s6 pr0 11) * 8)) + v6)) (up_s s6 (pr0 + 9) (Int.toNat (w32 ((w32 ((s6 pr0 11) * 8)) + v6))) (s6 pr0 16)) (fun s7 => (nm (w32 (v6 + 1)) (fun x8 => (Pr_addPerson_L81 pr0 n x8 s7))))))) else (nm (up_s σ pr0 11 (w32 ((σ pr0 11) + 1))) (fun s9 => (some (0, s9)))))
theorem ok_Pr_addPerson_L81 (pr0 : Nat) (hpr0 : Kh[pr0]? = some (.inl 4)) : ∀ (n : Nat) (v6 : Int) (σ : Sg), G l Kh Ph RX4 cX4_addPerson 7 2 1 81 [some (.inr (.inr pr0)), none, none, none, none, none, some (.inl v6)] [] σ (Pr_addPerson_L81 pr0 n v6 σ) := by
  intro n
  induction n with
  | zero => intros; exact G.none_
  | succ n ih =>
    intro v6 σ
    rw [Pr_addPerson_L81]
    refine g_iload dX4_addPerson_81 rfl ?_
    refine g_bipush dX4_addPerson_83 (by decide) ?_
    refine g_icmpge (tgt := 132) dX4_addPerson_85 (by decide) ?_ ?_
    · refine g_aload_n dX4_addPerson_88 rfl rfl ?_
      refine g_getr' (q := (pr0 + 8)) fl_RX4_34 hpr0 (by decide) (qp7 hpr0) dX4_addPerson_89 ?_
      refine g_aload_n dX4_addPerson_92 rfl rfl ?_
      refine g_geti fl_RX4_53 hpr0 (by decide) dX4_addPerson_93 ?_
      refine g_bipush dX4_addPerson_96 (by decide) ?_
      refine g_imul dX4_addPerson_98 ?_
      refine g_iload dX4_addPerson_99 rfl ?_
      refine g_iadd dX4_addPerson_101 ?_
      refine g_aload_n dX4_addPerson_102 rfl rfl ?_
      refine g_geti fl_RX4_62 hpr0 (by decide) dX4_addPerson_103 ?_
      refine g_iast (kp7 hpr0) dX4_addPerson_106 ?_
      intro s6
      refine g_aload_n dX4_addPerson_107 rfl rfl ?_
      refine g_getr' (q := (pr0 + 9)) fl_RX4_37 hpr0 (by decide) (qp8 hpr0) dX4_addPerson_108 ?_
      refine g_aload_n dX4_addPerson_111 rfl rfl ?_
      refine g_geti fl_RX4_53 hpr0 (by decide) dX4_addPerson_112 ?_
      refine g_bipush dX4_addPerson_115 (by decide) ?_
      refine g_imul dX4_addPerson_117 ?_
      refine g_iload dX4_addPerson_118 rfl ?_
      refine g_iadd dX4_addPerson_120 ?_
      refine g_aload_n dX4_addPerson_121 rfl rfl ?_
      refine g_geti fl_RX4_62 hpr0 (by decide) dX4_addPerson_122 ?_
      refine g_iast (kp8 hpr0) dX4_addPerson_125 ?_
      intro s7
      refine n_iinc (fun x8 => [some (.inr (.inr pr0)), none, none, none, none, none, some (.inl x8)]) dX4_addPerson_126 rfl (Nat.le_of_ble_eq_true rfl) (fun _ => rfl) ?_
      intro x8
      refine g_goto (tgt := 81) dX4_addPerson_129 (by decide) ?_
      exact (ih x8 s7)
    · refine g_aload_n dX4_addPerson_132 rfl rfl ?_
      refine g_dup dX4_addPerson_133 rfl ?_
      refine g_geti fl_RX4_53 hpr0 (by decide) dX4_addPerson_134 ?_
      refine g_iconst dX4_addPerson_137 (by decide) ?_
      refine g_iadd dX4_addPerson_138 ?_
      refine g_puti fl_RX4_53 hpr0 (by decide) dX4_addPerson_139 ?_
      intro s9
      exact g_vret dX4_addPerson_142
def Pr_addPerson (pr0 : Nat) (a1 : Int) (a3 : Int) (a4 : Int) (a5 : Int) (σ : Sg) : Rs := (if (σ pr0 11) < 6 then (wr 14 (w32 (8 + (σ pr0 11))) (up_s σ (pr0 + 1) (Int.toNat (w32 (8 + (σ pr0 11)))) a1) (fun s1 => (wr 6 (s1 pr0 11) (up_s s1 (pr0 + 5) (Int.toNat (s1 pr0 11)) a3) (fun s2 => (wr 6 (s2 pr0 11) (up_s s2 (pr0 + 6) (Int.toNat (s2 pr0 11)) a5) (fun s3 => (wr 6 (s3 pr0 11) (up_s s3 (pr0 + 7) (Int.toNat (s3 pr0 11)) a5) (fun s4 => (if a4 = 0 then (nm (up_s s4 pr0 17 (or32 (s4 pr0 17) 0)) (fun s5 => (Pr_addPerson_L81 pr0 fu 0 s5))) else (nm (up_s s4 pr0 17 (or32 (s4 pr0 17) (sl32 1 (s4 pr0 11)))) (fun s10 => (Pr_addPerson_L81 pr0 fu 0 s10)))))))))))) else (some (0, σ)))
theorem ok_Pr_addPerson (pr0 : Nat) (a1 : Int) (a3 : Int) (a4 : Int) (a5 : Int) (hpr0 : Kh[pr0]? = some (.inl 4)) (σ : Sg) : MC l Kh Ph yX4_addPerson cX4_addPerson 7 2 1 [.inr (.inr pr0), .inr (.inl a1), .inl a3, .inl a4, .inl a5] σ (Pr_addPerson pr0 a1 a3 a4 a5 σ) := by
  refine mc_of (by decide) (Nat.le_of_ble_eq_true rfl) ?_
  change G l Kh Ph RX4 cX4_addPerson 7 2 1 0 [some (.inr (.inr pr0)), some (.inr (.inl a1)), none, some (.inl a3), some (.inl a4), some (.inl a5), none] [] σ (Pr_addPerson pr0 a1 a3 a4 a5 σ)
  unfold Pr_addPerson
  refine g_aload_n dX4_addPerson_0 rfl rfl ?_
  refine g_geti fl_RX4_53 hpr0 (by decide) dX4_addPerson_1 ?_
  refine g_bipush dX4_addPerson_4 (by decide) ?_
  refine g_icmpge (tgt := 142) dX4_addPerson_6 (by decide) ?_ ?_
  · refine g_aload_n dX4_addPerson_9 rfl rfl ?_
    refine g_getr' (q := (pr0 + 1)) fl_RX4_9 hpr0 (by decide) (qp0 hpr0) dX4_addPerson_10 ?_
    refine g_bipush dX4_addPerson_13 (by decide) ?_
    refine g_aload_n dX4_addPerson_15 rfl rfl ?_
    refine g_geti fl_RX4_53 hpr0 (by decide) dX4_addPerson_16 ?_
    refine g_iadd dX4_addPerson_19 ?_
    refine g_lload_n dX4_addPerson_20 rfl rfl ?_
    refine g_last (kp0 hpr0) dX4_addPerson_21 ?_
    intro s1
    refine g_aload_n dX4_addPerson_22 rfl rfl ?_
    refine g_getr' (q := (pr0 + 5)) fl_RX4_25 hpr0 (by decide) (qp4 hpr0) dX4_addPerson_23 ?_
    refine g_aload_n dX4_addPerson_26 rfl rfl ?_
    refine g_geti fl_RX4_53 hpr0 (by decide) dX4_addPerson_27 ?_
    refine g_iload_n dX4_addPerson_30 rfl rfl ?_
    refine g_iast (kp4 hpr0) dX4_addPerson_31 ?_
    intro s2
    refine g_aload_n dX4_addPerson_32 rfl rfl ?_
    refine g_getr' (q := (pr0 + 6)) fl_RX4_28 hpr0 (by decide) (qp5 hpr0) dX4_addPerson_33 ?_
    refine g_aload_n dX4_addPerson_36 rfl rfl ?_
    refine g_geti fl_RX4_53 hpr0 (by decide) dX4_addPerson_37 ?_
    refine g_iload dX4_addPerson_40 rfl ?_
    refine g_iast (kp5 hpr0) dX4_addPerson_42 ?_
    intro s3
    refine g_aload_n dX4_addPerson_43 rfl rfl ?_
    refine g_getr' (q := (pr0 + 7)) fl_RX4_31 hpr0 (by decide) (qp6 hpr0) dX4_addPerson_44 ?_
    refine g_aload_n dX4_addPerson_47 rfl rfl ?_
    refine g_geti fl_RX4_53 hpr0 (by decide) dX4_addPerson_48 ?_
    refine g_iload dX4_addPerson_51 rfl ?_
    refine g_iast (kp6 hpr0) dX4_addPerson_53 ?_
    intro s4
    refine g_aload_n dX4_addPerson_54 rfl rfl ?_
    refine g_dup dX4_addPerson_55 rfl ?_
    refine g_geti fl_RX4_65 hpr0 (by decide) dX4_addPerson_56 ?_
    refine g_iload dX4_addPerson_59 rfl ?_
    refine g_ifeq (tgt := 73) dX4_addPerson_61 (by decide) ?_ ?_
    · refine g_iconst dX4_addPerson_73 (by decide) ?_
      refine g_ior dX4_addPerson_74 ?_
      refine g_puti fl_RX4_65 hpr0 (by decide) dX4_addPerson_75 ?_
      intro s5
      refine g_iconst dX4_addPerson_78 (by decide) ?_
      refine g_istore (lv' := [some (.inr (.inr pr0)), some (.inr (.inl a1)), none, some (.inl a3), some (.inl a4), some (.inl a5), some (.inl 0)]) dX4_addPerson_79 (Nat.le_of_ble_eq_true rfl) rfl ?_
      refine (g_weak [true, false, false, false, false, false, true] (ok_Pr_addPerson_L81 pr0 hpr0 fu 0 s5))
    · refine g_iconst dX4_addPerson_64 (by decide) ?_
      refine g_aload_n dX4_addPerson_65 rfl rfl ?_
      refine g_geti fl_RX4_53 hpr0 (by decide) dX4_addPerson_66 ?_
      refine g_ishl dX4_addPerson_69 ?_
      refine g_goto (tgt := 74) dX4_addPerson_70 (by decide) ?_
      refine g_ior dX4_addPerson_74 ?_
      refine g_puti fl_RX4_65 hpr0 (by decide) dX4_addPerson_75 ?_
      intro s10
      refine g_iconst dX4_addPerson_78 (by decide) ?_
      refine g_istore (lv' := [some (.inr (.inr pr0)), some (.inr (.inl a1)), none, some (.inl a3), some (.inl a4), some (.inl a5), some (.inl 0)]) dX4_addPerson_79 (Nat.le_of_ble_eq_true rfl) rfl ?_
      refine (g_weak [true, false, false, false, false, false, true] (ok_Pr_addPerson_L81 pr0 hpr0 fu 0 s10))
  · exact g_vret dX4_addPerson_142
theorem dX7_isSignNext_0 : decode cX7_isSignNext 0 = .ok (.aload_n 0, 1) := by decide +kernel
theorem dX7_isSignNext_1 : decode cX7_isSignNext 1 = .ok (.getfield 115, 3) := by decide +kernel
theorem dX7_isSignNext_4 : decode cX7_isSignNext 4 = .ok (.bipush 6, 2) := by decide +kernel
theorem dX7_isSignNext_6 : decode cX7_isSignNext 6 = .ok (.if_icmp .ne 17, 3) := by decide +kernel
theorem dX7_isSignNext_9 : decode cX7_isSignNext 9 = .ok (.aload_n 0, 1) := by decide +kernel
theorem dX7_isSignNext_10 : decode cX7_isSignNext 10 = .ok (.getfield 108, 3) := by decide +kernel
theorem dX7_isSignNext_13 : decode cX7_isSignNext 13 = .ok (.iload_n 1, 1) := by decide +kernel
theorem dX7_isSignNext_14 : decode cX7_isSignNext 14 = .ok (.i2l, 1) := by decide +kernel
theorem dX7_isSignNext_15 : decode cX7_isSignNext 15 = .ok (.lcmp, 1) := by decide +kernel
theorem dX7_isSignNext_16 : decode cX7_isSignNext 16 = .ok (.ifCond .ne 7, 3) := by decide +kernel
theorem dX7_isSignNext_19 : decode cX7_isSignNext 19 = .ok (.iconst 1, 1) := by decide +kernel
theorem dX7_isSignNext_20 : decode cX7_isSignNext 20 = .ok (.goto 4, 3) := by decide +kernel
theorem dX7_isSignNext_23 : decode cX7_isSignNext 23 = .ok (.iconst 0, 1) := by decide +kernel
theorem dX7_isSignNext_24 : decode cX7_isSignNext 24 = .ok (.ireturn, 1) := by decide +kernel
theorem mw_X7_isSignNext : MW yX7_isSignNext cX7_isSignNext 2 3 1 false := ⟨tm 913 (by decide +kernel) rfl, tm 237 (by decide +kernel) rfl, by decide, by decide, (by rw [if_neg (by decide)]; exact ⟨tm 912 (by decide +kernel) rfl, tm 35 (by decide +kernel) rfl⟩)⟩
def To_isSignNext (a1 : Int) (σ : Sg) : Rs := (if (σ 5 6) = 6 then (if (σ 5 8) = a1 then (some (1, σ)) else (some (0, σ))) else (some (0, σ)))
theorem ok_To_isSignNext (a1 : Int) (σ : Sg) : MC l Kh Ph yX7_isSignNext cX7_isSignNext 2 3 1 [.inr (.inr 5), .inl a1] σ (To_isSignNext a1 σ) := by
  refine mc_of (by decide) (Nat.le_of_ble_eq_true rfl) ?_
  change G l Kh Ph RX7 cX7_isSignNext 2 3 1 0 [some (.inr (.inr 5)), some (.inl a1)] [] σ (To_isSignNext a1 σ)
  unfold To_isSignNext
  refine g_aload_n dX7_isSignNext_0 rfl rfl ?_
  refine g_geti fl_RX7_115 kh_5 (by decide) dX7_isSignNext_1 ?_
  refine g_bipush dX7_isSignNext_4 (by decide) ?_
  refine g_icmpne (tgt := 23) dX7_isSignNext_6 (by decide) ?_ ?_
  · refine g_aload_n dX7_isSignNext_9 rfl rfl ?_
    refine g_getl fl_RX7_108 kh_5 (by decide) dX7_isSignNext_10 ?_
    refine g_iload_n dX7_isSignNext_13 rfl rfl ?_
    refine g_i2l dX7_isSignNext_14 ?_
    refine g_lcmpne (tgt := 23) dX7_isSignNext_15 dX7_isSignNext_16 (by decide) ?_ ?_
    · refine g_iconst dX7_isSignNext_19 (by decide) ?_
      refine g_goto (tgt := 24) dX7_isSignNext_20 (by decide) ?_
      exact g_zret1 dX7_isSignNext_24
    · refine g_iconst dX7_isSignNext_23 (by decide) ?_
      exact g_zret0 dX7_isSignNext_24
  · refine g_iconst dX7_isSignNext_23 (by decide) ?_
    exact g_zret0 dX7_isSignNext_24
theorem dX7_keyNext_0 : decode cX7_keyNext 0 = .ok (.aload_n 0, 1) := by decide +kernel
theorem dX7_keyNext_1 : decode cX7_keyNext 1 = .ok (.getfield 115, 3) := by decide +kernel
theorem dX7_keyNext_4 : decode cX7_keyNext 4 = .ok (.iconst 2, 1) := by decide +kernel
theorem dX7_keyNext_5 : decode cX7_keyNext 5 = .ok (.if_icmp .ne 11, 3) := by decide +kernel
theorem dX7_keyNext_8 : decode cX7_keyNext 8 = .ok (.aload_n 0, 1) := by decide +kernel
theorem dX7_keyNext_9 : decode cX7_keyNext 9 = .ok (.getfield 108, 3) := by decide +kernel
theorem dX7_keyNext_12 : decode cX7_keyNext 12 = .ok (.l2i, 1) := by decide +kernel
theorem dX7_keyNext_13 : decode cX7_keyNext 13 = .ok (.goto 4, 3) := by decide +kernel
theorem dX7_keyNext_16 : decode cX7_keyNext 16 = .ok (.iconst (-1), 1) := by decide +kernel
theorem dX7_keyNext_17 : decode cX7_keyNext 17 = .ok (.ireturn, 1) := by decide +kernel
theorem mw_X7_keyNext : MW yX7_keyNext cX7_keyNext 1 0 0 false := ⟨tm 855 (by decide +kernel) rfl, tm 237 (by decide +kernel) rfl, by decide, by decide, (by rw [if_neg (by decide)]; exact ⟨tm 854 (by decide +kernel) rfl, tm 26 (by decide +kernel) rfl⟩)⟩
def To_keyNext  (σ : Sg) : Rs := (if (σ 5 6) = 2 then (some ((w32 (σ 5 8)), σ)) else (some ((-1), σ)))
theorem ok_To_keyNext (σ : Sg) : MC l Kh Ph yX7_keyNext cX7_keyNext 1 0 1 [.inr (.inr 5)] σ (To_keyNext σ) := by
  refine mc_of (by decide) (Nat.le_of_ble_eq_true rfl) ?_
  change G l Kh Ph RX7 cX7_keyNext 1 0 1 0 [some (.inr (.inr 5))] [] σ (To_keyNext  σ)
  unfold To_keyNext
  refine g_aload_n dX7_keyNext_0 rfl rfl ?_
  refine g_geti fl_RX7_115 kh_5 (by decide) dX7_keyNext_1 ?_
  refine g_iconst dX7_keyNext_4 (by decide) ?_
  refine g_icmpne (tgt := 16) dX7_keyNext_5 (by decide) ?_ ?_
  · refine g_aload_n dX7_keyNext_8 rfl rfl ?_
    refine g_getl fl_RX7_108 kh_5 (by decide) dX7_keyNext_9 ?_
    refine g_l2i dX7_keyNext_12 ?_
    refine g_goto (tgt := 17) dX7_keyNext_13 (by decide) ?_
    exact g_iret dX7_keyNext_17
  · refine g_iconst dX7_keyNext_16 (by decide) ?_
    exact g_iret dX7_keyNext_17
end WK
