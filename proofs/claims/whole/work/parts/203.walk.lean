section WK
variable {l : Launch}
theorem dX0_best_0 : decode cX0_best 0 = .ok (.iload_n 2, 1) := by decide +kernel
theorem dX0_best_1 : decode cX0_best 1 = .ok (.iconst 2, 1) := by decide +kernel
theorem dX0_best_2 : decode cX0_best 2 = .ok (.imul, 1) := by decide +kernel
theorem dX0_best_3 : decode cX0_best 3 = .ok (.istore 4, 2) := by decide +kernel
theorem dX0_best_5 : decode cX0_best 5 = .ok (.iload_n 2, 1) := by decide +kernel
theorem dX0_best_6 : decode cX0_best 6 = .ok (.iload_n 3, 1) := by decide +kernel
theorem dX0_best_7 : decode cX0_best 7 = .ok (.if_icmp .ge 8, 3) := by decide +kernel
theorem dX0_best_10 : decode cX0_best 10 = .ok (.iload_n 2, 1) := by decide +kernel
theorem dX0_best_11 : decode cX0_best 11 = .ok (.iconst 3, 1) := by decide +kernel
theorem dX0_best_12 : decode cX0_best 12 = .ok (.if_icmp .lt 19, 3) := by decide +kernel
theorem dX0_best_15 : decode cX0_best 15 = .ok (.aload_n 0, 1) := by decide +kernel
theorem dX0_best_16 : decode cX0_best 16 = .ok (.aload_n 1, 1) := by decide +kernel
theorem dX0_best_17 : decode cX0_best 17 = .ok (.iload_n 2, 1) := by decide +kernel
theorem dX0_best_18 : decode cX0_best 18 = .ok (.iconst 1, 1) := by decide +kernel
theorem dX0_best_19 : decode cX0_best 19 = .ok (.invokevirtual 52, 3) := by decide +kernel
theorem dX0_best_22 : decode cX0_best 22 = .ok (.aload_n 0, 1) := by decide +kernel
theorem dX0_best_23 : decode cX0_best 23 = .ok (.aload_n 1, 1) := by decide +kernel
theorem dX0_best_24 : decode cX0_best 24 = .ok (.iload_n 2, 1) := by decide +kernel
theorem dX0_best_25 : decode cX0_best 25 = .ok (.iconst 0, 1) := by decide +kernel
theorem dX0_best_26 : decode cX0_best 26 = .ok (.invokevirtual 52, 3) := by decide +kernel
theorem dX0_best_29 : decode cX0_best 29 = .ok (.isub, 1) := by decide +kernel
theorem dX0_best_30 : decode cX0_best 30 = .ok (.ireturn, 1) := by decide +kernel
theorem dX0_best_31 : decode cX0_best 31 = .ok (.iload_n 2, 1) := by decide +kernel
theorem dX0_best_32 : decode cX0_best 32 = .ok (.iconst 2, 1) := by decide +kernel
theorem dX0_best_33 : decode cX0_best 33 = .ok (.irem, 1) := by decide +kernel
theorem dX0_best_34 : decode cX0_best 34 = .ok (.istore 5, 2) := by decide +kernel
theorem dX0_best_36 : decode cX0_best 36 = .ok (.iconst 0, 1) := by decide +kernel
theorem dX0_best_37 : decode cX0_best 37 = .ok (.istore 6, 2) := by decide +kernel
theorem dX0_best_39 : decode cX0_best 39 = .ok (.iconst 0, 1) := by decide +kernel
theorem dX0_best_40 : decode cX0_best 40 = .ok (.istore 7, 2) := by decide +kernel
theorem dX0_best_42 : decode cX0_best 42 = .ok (.iconst 0, 1) := by decide +kernel
theorem dX0_best_43 : decode cX0_best 43 = .ok (.istore 8, 2) := by decide +kernel
theorem dX0_best_45 : decode cX0_best 45 = .ok (.iload 8, 2) := by decide +kernel
theorem dX0_best_47 : decode cX0_best 47 = .ok (.aload_n 1, 1) := by decide +kernel
theorem dX0_best_48 : decode cX0_best 48 = .ok (.getfield 56, 3) := by decide +kernel
theorem dX0_best_51 : decode cX0_best 51 = .ok (.if_icmp .gt 118, 3) := by decide +kernel
theorem dX0_best_54 : decode cX0_best 54 = .ok (.iload 8, 2) := by decide +kernel
theorem dX0_best_56 : decode cX0_best 56 = .ok (.aload_n 1, 1) := by decide +kernel
theorem dX0_best_57 : decode cX0_best 57 = .ok (.getfield 56, 3) := by decide +kernel
theorem dX0_best_60 : decode cX0_best 60 = .ok (.if_icmp .ge 27, 3) := by decide +kernel
theorem dX0_best_63 : decode cX0_best 63 = .ok (.aload_n 0, 1) := by decide +kernel
theorem dX0_best_64 : decode cX0_best 64 = .ok (.iload 4, 2) := by decide +kernel
theorem dX0_best_66 : decode cX0_best 66 = .ok (.iload 5, 2) := by decide +kernel
theorem dX0_best_68 : decode cX0_best 68 = .ok (.iadd, 1) := by decide +kernel
theorem dX0_best_69 : decode cX0_best 69 = .ok (.iload 4, 2) := by decide +kernel
theorem dX0_best_71 : decode cX0_best 71 = .ok (.iconst 1, 1) := by decide +kernel
theorem dX0_best_72 : decode cX0_best 72 = .ok (.iadd, 1) := by decide +kernel
theorem dX0_best_73 : decode cX0_best 73 = .ok (.iload 5, 2) := by decide +kernel
theorem dX0_best_75 : decode cX0_best 75 = .ok (.isub, 1) := by decide +kernel
theorem dX0_best_76 : decode cX0_best 76 = .ok (.iload 8, 2) := by decide +kernel
theorem dX0_best_78 : decode cX0_best 78 = .ok (.invokevirtual 59, 3) := by decide +kernel
theorem dX0_best_81 : decode cX0_best 81 = .ok (.ifCond .ne 6, 3) := by decide +kernel
theorem dX0_best_84 : decode cX0_best 84 = .ok (.goto 79, 3) := by decide +kernel
theorem dX0_best_87 : decode cX0_best 87 = .ok (.aload_n 0, 1) := by decide +kernel
theorem dX0_best_88 : decode cX0_best 88 = .ok (.aload_n 1, 1) := by decide +kernel
theorem dX0_best_89 : decode cX0_best 89 = .ok (.iload_n 2, 1) := by decide +kernel
theorem dX0_best_90 : decode cX0_best 90 = .ok (.iload 8, 2) := by decide +kernel
theorem dX0_best_92 : decode cX0_best 92 = .ok (.invokevirtual 63, 3) := by decide +kernel
theorem dX0_best_95 : decode cX0_best 95 = .ok (.aload_n 0, 1) := by decide +kernel
theorem dX0_best_96 : decode cX0_best 96 = .ok (.aload_n 1, 1) := by decide +kernel
theorem dX0_best_97 : decode cX0_best 97 = .ok (.iload_n 2, 1) := by decide +kernel
theorem dX0_best_98 : decode cX0_best 98 = .ok (.iconst 1, 1) := by decide +kernel
theorem dX0_best_99 : decode cX0_best 99 = .ok (.iadd, 1) := by decide +kernel
theorem dX0_best_100 : decode cX0_best 100 = .ok (.iload_n 3, 1) := by decide +kernel
theorem dX0_best_101 : decode cX0_best 101 = .ok (.invokestatic 38, 3) := by decide +kernel
theorem dX0_best_104 : decode cX0_best 104 = .ok (.istore 9, 2) := by decide +kernel
theorem dX0_best_106 : decode cX0_best 106 = .ok (.iload 7, 2) := by decide +kernel
theorem dX0_best_108 : decode cX0_best 108 = .ok (.ifCond .eq 25, 3) := by decide +kernel
theorem dX0_best_111 : decode cX0_best 111 = .ok (.iload 5, 2) := by decide +kernel
theorem dX0_best_113 : decode cX0_best 113 = .ok (.ifCond .ne 13, 3) := by decide +kernel
theorem dX0_best_116 : decode cX0_best 116 = .ok (.iload 9, 2) := by decide +kernel
theorem dX0_best_118 : decode cX0_best 118 = .ok (.iload 6, 2) := by decide +kernel
theorem dX0_best_120 : decode cX0_best 120 = .ok (.if_icmp .le 43, 3) := by decide +kernel
theorem dX0_best_123 : decode cX0_best 123 = .ok (.goto 10, 3) := by decide +kernel
theorem dX0_best_126 : decode cX0_best 126 = .ok (.iload 9, 2) := by decide +kernel
theorem dX0_best_128 : decode cX0_best 128 = .ok (.iload 6, 2) := by decide +kernel
theorem dX0_best_130 : decode cX0_best 130 = .ok (.if_icmp .ge 33, 3) := by decide +kernel
theorem dX0_best_133 : decode cX0_best 133 = .ok (.iconst 1, 1) := by decide +kernel
theorem dX0_best_134 : decode cX0_best 134 = .ok (.istore 7, 2) := by decide +kernel
theorem dX0_best_136 : decode cX0_best 136 = .ok (.iload 9, 2) := by decide +kernel
theorem dX0_best_138 : decode cX0_best 138 = .ok (.istore 6, 2) := by decide +kernel
theorem dX0_best_140 : decode cX0_best 140 = .ok (.iload_n 2, 1) := by decide +kernel
theorem dX0_best_141 : decode cX0_best 141 = .ok (.ifCond .ne 22, 3) := by decide +kernel
theorem dX0_best_144 : decode cX0_best 144 = .ok (.aload_n 0, 1) := by decide +kernel
theorem dX0_best_145 : decode cX0_best 145 = .ok (.iload 8, 2) := by decide +kernel
theorem dX0_best_147 : decode cX0_best 147 = .ok (.aload_n 1, 1) := by decide +kernel
theorem dX0_best_148 : decode cX0_best 148 = .ok (.getfield 56, 3) := by decide +kernel
theorem dX0_best_151 : decode cX0_best 151 = .ok (.if_icmp .ge 8, 3) := by decide +kernel
theorem dX0_best_154 : decode cX0_best 154 = .ok (.iload 8, 2) := by decide +kernel
theorem dX0_best_156 : decode cX0_best 156 = .ok (.goto 4, 3) := by decide +kernel
theorem dX0_best_159 : decode cX0_best 159 = .ok (.iconst (-1), 1) := by decide +kernel
theorem dX0_best_160 : decode cX0_best 160 = .ok (.putfield 24, 3) := by decide +kernel
theorem dX0_best_163 : decode cX0_best 163 = .ok (.iinc 8 1, 3) := by decide +kernel
theorem dX0_best_166 : decode cX0_best 166 = .ok (.goto (-121), 3) := by decide +kernel
theorem dX0_best_169 : decode cX0_best 169 = .ok (.iload 6, 2) := by decide +kernel
theorem dX0_best_171 : decode cX0_best 171 = .ok (.ireturn, 1) := by decide +kernel
theorem mw_X0_best : MW yX0_best cX0_best 10 0 4 true := ⟨tm 1441 (by decide +kernel) rfl, tm 248 (by decide +kernel) rfl, by decide, by decide, (by rw [if_pos rfl]; exact tm 1440 (by decide +kernel) rfl)⟩
theorem lk_RX0_38 : LK RX0 38 yX0_best := Or.inl (tm 1439 (by decide +kernel) rfl)
theorem lk_RX0_52 : LK RX0 52 yX0_hairAt := Or.inl (tm 1442 (by decide +kernel) rfl)
theorem lk_RX0_59 : LK RX0 59 yX0_canSay := Or.inl (tm 1447 (by decide +kernel) rfl)
theorem lk_RX0_63 : LK RX0 63 yX0_turn := Or.inl (tm 1451 (by decide +kernel) rfl)
theorem fl_RX0_24 : FL RX0 24 0 4 := ⟨_, _, _, _, cw_0, by decide, Or.inl (by decide), Or.inr (by decide), Or.inl (tm 609 (by decide +kernel) rfl)⟩
def Du_best_J133 (rc : Nat → Int → Int → Sg → Rs) (pr1 : Nat) (a2 : Int) (a3 : Int) (v4 : Int) (v5 : Int) (v8 : Int) (v9 : Int) (k45 : Int → Int → Int → Sg → Rs) (σ : Sg) : Rs := (if a2 = 0 then (if v8 < (σ pr1 10) then (nm (up_s σ 108 4 v8) (fun s10 => (nm (w32 (v8 + 1)) (fun x11 => (k45 v9 1 x11 s10))))) else (nm (up_s σ 108 4 (-1)) (fun s12 => (nm (w32 (v8 + 1)) (fun x13 => (k45 v9 1 x13 s12)))))) else (nm (w32 (v8 + 1)) (fun x14 => (k45 v9 1 x14 σ))))
theorem ok_Du_best_J133 (rc : Nat → Int → Int → Sg → Rs) (dr dd : Nat) (hrc : ∀ (pr1 : Nat) (a2 : Int) (a3 : Int) (hpr1 : Kh[pr1]? = some (.inl 4)) (σ : Sg), MC l Kh Ph yX0_best cX0_best 10 0 dr [.inr (.inr 108), .inr (.inr pr1), .inl a2, .inl a3] σ (rc pr1 a2 a3 σ)) (hd : dr < dd) (hB : 3 ≤ dd) (pr1 : Nat) (a2 : Int) (a3 : Int) (v4 : Int) (v5 : Int) (v8 : Int) (v9 : Int) (hpr1 : Kh[pr1]? = some (.inl 4)) (k45 : Int → Int → Int → Sg → Rs) (hk45 : ∀ (y6 y7 y8 : Int) (σ : Sg), G l Kh Ph RX0 cX0_best 10 0 dd 45 [some (.inr (.inr 108)), some (.inr (.inr pr1)), some (.inl a2), some (.inl a3), some (.inl v4), some (.inl v5), some (.inl y6), some (.inl y7), some (.inl y8), none] [] σ (k45 y6 y7 y8 σ)) : ∀ (σ : Sg), G l Kh Ph RX0 cX0_best 10 0 dd 133 [some (.inr (.inr 108)), some (.inr (.inr pr1)), some (.inl a2), some (.inl a3), some (.inl v4), some (.inl v5), none, none, some (.inl v8), some (.inl v9)] [] σ (Du_best_J133 rc pr1 a2 a3 v4 v5 v8 v9 k45  σ) := by
  intro σ
  unfold Du_best_J133
  refine g_iconst dX0_best_133 (by decide) ?_
  refine g_istore (lv' := [some (.inr (.inr 108)), some (.inr (.inr pr1)), some (.inl a2), some (.inl a3), some (.inl v4), some (.inl v5), none, some (.inl 1), some (.inl v8), some (.inl v9)]) dX0_best_134 (Nat.le_of_ble_eq_true rfl) rfl ?_
  refine g_iload dX0_best_136 rfl ?_
  refine g_istore (lv' := [some (.inr (.inr 108)), some (.inr (.inr pr1)), some (.inl a2), some (.inl a3), some (.inl v4), some (.inl v5), some (.inl v9), some (.inl 1), some (.inl v8), some (.inl v9)]) dX0_best_138 (Nat.le_of_ble_eq_true rfl) rfl ?_
  refine g_iload_n dX0_best_140 rfl rfl ?_
  refine g_ifne (tgt := 163) dX0_best_141 (by decide) ?_ ?_
  · refine g_aload_n dX0_best_144 rfl rfl ?_
    refine g_iload dX0_best_145 rfl ?_
    refine g_aload_n dX0_best_147 rfl rfl ?_
    refine g_geti fl_RX0_56 hpr1 (by decide) dX0_best_148 ?_
    refine g_icmpge (tgt := 159) dX0_best_151 (by decide) ?_ ?_
    · refine g_iload dX0_best_154 rfl ?_
      refine g_goto (tgt := 160) dX0_best_156 (by decide) ?_
      refine g_puti fl_RX0_24 kh_108 (by decide) dX0_best_160 ?_
      intro s10
      refine n_iinc (fun x11 => [some (.inr (.inr 108)), some (.inr (.inr pr1)), some (.inl a2), some (.inl a3), some (.inl v4), some (.inl v5), some (.inl v9), some (.inl 1), some (.inl x11), some (.inl v9)]) dX0_best_163 rfl (Nat.le_of_ble_eq_true rfl) (fun _ => rfl) ?_
      intro x11
      refine g_goto (tgt := 45) dX0_best_166 (by decide) ?_
      exact (g_weak [true, true, true, true, true, true, true, true, true, false] (hk45 v9 1 x11 s10))
    · refine g_iconst dX0_best_159 (by decide) ?_
      refine g_puti fl_RX0_24 kh_108 (by decide) dX0_best_160 ?_
      intro s12
      refine n_iinc (fun x13 => [some (.inr (.inr 108)), some (.inr (.inr pr1)), some (.inl a2), some (.inl a3), some (.inl v4), some (.inl v5), some (.inl v9), some (.inl 1), some (.inl x13), some (.inl v9)]) dX0_best_163 rfl (Nat.le_of_ble_eq_true rfl) (fun _ => rfl) ?_
      intro x13
      refine g_goto (tgt := 45) dX0_best_166 (by decide) ?_
      exact (g_weak [true, true, true, true, true, true, true, true, true, false] (hk45 v9 1 x13 s12))
  · refine n_iinc (fun x14 => [some (.inr (.inr 108)), some (.inr (.inr pr1)), some (.inl a2), some (.inl a3), some (.inl v4), some (.inl v5), some (.inl v9), some (.inl 1), some (.inl x14), some (.inl v9)]) dX0_best_163 rfl (Nat.le_of_ble_eq_true rfl) (fun _ => rfl) ?_
    intro x14
    refine g_goto (tgt := 45) dX0_best_166 (by decide) ?_
    exact (g_weak [true, true, true, true, true, true, true, true, true, false] (hk45 v9 1 x14 σ))
def Du_best_J87 (rc : Nat → Int → Int → Sg → Rs) (pr1 : Nat) (a2 : Int) (a3 : Int) (v4 : Int) (v5 : Int) (v6 : Int) (v7 : Int) (v8 : Int) (k45 : Int → Int → Int → Sg → Rs) (σ : Sg) : Rs := (bd (Du_turn pr1 a2 v8 σ) (fun r6 s7 => (bd (rc pr1 (w32 (a2 + 1)) a3 s7) (fun r8 s9 => (if v7 = 0 then (Du_best_J133 rc pr1 a2 a3 v4 v5 v8 r8 (fun x15 x16 x17 s18 => (k45 x15 x16 x17 s18)) s9) else (if v5 = 0 then (if v6 < r8 then (Du_best_J133 rc pr1 a2 a3 v4 v5 v8 r8 (fun x19 x20 x21 s22 => (k45 x19 x20 x21 s22)) s9) else (nm (w32 (v8 + 1)) (fun x23 => (k45 v6 v7 x23 s9)))) else (if r8 < v6 then (Du_best_J133 rc pr1 a2 a3 v4 v5 v8 r8 (fun x24 x25 x26 s27 => (k45 x24 x25 x26 s27)) s9) else (nm (w32 (v8 + 1)) (fun x28 => (k45 v6 v7 x28 s9))))))))))
theorem ok_Du_best_J87 (rc : Nat → Int → Int → Sg → Rs) (dr dd : Nat) (hrc : ∀ (pr1 : Nat) (a2 : Int) (a3 : Int) (hpr1 : Kh[pr1]? = some (.inl 4)) (σ : Sg), MC l Kh Ph yX0_best cX0_best 10 0 dr [.inr (.inr 108), .inr (.inr pr1), .inl a2, .inl a3] σ (rc pr1 a2 a3 σ)) (hd : dr < dd) (hB : 3 ≤ dd) (pr1 : Nat) (a2 : Int) (a3 : Int) (v4 : Int) (v5 : Int) (v6 : Int) (v7 : Int) (v8 : Int) (hpr1 : Kh[pr1]? = some (.inl 4)) (k45 : Int → Int → Int → Sg → Rs) (hk45 : ∀ (y6 y7 y8 : Int) (σ : Sg), G l Kh Ph RX0 cX0_best 10 0 dd 45 [some (.inr (.inr 108)), some (.inr (.inr pr1)), some (.inl a2), some (.inl a3), some (.inl v4), some (.inl v5), some (.inl y6), some (.inl y7), some (.inl y8), none] [] σ (k45 y6 y7 y8 σ)) : ∀ (σ : Sg), G l Kh Ph RX0 cX0_best 10 0 dd 87 [some (.inr (.inr 108)), some (.inr (.inr pr1)), some (.inl a2), some (.inl a3), some (.inl v4), some (.inl v5), some (.inl v6), some (.inl v7), some (.inl v8), none] [] σ (Du_best_J87 rc pr1 a2 a3 v4 v5 v6 v7 v8 k45  σ) := by
  intro σ
  unfold Du_best_J87
  refine g_aload_n dX0_best_87 rfl rfl ?_
  refine g_aload_n dX0_best_88 rfl rfl ?_
  refine g_iload_n dX0_best_89 rfl rfl ?_
  refine g_iload dX0_best_90 rfl ?_
  refine g_callv2 (st := []) 0 mw_X0_turn lk_RX0_63 rfl kh_108 (ok_Du_turn pr1 a2 v8 hpr1 σ) (Nat.lt_of_lt_of_le (Nat.le_of_ble_eq_true rfl) hB) rfl rfl (Nat.le_of_ble_eq_true rfl) dX0_best_92 ?_
  intro r6 s7
  refine g_aload_n dX0_best_95 rfl rfl ?_
  refine g_aload_n dX0_best_96 rfl rfl ?_
  refine g_iload_n dX0_best_97 rfl rfl ?_
  refine g_iconst dX0_best_98 (by decide) ?_
  refine g_iadd dX0_best_99 ?_
  refine g_iload_n dX0_best_100 rfl rfl ?_
  refine g_calls0 (st := []) mw_X0_best lk_RX0_38 (hrc pr1 (w32 (a2 + 1)) a3 hpr1 s7) hd rfl rfl (Nat.le_of_ble_eq_true rfl) dX0_best_101 ?_
  intro r8 s9
  refine g_istore (lv' := [some (.inr (.inr 108)), some (.inr (.inr pr1)), some (.inl a2), some (.inl a3), some (.inl v4), some (.inl v5), some (.inl v6), some (.inl v7), some (.inl v8), some (.inl r8)]) dX0_best_104 (Nat.le_of_ble_eq_true rfl) rfl ?_
  refine g_iload dX0_best_106 rfl ?_
  refine g_ifeq (tgt := 133) dX0_best_108 (by decide) ?_ ?_
  · refine (g_weak [true, true, true, true, true, true, false, false, true, true] (ok_Du_best_J133 rc dr dd hrc hd hB pr1 a2 a3 v4 v5 v8 r8 hpr1 _ ?_ s9))
    · intro x15 x16 x17 s18
      exact (hk45 x15 x16 x17 s18)
  · refine g_iload dX0_best_111 rfl ?_
    refine g_ifne (tgt := 126) dX0_best_113 (by decide) ?_ ?_
    · refine g_iload dX0_best_116 rfl ?_
      refine g_iload dX0_best_118 rfl ?_
      refine g_icmple (tgt := 163) dX0_best_120 (by decide) ?_ ?_
      · refine g_goto (tgt := 133) dX0_best_123 (by decide) ?_
        refine (g_weak [true, true, true, true, true, true, false, false, true, true] (ok_Du_best_J133 rc dr dd hrc hd hB pr1 a2 a3 v4 v5 v8 r8 hpr1 _ ?_ s9))
        · intro x19 x20 x21 s22
          exact (hk45 x19 x20 x21 s22)
      · refine n_iinc (fun x23 => [some (.inr (.inr 108)), some (.inr (.inr pr1)), some (.inl a2), some (.inl a3), some (.inl v4), some (.inl v5), some (.inl v6), some (.inl v7), some (.inl x23), some (.inl r8)]) dX0_best_163 rfl (Nat.le_of_ble_eq_true rfl) (fun _ => rfl) ?_
        intro x23
        refine g_goto (tgt := 45) dX0_best_166 (by decide) ?_
        exact (g_weak [true, true, true, true, true, true, true, true, true, false] (hk45 v6 v7 x23 s9))
    · refine g_iload dX0_best_126 rfl ?_
      refine g_iload dX0_best_128 rfl ?_
      refine g_icmpge (tgt := 163) dX0_best_130 (by decide) ?_ ?_
      · refine (g_weak [true, true, true, true, true, true, false, false, true, true] (ok_Du_best_J133 rc dr dd hrc hd hB pr1 a2 a3 v4 v5 v8 r8 hpr1 _ ?_ s9))
        · intro x24 x25 x26 s27
          exact (hk45 x24 x25 x26 s27)
      · refine n_iinc (fun x28 => [some (.inr (.inr 108)), some (.inr (.inr pr1)), some (.inl a2), some (.inl a3), some (.inl v4), some (.inl v5), some (.inl v6), some (.inl v7), some (.inl x28), some (.inl r8)]) dX0_best_163 rfl (Nat.le_of_ble_eq_true rfl) (fun _ => rfl) ?_
        intro x28
        refine g_goto (tgt := 45) dX0_best_166 (by decide) ?_
        exact (g_weak [true, true, true, true, true, true, true, true, true, false] (hk45 v6 v7 x28 s9))
def Du_best_L45 (rc : Nat → Int → Int → Sg → Rs) (pr1 : Nat) (a2 : Int) (a3 : Int) (v4 : Int) (v5 : Int) : Nat → Int → Int → Int → Sg → Rs
  | 0, _, _, _, _ => none
  | n + 1, v6, v7, v8, σ => (if (σ pr1 10) < v8 then (some (v6, σ)) else (if v8 < (σ pr1 10) then (bd (Du_canSay (w32 (v4 + v5)) (w32 ((w32 (v4 + 1)) - v5)) v8 σ) (fun r3 s4 => (if r3 = 0 then (nm (w32 (v8 + 1)) (fun x5 => (Du_best_L45 rc pr1 a2 a3 v4 v5 n v6 v7 x5 s4))) else (Du_best_J87 rc pr1 a2 a3 v4 v5 v6 v7 v8 (fun x29 x30 x31 s32 => (Du_best_L45 rc pr1 a2 a3 v4 v5 n x29 x30 x31 s32)) s4)))) else (Du_best_J87 rc pr1 a2 a3 v4 v5 v6 v7 v8 (fun x33 x34 x35 s36 => (Du_best_L45 rc pr1 a2 a3 v4 v5 n x33 x34 x35 s36)) σ)))
theorem ok_Du_best_L45 (rc : Nat → Int → Int → Sg → Rs) (dr dd : Nat) (hrc : ∀ (pr1 : Nat) (a2 : Int) (a3 : Int) (hpr1 : Kh[pr1]? = some (.inl 4)) (σ : Sg), MC l Kh Ph yX0_best cX0_best 10 0 dr [.inr (.inr 108), .inr (.inr pr1), .inl a2, .inl a3] σ (rc pr1 a2 a3 σ)) (hd : dr < dd) (hB : 3 ≤ dd) (pr1 : Nat) (a2 : Int) (a3 : Int) (v4 : Int) (v5 : Int) (hpr1 : Kh[pr1]? = some (.inl 4)) : ∀ (n : Nat) (v6 v7 v8 : Int) (σ : Sg), G l Kh Ph RX0 cX0_best 10 0 dd 45 [some (.inr (.inr 108)), some (.inr (.inr pr1)), some (.inl a2), some (.inl a3), some (.inl v4), some (.inl v5), some (.inl v6), some (.inl v7), some (.inl v8), none] [] σ (Du_best_L45 rc pr1 a2 a3 v4 v5 n v6 v7 v8 σ) := by
  intro n
  induction n with
  | zero => intros; exact G.none_
  | succ n ih =>
    intro v6 v7 v8 σ
    rw [Du_best_L45]
    refine g_iload dX0_best_45 rfl ?_
    refine g_aload_n dX0_best_47 rfl rfl ?_
    refine g_geti fl_RX0_56 hpr1 (by decide) dX0_best_48 ?_
    refine g_icmpgt (tgt := 169) dX0_best_51 (by decide) ?_ ?_
    · refine g_iload dX0_best_169 rfl ?_
      exact g_iret dX0_best_171
    · refine g_iload dX0_best_54 rfl ?_
      refine g_aload_n dX0_best_56 rfl rfl ?_
      refine g_geti fl_RX0_56 hpr1 (by decide) dX0_best_57 ?_
      refine g_icmpge (tgt := 87) dX0_best_60 (by decide) ?_ ?_
      · refine g_aload_n dX0_best_63 rfl rfl ?_
        refine g_iload dX0_best_64 rfl ?_
        refine g_iload dX0_best_66 rfl ?_
        refine g_iadd dX0_best_68 ?_
        refine g_iload dX0_best_69 rfl ?_
        refine g_iconst dX0_best_71 (by decide) ?_
        refine g_iadd dX0_best_72 ?_
        refine g_iload dX0_best_73 rfl ?_
        refine g_isub dX0_best_75 ?_
        refine g_iload dX0_best_76 rfl ?_
        refine g_callv3 (st := []) 0 mw_X0_canSay lk_RX0_59 rfl kh_108 (ok_Du_canSay (w32 (v4 + v5)) (w32 ((w32 (v4 + 1)) - v5)) v8 σ) (Nat.lt_of_lt_of_le (Nat.le_of_ble_eq_true rfl) hB) rfl rfl (Nat.le_of_ble_eq_true rfl) dX0_best_78 ?_
        intro r3 s4
        refine g_ifne (tgt := 87) dX0_best_81 (by decide) ?_ ?_
        · refine g_goto (tgt := 163) dX0_best_84 (by decide) ?_
          refine n_iinc (fun x5 => [some (.inr (.inr 108)), some (.inr (.inr pr1)), some (.inl a2), some (.inl a3), some (.inl v4), some (.inl v5), some (.inl v6), some (.inl v7), some (.inl x5), none]) dX0_best_163 rfl (Nat.le_of_ble_eq_true rfl) (fun _ => rfl) ?_
          intro x5
          refine g_goto (tgt := 45) dX0_best_166 (by decide) ?_
          exact (ih v6 v7 x5 s4)
        · refine (ok_Du_best_J87 rc dr dd hrc hd hB pr1 a2 a3 v4 v5 v6 v7 v8 hpr1 _ ?_ s4)
          · intro x29 x30 x31 s32
            exact (ih x29 x30 x31 s32)
      · refine (ok_Du_best_J87 rc dr dd hrc hd hB pr1 a2 a3 v4 v5 v6 v7 v8 hpr1 _ ?_ σ)
        · intro x33 x34 x35 s36
          exact (ih x33 x34 x35 s36)
def Du_best_J15 (rc : Nat → Int → Int → Sg → Rs) (pr1 : Nat) (a2 : Int) (σ : Sg) : Rs := (bd (Du_hairAt pr1 a2 1 σ) (fun r37 s38 => (bd (Du_hairAt pr1 a2 0 s38) (fun r39 s40 => (some ((w32 (r37 - r39)), s40))))))
theorem ok_Du_best_J15 (rc : Nat → Int → Int → Sg → Rs) (dr dd : Nat) (hrc : ∀ (pr1 : Nat) (a2 : Int) (a3 : Int) (hpr1 : Kh[pr1]? = some (.inl 4)) (σ : Sg), MC l Kh Ph yX0_best cX0_best 10 0 dr [.inr (.inr 108), .inr (.inr pr1), .inl a2, .inl a3] σ (rc pr1 a2 a3 σ)) (hd : dr < dd) (hB : 3 ≤ dd) (pr1 : Nat) (a2 : Int) (hpr1 : Kh[pr1]? = some (.inl 4)) : ∀ (σ : Sg), G l Kh Ph RX0 cX0_best 10 0 dd 15 [some (.inr (.inr 108)), some (.inr (.inr pr1)), some (.inl a2), none, none, none, none, none, none, none] [] σ (Du_best_J15 rc pr1 a2  σ) := by
  intro σ
  unfold Du_best_J15
  refine g_aload_n dX0_best_15 rfl rfl ?_
  refine g_aload_n dX0_best_16 rfl rfl ?_
  refine g_iload_n dX0_best_17 rfl rfl ?_
  refine g_iconst dX0_best_18 (by decide) ?_
  refine g_callv0 (st := []) 0 mw_X0_hairAt lk_RX0_52 rfl kh_108 (ok_Du_hairAt pr1 a2 1 hpr1 σ) (Nat.lt_of_lt_of_le (Nat.le_of_ble_eq_true rfl) hB) rfl rfl (Nat.le_of_ble_eq_true rfl) dX0_best_19 ?_
  intro r37 s38
  refine g_aload_n dX0_best_22 rfl rfl ?_
  refine g_aload_n dX0_best_23 rfl rfl ?_
  refine g_iload_n dX0_best_24 rfl rfl ?_
  refine g_iconst dX0_best_25 (by decide) ?_
  refine g_callv0 (st := [.inl r37]) 0 mw_X0_hairAt lk_RX0_52 rfl kh_108 (ok_Du_hairAt pr1 a2 0 hpr1 s38) (Nat.lt_of_lt_of_le (Nat.le_of_ble_eq_true rfl) hB) rfl rfl (Nat.le_of_ble_eq_true rfl) dX0_best_26 ?_
  intro r39 s40
  refine g_isub dX0_best_29 ?_
  exact g_iret dX0_best_30
def Du_best_B (rc : Nat → Int → Int → Sg → Rs) (pr1 : Nat) (a2 : Int) (a3 : Int) (σ : Sg) : Rs := (nm (w32 (a2 * 2)) (fun x1 => (if a2 < a3 then (if a2 < 3 then (dv 2 (rm32 a2 2) (fun x2 => (Du_best_L45 rc pr1 a2 a3 x1 x2 fu 0 0 0 σ))) else (Du_best_J15 rc pr1 a2 σ)) else (Du_best_J15 rc pr1 a2 σ))))
theorem ok_Du_best_B (rc : Nat → Int → Int → Sg → Rs) (dr dd : Nat) (hrc : ∀ (pr1 : Nat) (a2 : Int) (a3 : Int) (hpr1 : Kh[pr1]? = some (.inl 4)) (σ : Sg), MC l Kh Ph yX0_best cX0_best 10 0 dr [.inr (.inr 108), .inr (.inr pr1), .inl a2, .inl a3] σ (rc pr1 a2 a3 σ)) (hd : dr < dd) (hB : 3 ≤ dd) (pr1 : Nat) (a2 : Int) (a3 : Int) (hpr1 : Kh[pr1]? = some (.inl 4)) (σ : Sg) : MC l Kh Ph yX0_best cX0_best 10 0 dd [.inr (.inr 108), .inr (.inr pr1), .inl a2, .inl a3] σ (Du_best_B rc pr1 a2 a3 σ) := by
  refine mc_of (by decide) (Nat.le_of_ble_eq_true rfl) ?_
  change G l Kh Ph RX0 cX0_best 10 0 dd 0 [some (.inr (.inr 108)), some (.inr (.inr pr1)), some (.inl a2), some (.inl a3), none, none, none, none, none, none] [] σ (Du_best_B rc pr1 a2 a3 σ)
  unfold Du_best_B
  refine g_iload_n dX0_best_0 rfl rfl ?_
  refine g_iconst dX0_best_1 (by decide) ?_
  refine g_imul dX0_best_2 ?_
  refine n_istore (fun x1 => [some (.inr (.inr 108)), some (.inr (.inr pr1)), some (.inl a2), some (.inl a3), some (.inl x1), none, none, none, none, none]) dX0_best_3 (Nat.le_of_ble_eq_true rfl) (fun _ => rfl) ?_
  intro x1
  refine g_iload_n dX0_best_5 rfl rfl ?_
  refine g_iload_n dX0_best_6 rfl rfl ?_
  refine g_icmpge (tgt := 15) dX0_best_7 (by decide) ?_ ?_
  · refine g_iload_n dX0_best_10 rfl rfl ?_
    refine g_iconst dX0_best_11 (by decide) ?_
    refine g_icmplt (tgt := 31) dX0_best_12 (by decide) ?_ ?_
    · refine g_iload_n dX0_best_31 rfl rfl ?_
      refine g_iconst dX0_best_32 (by decide) ?_
      refine g_irem dX0_best_33 ?_
      intro x2
      refine g_istore (lv' := [some (.inr (.inr 108)), some (.inr (.inr pr1)), some (.inl a2), some (.inl a3), some (.inl x1), some (.inl x2), none, none, none, none]) dX0_best_34 (Nat.le_of_ble_eq_true rfl) rfl ?_
      refine g_iconst dX0_best_36 (by decide) ?_
      refine g_istore (lv' := [some (.inr (.inr 108)), some (.inr (.inr pr1)), some (.inl a2), some (.inl a3), some (.inl x1), some (.inl x2), some (.inl 0), none, none, none]) dX0_best_37 (Nat.le_of_ble_eq_true rfl) rfl ?_
      refine g_iconst dX0_best_39 (by decide) ?_
      refine g_istore (lv' := [some (.inr (.inr 108)), some (.inr (.inr pr1)), some (.inl a2), some (.inl a3), some (.inl x1), some (.inl x2), some (.inl 0), some (.inl 0), none, none]) dX0_best_40 (Nat.le_of_ble_eq_true rfl) rfl ?_
      refine g_iconst dX0_best_42 (by decide) ?_
      refine g_istore (lv' := [some (.inr (.inr 108)), some (.inr (.inr pr1)), some (.inl a2), some (.inl a3), some (.inl x1), some (.inl x2), some (.inl 0), some (.inl 0), some (.inl 0), none]) dX0_best_43 (Nat.le_of_ble_eq_true rfl) rfl ?_
      refine (ok_Du_best_L45 rc dr dd hrc hd hB pr1 a2 a3 x1 x2 hpr1 fu 0 0 0 σ)
    · refine (g_weak [true, true, true, false, false, false, false, false, false, false] (ok_Du_best_J15 rc dr dd hrc hd hB pr1 a2 hpr1 σ))
  · refine (g_weak [true, true, true, false, false, false, false, false, false, false] (ok_Du_best_J15 rc dr dd hrc hd hB pr1 a2 hpr1 σ))
def Du_best : Nat → Nat → Int → Int → Sg → Rs
  | 0 => fun _ _ _ _ => none
  | n + 1 => Du_best_B (Du_best n)
theorem ok_Du_best : ∀ (n : Nat) (pr1 : Nat) (a2 : Int) (a3 : Int) (hpr1 : Kh[pr1]? = some (.inl 4)) (σ : Sg), MC l Kh Ph yX0_best cX0_best 10 0 (n + 3) [.inr (.inr 108), .inr (.inr pr1), .inl a2, .inl a3] σ (Du_best n pr1 a2 a3 σ) := by
  intro n
  induction n with
  | zero => intros; exact mc_none
  | succ n ih =>
    intro pr1 a2 a3 hpr1 σ
    exact ok_Du_best_B (Du_best n) (n + 3) ((n + 1) + 3) ih (by omega) (by omega)  pr1 a2 a3 hpr1 σ
theorem dX0_seat_0 : decode cX0_seat 0 = .ok (.aload_n 0, 1) := by decide +kernel
theorem dX0_seat_1 : decode cX0_seat 1 = .ok (.getfield 11, 3) := by decide +kernel
theorem dX0_seat_4 : decode cX0_seat 4 = .ok (.iload_n 3, 1) := by decide +kernel
theorem dX0_seat_5 : decode cX0_seat 5 = .ok (.aload_n 1, 1) := by decide +kernel
theorem dX0_seat_6 : decode cX0_seat 6 = .ok (.getfield 42, 3) := by decide +kernel
theorem dX0_seat_9 : decode cX0_seat 9 = .ok (.iload_n 2, 1) := by decide +kernel
theorem dX0_seat_10 : decode cX0_seat 10 = .ok (.iaload, 1) := by decide +kernel
theorem dX0_seat_11 : decode cX0_seat 11 = .ok (.iastore, 1) := by decide +kernel
theorem dX0_seat_12 : decode cX0_seat 12 = .ok (.aload_n 0, 1) := by decide +kernel
theorem dX0_seat_13 : decode cX0_seat 13 = .ok (.getfield 15, 3) := by decide +kernel
theorem dX0_seat_16 : decode cX0_seat 16 = .ok (.iload_n 3, 1) := by decide +kernel
theorem dX0_seat_17 : decode cX0_seat 17 = .ok (.aload_n 1, 1) := by decide +kernel
theorem dX0_seat_18 : decode cX0_seat 18 = .ok (.getfield 43, 3) := by decide +kernel
theorem dX0_seat_21 : decode cX0_seat 21 = .ok (.iload_n 2, 1) := by decide +kernel
theorem dX0_seat_22 : decode cX0_seat 22 = .ok (.iaload, 1) := by decide +kernel
theorem dX0_seat_23 : decode cX0_seat 23 = .ok (.iastore, 1) := by decide +kernel
theorem dX0_seat_24 : decode cX0_seat 24 = .ok (.aload_n 1, 1) := by decide +kernel
theorem dX0_seat_25 : decode cX0_seat 25 = .ok (.getfield 44, 3) := by decide +kernel
theorem dX0_seat_28 : decode cX0_seat 28 = .ok (.iload_n 2, 1) := by decide +kernel
theorem dX0_seat_29 : decode cX0_seat 29 = .ok (.bipush 8, 2) := by decide +kernel
theorem dX0_seat_31 : decode cX0_seat 31 = .ok (.imul, 1) := by decide +kernel
theorem dX0_seat_32 : decode cX0_seat 32 = .ok (.aload_n 0, 1) := by decide +kernel
theorem dX0_seat_33 : decode cX0_seat 33 = .ok (.getfield 18, 3) := by decide +kernel
theorem dX0_seat_36 : decode cX0_seat 36 = .ok (.iload_n 3, 1) := by decide +kernel
theorem dX0_seat_37 : decode cX0_seat 37 = .ok (.bipush 8, 2) := by decide +kernel
theorem dX0_seat_39 : decode cX0_seat 39 = .ok (.imul, 1) := by decide +kernel
theorem dX0_seat_40 : decode cX0_seat 40 = .ok (.bipush 8, 2) := by decide +kernel
theorem dX0_seat_42 : decode cX0_seat 42 = .ok (.invokestatic 45, 3) := by decide +kernel
theorem dX0_seat_45 : decode cX0_seat 45 = .ok (.aload_n 1, 1) := by decide +kernel
theorem dX0_seat_46 : decode cX0_seat 46 = .ok (.getfield 51, 3) := by decide +kernel
theorem dX0_seat_49 : decode cX0_seat 49 = .ok (.iload_n 2, 1) := by decide +kernel
theorem dX0_seat_50 : decode cX0_seat 50 = .ok (.bipush 8, 2) := by decide +kernel
theorem dX0_seat_52 : decode cX0_seat 52 = .ok (.imul, 1) := by decide +kernel
theorem dX0_seat_53 : decode cX0_seat 53 = .ok (.aload_n 0, 1) := by decide +kernel
theorem dX0_seat_54 : decode cX0_seat 54 = .ok (.getfield 21, 3) := by decide +kernel
theorem dX0_seat_57 : decode cX0_seat 57 = .ok (.iload_n 3, 1) := by decide +kernel
theorem dX0_seat_58 : decode cX0_seat 58 = .ok (.bipush 8, 2) := by decide +kernel
theorem dX0_seat_60 : decode cX0_seat 60 = .ok (.imul, 1) := by decide +kernel
theorem dX0_seat_61 : decode cX0_seat 61 = .ok (.bipush 8, 2) := by decide +kernel
theorem dX0_seat_63 : decode cX0_seat 63 = .ok (.invokestatic 45, 3) := by decide +kernel
theorem dX0_seat_66 : decode cX0_seat 66 = .ok (.return_, 1) := by decide +kernel
theorem mw_X0_seat : MW yX0_seat cX0_seat 4 2 3 false := ⟨tm 1437 (by decide +kernel) rfl, tm 248 (by decide +kernel) rfl, by decide, by decide, (by rw [if_neg (by decide)]; exact ⟨tm 1436 (by decide +kernel) rfl, tm 104 (by decide +kernel) rfl⟩)⟩
theorem fl_RX0_42 : FL RX0 42 4 5 := ⟨_, _, _, _, cw_4, by decide, Or.inr (Or.inr (Or.inr (by decide))), Or.inl (by decide), Or.inr ⟨"HairProvince", tm 407 (by decide +kernel) rfl⟩⟩
theorem fl_RX0_43 : FL RX0 43 4 6 := ⟨_, _, _, _, cw_4, by decide, Or.inr (Or.inr (Or.inr (by decide))), Or.inl (by decide), Or.inr ⟨"HairProvince", tm 411 (by decide +kernel) rfl⟩⟩
theorem fl_RX0_44 : FL RX0 44 4 7 := ⟨_, _, _, _, cw_4, by decide, Or.inr (Or.inr (Or.inr (by decide))), Or.inl (by decide), Or.inr ⟨"HairProvince", tm 414 (by decide +kernel) rfl⟩⟩
theorem fl_RX0_51 : FL RX0 51 4 8 := ⟨_, _, _, _, cw_4, by decide, Or.inr (Or.inr (Or.inr (by decide))), Or.inl (by decide), Or.inr ⟨"HairProvince", tm 416 (by decide +kernel) rfl⟩⟩
def Du_seat (pr1 : Nat) (a2 : Int) (a3 : Int) (σ : Sg) : Rs := (rd 6 a2 (σ (pr1 + 6) (Int.toNat a2)) (fun x1 => (wr 8 a3 (up_s σ 109 (Int.toNat a3) x1) (fun s2 => (rd 6 a2 (s2 (pr1 + 7) (Int.toNat a2)) (fun x3 => (wr 8 a3 (up_s s2 110 (Int.toNat a3) x3) (fun s4 => (cpw 48 64 (w32 (a2 * 8)) (w32 (a3 * 8)) 8 (cp_s s4 (pr1 + 8) 111 (Int.toNat (w32 (a2 * 8))) (Int.toNat (w32 (a3 * 8))) (Int.toNat 8)) (fun s5 => (cpw 48 64 (w32 (a2 * 8)) (w32 (a3 * 8)) 8 (cp_s s5 (pr1 + 9) 112 (Int.toNat (w32 (a2 * 8))) (Int.toNat (w32 (a3 * 8))) (Int.toNat 8)) (fun s6 => (some (0, s6))))))))))))))
theorem ok_Du_seat (pr1 : Nat) (a2 : Int) (a3 : Int) (hpr1 : Kh[pr1]? = some (.inl 4)) (σ : Sg) : MC l Kh Ph yX0_seat cX0_seat 4 2 1 [.inr (.inr 108), .inr (.inr pr1), .inl a2, .inl a3] σ (Du_seat pr1 a2 a3 σ) := by
  refine mc_of (by decide) (Nat.le_of_ble_eq_true rfl) ?_
  change G l Kh Ph RX0 cX0_seat 4 2 1 0 [some (.inr (.inr 108)), some (.inr (.inr pr1)), some (.inl a2), some (.inl a3)] [] σ (Du_seat pr1 a2 a3 σ)
  unfold Du_seat
  refine g_aload_n dX0_seat_0 rfl rfl ?_
  refine g_getr' (q := 109) fl_RX0_11 kh_108 (by decide) rfl dX0_seat_1 ?_
  refine g_iload_n dX0_seat_4 rfl rfl ?_
  refine g_aload_n dX0_seat_5 rfl rfl ?_
  refine g_getr' (q := (pr1 + 6)) fl_RX0_42 hpr1 (by decide) (qp5 hpr1) dX0_seat_6 ?_
  refine g_iload_n dX0_seat_9 rfl rfl ?_
  refine g_iald (kp5 hpr1) dX0_seat_10 ?_
  intro x1
  refine g_iast kh_109 dX0_seat_11 ?_
  intro s2
  refine g_aload_n dX0_seat_12 rfl rfl ?_
  refine g_getr' (q := 110) fl_RX0_15 kh_108 (by decide) rfl dX0_seat_13 ?_
  refine g_iload_n dX0_seat_16 rfl rfl ?_
  refine g_aload_n dX0_seat_17 rfl rfl ?_
  refine g_getr' (q := (pr1 + 7)) fl_RX0_43 hpr1 (by decide) (qp6 hpr1) dX0_seat_18 ?_
  refine g_iload_n dX0_seat_21 rfl rfl ?_
  refine g_iald (kp6 hpr1) dX0_seat_22 ?_
  intro x3
  refine g_iast kh_110 dX0_seat_23 ?_
  intro s4
  refine g_aload_n dX0_seat_24 rfl rfl ?_
  refine g_getr' (q := (pr1 + 8)) fl_RX0_44 hpr1 (by decide) (qp7 hpr1) dX0_seat_25 ?_
  refine g_iload_n dX0_seat_28 rfl rfl ?_
  refine g_bipush dX0_seat_29 (by decide) ?_
  refine g_imul dX0_seat_31 ?_
  refine g_aload_n dX0_seat_32 rfl rfl ?_
  refine g_getr' (q := 111) fl_RX0_18 kh_108 (by decide) rfl dX0_seat_33 ?_
  refine g_iload_n dX0_seat_36 rfl rfl ?_
  refine g_bipush dX0_seat_37 (by decide) ?_
  refine g_imul dX0_seat_39 ?_
  refine g_bipush dX0_seat_40 (by decide) ?_
  refine g_copyi cy_RX0_45 (kp7 hpr1) kh_111 (Nat.le_of_ble_eq_true rfl) (Nat.le_of_ble_eq_true rfl) dX0_seat_42 ?_
  intro s5
  refine g_aload_n dX0_seat_45 rfl rfl ?_
  refine g_getr' (q := (pr1 + 9)) fl_RX0_51 hpr1 (by decide) (qp8 hpr1) dX0_seat_46 ?_
  refine g_iload_n dX0_seat_49 rfl rfl ?_
  refine g_bipush dX0_seat_50 (by decide) ?_
  refine g_imul dX0_seat_52 ?_
  refine g_aload_n dX0_seat_53 rfl rfl ?_
  refine g_getr' (q := 112) fl_RX0_21 kh_108 (by decide) rfl dX0_seat_54 ?_
  refine g_iload_n dX0_seat_57 rfl rfl ?_
  refine g_bipush dX0_seat_58 (by decide) ?_
  refine g_imul dX0_seat_60 ?_
  refine g_bipush dX0_seat_61 (by decide) ?_
  refine g_copyi cy_RX0_45 (kp8 hpr1) kh_112 (Nat.le_of_ble_eq_true rfl) (Nat.le_of_ble_eq_true rfl) dX0_seat_63 ?_
  intro s6
  exact g_vret dX0_seat_66
theorem dX0_play_0 : decode cX0_play 0 = .ok (.aload_n 0, 1) := by decide +kernel
theorem dX0_play_1 : decode cX0_play 1 = .ok (.iconst (-1), 1) := by decide +kernel
theorem dX0_play_2 : decode cX0_play 2 = .ok (.putfield 24, 3) := by decide +kernel
theorem dX0_play_5 : decode cX0_play 5 = .ok (.aload_n 1, 1) := by decide +kernel
theorem dX0_play_6 : decode cX0_play 6 = .ok (.iload_n 2, 1) := by decide +kernel
theorem dX0_play_7 : decode cX0_play 7 = .ok (.invokevirtual 28, 3) := by decide +kernel
theorem dX0_play_10 : decode cX0_play 10 = .ok (.ifCond .eq 11, 3) := by decide +kernel
theorem dX0_play_13 : decode cX0_play 13 = .ok (.aload_n 1, 1) := by decide +kernel
theorem dX0_play_14 : decode cX0_play 14 = .ok (.iload_n 3, 1) := by decide +kernel
theorem dX0_play_15 : decode cX0_play 15 = .ok (.invokevirtual 28, 3) := by decide +kernel
theorem dX0_play_18 : decode cX0_play 18 = .ok (.ifCond .ne 5, 3) := by decide +kernel
theorem dX0_play_21 : decode cX0_play 21 = .ok (.iconst 0, 1) := by decide +kernel
theorem dX0_play_22 : decode cX0_play 22 = .ok (.ireturn, 1) := by decide +kernel
theorem dX0_play_23 : decode cX0_play 23 = .ok (.aload_n 0, 1) := by decide +kernel
theorem dX0_play_24 : decode cX0_play 24 = .ok (.aload_n 1, 1) := by decide +kernel
theorem dX0_play_25 : decode cX0_play 25 = .ok (.iload_n 2, 1) := by decide +kernel
theorem dX0_play_26 : decode cX0_play 26 = .ok (.iconst 0, 1) := by decide +kernel
theorem dX0_play_27 : decode cX0_play 27 = .ok (.invokevirtual 34, 3) := by decide +kernel
theorem dX0_play_30 : decode cX0_play 30 = .ok (.aload_n 0, 1) := by decide +kernel
theorem dX0_play_31 : decode cX0_play 31 = .ok (.aload_n 1, 1) := by decide +kernel
theorem dX0_play_32 : decode cX0_play 32 = .ok (.iload_n 3, 1) := by decide +kernel
theorem dX0_play_33 : decode cX0_play 33 = .ok (.iconst 1, 1) := by decide +kernel
theorem dX0_play_34 : decode cX0_play 34 = .ok (.invokevirtual 34, 3) := by decide +kernel
theorem dX0_play_37 : decode cX0_play 37 = .ok (.aload_n 0, 1) := by decide +kernel
theorem dX0_play_38 : decode cX0_play 38 = .ok (.aload_n 1, 1) := by decide +kernel
theorem dX0_play_39 : decode cX0_play 39 = .ok (.iconst 0, 1) := by decide +kernel
theorem dX0_play_40 : decode cX0_play 40 = .ok (.iload 4, 2) := by decide +kernel
theorem dX0_play_42 : decode cX0_play 42 = .ok (.invokestatic 38, 3) := by decide +kernel
theorem dX0_play_45 : decode cX0_play 45 = .ok (.ireturn, 1) := by decide +kernel
theorem mw_X0_play : MW yX0_play cX0_play 5 0 4 false := ⟨tm 1432 (by decide +kernel) rfl, tm 248 (by decide +kernel) rfl, by decide, by decide, (by rw [if_neg (by decide)]; exact ⟨tm 1431 (by decide +kernel) rfl, tm 103 (by decide +kernel) rfl⟩)⟩
theorem lk_RX0_28 : LK RX0 28 yX4_isPerson := Or.inr ⟨"HairProvince", tm 1433 (by decide +kernel) rfl⟩
theorem lk_RX0_34 : LK RX0 34 yX0_seat := Or.inl (tm 1434 (by decide +kernel) rfl)
def Du_play (pr1 : Nat) (a2 : Int) (a3 : Int) (a4 : Int) (σ : Sg) : Rs := (nm (up_s σ 108 4 (-1)) (fun s1 => (bd (Pr_isPerson pr1 a2 s1) (fun r2 s3 => (if r2 = 0 then (some (0, s3)) else (bd (Pr_isPerson pr1 a3 s3) (fun r4 s5 => (if r4 = 0 then (some (0, s5)) else (bd (Du_seat pr1 a2 0 s5) (fun r6 s7 => (bd (Du_seat pr1 a3 1 s7) (fun r8 s9 => (bd (Du_best 20 pr1 0 a4 s9) (fun r10 s11 => (some (r10, s11))))))))))))))))
theorem ok_Du_play (pr1 : Nat) (a2 : Int) (a3 : Int) (a4 : Int) (hpr1 : Kh[pr1]? = some (.inl 4)) (σ : Sg) : MC l Kh Ph yX0_play cX0_play 5 0 24 [.inr (.inr 108), .inr (.inr pr1), .inl a2, .inl a3, .inl a4] σ (Du_play pr1 a2 a3 a4 σ) := by
  refine mc_of (by decide) (Nat.le_of_ble_eq_true rfl) ?_
  change G l Kh Ph RX0 cX0_play 5 0 24 0 [some (.inr (.inr 108)), some (.inr (.inr pr1)), some (.inl a2), some (.inl a3), some (.inl a4)] [] σ (Du_play pr1 a2 a3 a4 σ)
  unfold Du_play
  refine g_aload_n dX0_play_0 rfl rfl ?_
  refine g_iconst dX0_play_1 (by decide) ?_
  refine g_puti fl_RX0_24 kh_108 (by decide) dX0_play_2 ?_
  intro s1
  refine g_aload_n dX0_play_5 rfl rfl ?_
  refine g_iload_n dX0_play_6 rfl rfl ?_
  refine g_callv3 (st := []) 4 mw_X4_isPerson lk_RX0_28 rfl hpr1 (ok_Pr_isPerson pr1 a2 hpr1 s1) (Nat.le_of_ble_eq_true rfl) rfl rfl (Nat.le_of_ble_eq_true rfl) dX0_play_7 ?_
  intro r2 s3
  refine g_ifeq (tgt := 21) dX0_play_10 (by decide) ?_ ?_
  · refine g_iconst dX0_play_21 (by decide) ?_
    exact g_iret dX0_play_22
  · refine g_aload_n dX0_play_13 rfl rfl ?_
    refine g_iload_n dX0_play_14 rfl rfl ?_
    refine g_callv3 (st := []) 4 mw_X4_isPerson lk_RX0_28 rfl hpr1 (ok_Pr_isPerson pr1 a3 hpr1 s3) (Nat.le_of_ble_eq_true rfl) rfl rfl (Nat.le_of_ble_eq_true rfl) dX0_play_15 ?_
    intro r4 s5
    refine g_ifne (tgt := 23) dX0_play_18 (by decide) ?_ ?_
    · refine g_iconst dX0_play_21 (by decide) ?_
      exact g_iret dX0_play_22
    · refine g_aload_n dX0_play_23 rfl rfl ?_
      refine g_aload_n dX0_play_24 rfl rfl ?_
      refine g_iload_n dX0_play_25 rfl rfl ?_
      refine g_iconst dX0_play_26 (by decide) ?_
      refine g_callv2 (st := []) 0 mw_X0_seat lk_RX0_34 rfl kh_108 (ok_Du_seat pr1 a2 0 hpr1 s5) (Nat.le_of_ble_eq_true rfl) rfl rfl (Nat.le_of_ble_eq_true rfl) dX0_play_27 ?_
      intro r6 s7
      refine g_aload_n dX0_play_30 rfl rfl ?_
      refine g_aload_n dX0_play_31 rfl rfl ?_
      refine g_iload_n dX0_play_32 rfl rfl ?_
      refine g_iconst dX0_play_33 (by decide) ?_
      refine g_callv2 (st := []) 0 mw_X0_seat lk_RX0_34 rfl kh_108 (ok_Du_seat pr1 a3 1 hpr1 s7) (Nat.le_of_ble_eq_true rfl) rfl rfl (Nat.le_of_ble_eq_true rfl) dX0_play_34 ?_
      intro r8 s9
      refine g_aload_n dX0_play_37 rfl rfl ?_
      refine g_aload_n dX0_play_38 rfl rfl ?_
      refine g_iconst dX0_play_39 (by decide) ?_
      refine g_iload dX0_play_40 rfl ?_
      refine g_calls0 (st := []) mw_X0_best lk_RX0_38 (ok_Du_best 20 pr1 0 a4 hpr1 s9) (Nat.le_of_ble_eq_true rfl) rfl rfl (Nat.le_of_ble_eq_true rfl) dX0_play_42 ?_
      intro r10 s11
      exact g_iret dX0_play_45
theorem dX11_game_0 : decode cX11_game 0 = .ok (.aload_n 0, 1) := by decide +kernel
theorem dX11_game_1 : decode cX11_game 1 = .ok (.iload_n 1, 1) := by decide +kernel
theorem dX11_game_2 : decode cX11_game 2 = .ok (.iload_n 2, 1) := by decide +kernel
theorem dX11_game_3 : decode cX11_game 3 = .ok (.iload_n 3, 1) := by decide +kernel
theorem dX11_game_4 : decode cX11_game 4 = .ok (.iconst 0, 1) := by decide +kernel
theorem dX11_game_5 : decode cX11_game 5 = .ok (.invokevirtual 408, 3) := by decide +kernel
theorem dX11_game_8 : decode cX11_game 8 = .ok (.istore 4, 2) := by decide +kernel
theorem dX11_game_10 : decode cX11_game 10 = .ok (.iload 4, 2) := by decide +kernel
theorem dX11_game_12 : decode cX11_game 12 = .ok (.ifCond .eq 12, 3) := by decide +kernel
theorem dX11_game_15 : decode cX11_game 15 = .ok (.aload_n 0, 1) := by decide +kernel
theorem dX11_game_16 : decode cX11_game 16 = .ok (.iload 4, 2) := by decide +kernel
theorem dX11_game_18 : decode cX11_game 18 = .ok (.invokevirtual 147, 3) := by decide +kernel
theorem dX11_game_21 : decode cX11_game 21 = .ok (.goto 21, 3) := by decide +kernel
theorem dX11_game_24 : decode cX11_game 24 = .ok (.aload_n 0, 1) := by decide +kernel
theorem dX11_game_25 : decode cX11_game 25 = .ok (.aload_n 0, 1) := by decide +kernel
theorem dX11_game_26 : decode cX11_game 26 = .ok (.getfield 103, 3) := by decide +kernel
theorem dX11_game_29 : decode cX11_game 29 = .ok (.aload_n 0, 1) := by decide +kernel
theorem dX11_game_30 : decode cX11_game 30 = .ok (.getfield 43, 3) := by decide +kernel
theorem dX11_game_33 : decode cX11_game 33 = .ok (.iload_n 1, 1) := by decide +kernel
theorem dX11_game_34 : decode cX11_game 34 = .ok (.iload_n 2, 1) := by decide +kernel
theorem dX11_game_35 : decode cX11_game 35 = .ok (.iload_n 3, 1) := by decide +kernel
theorem dX11_game_36 : decode cX11_game 36 = .ok (.invokevirtual 412, 3) := by decide +kernel
theorem dX11_game_39 : decode cX11_game 39 = .ok (.invokevirtual 194, 3) := by decide +kernel
theorem dX11_game_42 : decode cX11_game 42 = .ok (.ireturn, 1) := by decide +kernel
theorem mw_X11_game : MW yX11_game cX11_game 5 0 3 false := ⟨tm 1424 (by decide +kernel) rfl, tm 235 (by decide +kernel) rfl, by decide, by decide, (by rw [if_neg (by decide)]; exact ⟨tm 1422 (by decide +kernel) rfl, tm 1423 (by decide +kernel) rfl⟩)⟩
theorem lk_RX11_408 : LK RX11 408 yX11_gameStatus := Or.inl (tm 1425 (by decide +kernel) rfl)
theorem lk_RX11_412 : LK RX11 412 yX0_play := Or.inr ⟨"HairProvince", tm 1429 (by decide +kernel) rfl⟩
theorem fl_RX11_103 : FL RX11 103 9 19 := ⟨_, _, _, _, cw_9, by decide, Or.inr (Or.inr (Or.inr (by decide))), Or.inl (by decide), Or.inl (tm 641 (by decide +kernel) rfl)⟩
def H_game (a1 : Int) (a2 : Int) (a3 : Int) (σ : Sg) : Rs := (bd (H_gameStatus a1 a2 a3 0 σ) (fun r1 s2 => (if r1 = 0 then (bd (Du_play 8 a1 a2 a3 s2) (fun r3 s4 => (bd (H_give r3 s4) (fun r5 s6 => (some (r5, s6)))))) else (bd (H_fail r1 s2) (fun r7 s8 => (some (r7, s8)))))))
theorem ok_H_game (a1 : Int) (a2 : Int) (a3 : Int) (σ : Sg) : MC l Kh Ph yX11_game cX11_game 5 0 25 [.inr (.inr 0), .inl a1, .inl a2, .inl a3] σ (H_game a1 a2 a3 σ) := by
  refine mc_of (by decide) (Nat.le_of_ble_eq_true rfl) ?_
  change G l Kh Ph RX11 cX11_game 5 0 25 0 [some (.inr (.inr 0)), some (.inl a1), some (.inl a2), some (.inl a3), none] [] σ (H_game a1 a2 a3 σ)
  unfold H_game
  refine g_aload_n dX11_game_0 rfl rfl ?_
  refine g_iload_n dX11_game_1 rfl rfl ?_
  refine g_iload_n dX11_game_2 rfl rfl ?_
  refine g_iload_n dX11_game_3 rfl rfl ?_
  refine g_iconst dX11_game_4 (by decide) ?_
  refine g_callv0 (st := []) 9 mw_X11_gameStatus lk_RX11_408 rfl kh_0 (ok_H_gameStatus a1 a2 a3 0 σ) (Nat.le_of_ble_eq_true rfl) rfl rfl (Nat.le_of_ble_eq_true rfl) dX11_game_5 ?_
  intro r1 s2
  refine g_istore (lv' := [some (.inr (.inr 0)), some (.inl a1), some (.inl a2), some (.inl a3), some (.inl r1)]) dX11_game_8 (Nat.le_of_ble_eq_true rfl) rfl ?_
  refine g_iload dX11_game_10 rfl ?_
  refine g_ifeq (tgt := 24) dX11_game_12 (by decide) ?_ ?_
  · refine g_aload_n dX11_game_24 rfl rfl ?_
    refine g_aload_n dX11_game_25 rfl rfl ?_
    refine g_getr' (q := 108) fl_RX11_103 kh_0 (by decide) rfl dX11_game_26 ?_
    refine g_aload_n dX11_game_29 rfl rfl ?_
    refine g_getr' (q := 8) fl_RX11_43 kh_0 (by decide) rfl dX11_game_30 ?_
    refine g_iload_n dX11_game_33 rfl rfl ?_
    refine g_iload_n dX11_game_34 rfl rfl ?_
    refine g_iload_n dX11_game_35 rfl rfl ?_
    refine g_callv0 (st := [.inr (.inr 0)]) 0 mw_X0_play lk_RX11_412 rfl kh_108 (ok_Du_play 8 a1 a2 a3 kh_8 s2) (Nat.le_of_ble_eq_true rfl) rfl rfl (Nat.le_of_ble_eq_true rfl) dX11_game_36 ?_
    intro r3 s4
    refine g_callv0 (st := []) 9 mw_X11_give lk_RX11_194 rfl kh_0 (ok_H_give r3 s4) (Nat.le_of_ble_eq_true rfl) rfl rfl (Nat.le_of_ble_eq_true rfl) dX11_game_39 ?_
    intro r5 s6
    exact g_iret dX11_game_42
  · refine g_aload_n dX11_game_15 rfl rfl ?_
    refine g_iload dX11_game_16 rfl ?_
    refine g_callv0 (st := []) 9 mw_X11_fail lk_RX11_147 rfl kh_0 (ok_H_fail r1 s2) (Nat.le_of_ble_eq_true rfl) rfl rfl (Nat.le_of_ble_eq_true rfl) dX11_game_18 ?_
    intro r7 s8
    refine g_goto (tgt := 42) dX11_game_21 (by decide) ?_
    exact g_iret dX11_game_42
theorem dX11_hairIn_0 : decode cX11_hairIn 0 = .ok (.aload_n 0, 1) := by decide +kernel
theorem dX11_hairIn_1 : decode cX11_hairIn 1 = .ok (.iload_n 1, 1) := by decide +kernel
theorem dX11_hairIn_2 : decode cX11_hairIn 2 = .ok (.iload_n 2, 1) := by decide +kernel
theorem dX11_hairIn_3 : decode cX11_hairIn 3 = .ok (.invokevirtual 333, 3) := by decide +kernel
theorem dX11_hairIn_6 : decode cX11_hairIn 6 = .ok (.istore_n 3, 1) := by decide +kernel
theorem dX11_hairIn_7 : decode cX11_hairIn 7 = .ok (.iload_n 3, 1) := by decide +kernel
theorem dX11_hairIn_8 : decode cX11_hairIn 8 = .ok (.ifCond .eq 9, 3) := by decide +kernel
theorem dX11_hairIn_11 : decode cX11_hairIn 11 = .ok (.aload_n 0, 1) := by decide +kernel
theorem dX11_hairIn_12 : decode cX11_hairIn 12 = .ok (.iload_n 3, 1) := by decide +kernel
theorem dX11_hairIn_13 : decode cX11_hairIn 13 = .ok (.invokevirtual 147, 3) := by decide +kernel
theorem dX11_hairIn_16 : decode cX11_hairIn 16 = .ok (.ireturn, 1) := by decide +kernel
theorem dX11_hairIn_17 : decode cX11_hairIn 17 = .ok (.aload_n 0, 1) := by decide +kernel
theorem dX11_hairIn_18 : decode cX11_hairIn 18 = .ok (.getfield 47, 3) := by decide +kernel
theorem dX11_hairIn_21 : decode cX11_hairIn 21 = .ok (.aload_n 0, 1) := by decide +kernel
theorem dX11_hairIn_22 : decode cX11_hairIn 22 = .ok (.getfield 43, 3) := by decide +kernel
theorem dX11_hairIn_25 : decode cX11_hairIn 25 = .ok (.invokevirtual 184, 3) := by decide +kernel
theorem dX11_hairIn_28 : decode cX11_hairIn 28 = .ok (.aload_n 0, 1) := by decide +kernel
theorem dX11_hairIn_29 : decode cX11_hairIn 29 = .ok (.getfield 47, 3) := by decide +kernel
theorem dX11_hairIn_32 : decode cX11_hairIn 32 = .ok (.iload_n 2, 1) := by decide +kernel
theorem dX11_hairIn_33 : decode cX11_hairIn 33 = .ok (.invokevirtual 300, 3) := by decide +kernel
theorem dX11_hairIn_36 : decode cX11_hairIn 36 = .ok (.pop, 1) := by decide +kernel
theorem dX11_hairIn_37 : decode cX11_hairIn 37 = .ok (.aload_n 0, 1) := by decide +kernel
theorem dX11_hairIn_38 : decode cX11_hairIn 38 = .ok (.aload_n 0, 1) := by decide +kernel
theorem dX11_hairIn_39 : decode cX11_hairIn 39 = .ok (.getfield 47, 3) := by decide +kernel
theorem dX11_hairIn_42 : decode cX11_hairIn 42 = .ok (.iload_n 1, 1) := by decide +kernel
theorem dX11_hairIn_43 : decode cX11_hairIn 43 = .ok (.invokevirtual 281, 3) := by decide +kernel
theorem dX11_hairIn_46 : decode cX11_hairIn 46 = .ok (.invokevirtual 194, 3) := by decide +kernel
theorem dX11_hairIn_49 : decode cX11_hairIn 49 = .ok (.ireturn, 1) := by decide +kernel
theorem mw_X11_hairIn : MW yX11_hairIn cX11_hairIn 4 0 2 false := ⟨tm 1232 (by decide +kernel) rfl, tm 235 (by decide +kernel) rfl, by decide, by decide, (by rw [if_neg (by decide)]; exact ⟨tm 1230 (by decide +kernel) rfl, tm 1231 (by decide +kernel) rfl⟩)⟩
theorem lk_RX11_333 : LK RX11 333 yX11_aheadStatus := Or.inl (tm 1233 (by decide +kernel) rfl)
theorem fl_RX11_47 : FL RX11 47 9 9 := ⟨_, _, _, _, cw_9, by decide, Or.inr (Or.inr (Or.inr (by decide))), Or.inl (by decide), Or.inl (tm 631 (by decide +kernel) rfl)⟩
def H_hairIn (a1 : Int) (a2 : Int) (σ : Sg) : Rs := (bd (H_aheadStatus a1 a2 σ) (fun r1 s2 => (if r1 = 0 then (bd (Pr_copyFrom 19 8 s2) (fun r3 s4 => (bd (Pr_passDays 19 a2 s4) (fun r5 s6 => (bd (Pr_hairOf 19 a1 s6) (fun r7 s8 => (bd (H_give r7 s8) (fun r9 s10 => (some (r9, s10)))))))))) else (bd (H_fail r1 s2) (fun r11 s12 => (some (r11, s12)))))))
theorem ok_H_hairIn (a1 : Int) (a2 : Int) (σ : Sg) : MC l Kh Ph yX11_hairIn cX11_hairIn 4 0 5 [.inr (.inr 0), .inl a1, .inl a2] σ (H_hairIn a1 a2 σ) := by
  refine mc_of (by decide) (Nat.le_of_ble_eq_true rfl) ?_
  change G l Kh Ph RX11 cX11_hairIn 4 0 5 0 [some (.inr (.inr 0)), some (.inl a1), some (.inl a2), none] [] σ (H_hairIn a1 a2 σ)
  unfold H_hairIn
  refine g_aload_n dX11_hairIn_0 rfl rfl ?_
  refine g_iload_n dX11_hairIn_1 rfl rfl ?_
  refine g_iload_n dX11_hairIn_2 rfl rfl ?_
  refine g_callv0 (st := []) 9 mw_X11_aheadStatus lk_RX11_333 rfl kh_0 (ok_H_aheadStatus a1 a2 σ) (Nat.le_of_ble_eq_true rfl) rfl rfl (Nat.le_of_ble_eq_true rfl) dX11_hairIn_3 ?_
  intro r1 s2
  refine g_istore_n (lv' := [some (.inr (.inr 0)), some (.inl a1), some (.inl a2), some (.inl r1)]) dX11_hairIn_6 rfl (Nat.le_of_ble_eq_true rfl) rfl ?_
  refine g_iload_n dX11_hairIn_7 rfl rfl ?_
  refine g_ifeq (tgt := 17) dX11_hairIn_8 (by decide) ?_ ?_
  · refine g_aload_n dX11_hairIn_17 rfl rfl ?_
    refine g_getr' (q := 19) fl_RX11_47 kh_0 (by decide) rfl dX11_hairIn_18 ?_
    refine g_aload_n dX11_hairIn_21 rfl rfl ?_
    refine g_getr' (q := 8) fl_RX11_43 kh_0 (by decide) rfl dX11_hairIn_22 ?_
    refine g_callv2 (st := []) 4 mw_X4_copyFrom lk_RX11_184 rfl kh_19 (ok_Pr_copyFrom 19 8 kh_19 kh_8 s2) (Nat.le_of_ble_eq_true rfl) rfl rfl (Nat.le_of_ble_eq_true rfl) dX11_hairIn_25 ?_
    intro r3 s4
    refine g_aload_n dX11_hairIn_28 rfl rfl ?_
    refine g_getr' (q := 19) fl_RX11_47 kh_0 (by decide) rfl dX11_hairIn_29 ?_
    refine g_iload_n dX11_hairIn_32 rfl rfl ?_
    refine g_callv0 (st := []) 4 mw_X4_passDays lk_RX11_300 rfl kh_19 (ok_Pr_passDays 19 a2 kh_19 s4) (Nat.le_of_ble_eq_true rfl) rfl rfl (Nat.le_of_ble_eq_true rfl) dX11_hairIn_33 ?_
    intro r5 s6
    refine g_pop dX11_hairIn_36 rfl ?_
    refine g_aload_n dX11_hairIn_37 rfl rfl ?_
    refine g_aload_n dX11_hairIn_38 rfl rfl ?_
    refine g_getr' (q := 19) fl_RX11_47 kh_0 (by decide) rfl dX11_hairIn_39 ?_
    refine g_iload_n dX11_hairIn_42 rfl rfl ?_
    refine g_callv0 (st := [.inr (.inr 0)]) 4 mw_X4_hairOf lk_RX11_281 rfl kh_19 (ok_Pr_hairOf 19 a1 kh_19 s6) (Nat.le_of_ble_eq_true rfl) rfl rfl (Nat.le_of_ble_eq_true rfl) dX11_hairIn_43 ?_
    intro r7 s8
    refine g_callv0 (st := []) 9 mw_X11_give lk_RX11_194 rfl kh_0 (ok_H_give r7 s8) (Nat.le_of_ble_eq_true rfl) rfl rfl (Nat.le_of_ble_eq_true rfl) dX11_hairIn_46 ?_
    intro r9 s10
    exact g_iret dX11_hairIn_49
  · refine g_aload_n dX11_hairIn_11 rfl rfl ?_
    refine g_iload_n dX11_hairIn_12 rfl rfl ?_
    refine g_callv0 (st := []) 9 mw_X11_fail lk_RX11_147 rfl kh_0 (ok_H_fail r1 s2) (Nat.le_of_ble_eq_true rfl) rfl rfl (Nat.le_of_ble_eq_true rfl) dX11_hairIn_13 ?_
    intro r11 s12
    exact g_iret dX11_hairIn_16
theorem dX4_addDinner_0 : decode cX4_addDinner 0 = .ok (.aload_n 0, 1) := by decide +kernel
theorem dX4_addDinner_1 : decode cX4_addDinner 1 = .ok (.getfield 56, 3) := by decide +kernel
theorem dX4_addDinner_4 : decode cX4_addDinner 4 = .ok (.bipush 6, 2) := by decide +kernel
theorem dX4_addDinner_6 : decode cX4_addDinner 6 = .ok (.if_icmp .ge 53, 3) := by decide +kernel
theorem dX4_addDinner_9 : decode cX4_addDinner 9 = .ok (.aload_n 0, 1) := by decide +kernel
theorem dX4_addDinner_10 : decode cX4_addDinner 10 = .ok (.getfield 40, 3) := by decide +kernel
theorem dX4_addDinner_13 : decode cX4_addDinner 13 = .ok (.aload_n 0, 1) := by decide +kernel
theorem dX4_addDinner_14 : decode cX4_addDinner 14 = .ok (.getfield 56, 3) := by decide +kernel
theorem dX4_addDinner_17 : decode cX4_addDinner 17 = .ok (.iconst 3, 1) := by decide +kernel
theorem dX4_addDinner_18 : decode cX4_addDinner 18 = .ok (.imul, 1) := by decide +kernel
theorem dX4_addDinner_19 : decode cX4_addDinner 19 = .ok (.iload_n 1, 1) := by decide +kernel
theorem dX4_addDinner_20 : decode cX4_addDinner 20 = .ok (.iastore, 1) := by decide +kernel
theorem dX4_addDinner_21 : decode cX4_addDinner 21 = .ok (.aload_n 0, 1) := by decide +kernel
theorem dX4_addDinner_22 : decode cX4_addDinner 22 = .ok (.getfield 40, 3) := by decide +kernel
theorem dX4_addDinner_25 : decode cX4_addDinner 25 = .ok (.aload_n 0, 1) := by decide +kernel
theorem dX4_addDinner_26 : decode cX4_addDinner 26 = .ok (.getfield 56, 3) := by decide +kernel
theorem dX4_addDinner_29 : decode cX4_addDinner 29 = .ok (.iconst 3, 1) := by decide +kernel
theorem dX4_addDinner_30 : decode cX4_addDinner 30 = .ok (.imul, 1) := by decide +kernel
theorem dX4_addDinner_31 : decode cX4_addDinner 31 = .ok (.iconst 1, 1) := by decide +kernel
theorem dX4_addDinner_32 : decode cX4_addDinner 32 = .ok (.iadd, 1) := by decide +kernel
theorem dX4_addDinner_33 : decode cX4_addDinner 33 = .ok (.iload_n 2, 1) := by decide +kernel
theorem dX4_addDinner_34 : decode cX4_addDinner 34 = .ok (.iastore, 1) := by decide +kernel
theorem dX4_addDinner_35 : decode cX4_addDinner 35 = .ok (.aload_n 0, 1) := by decide +kernel
theorem dX4_addDinner_36 : decode cX4_addDinner 36 = .ok (.getfield 40, 3) := by decide +kernel
theorem dX4_addDinner_39 : decode cX4_addDinner 39 = .ok (.aload_n 0, 1) := by decide +kernel
theorem dX4_addDinner_40 : decode cX4_addDinner 40 = .ok (.getfield 56, 3) := by decide +kernel
theorem dX4_addDinner_43 : decode cX4_addDinner 43 = .ok (.iconst 3, 1) := by decide +kernel
theorem dX4_addDinner_44 : decode cX4_addDinner 44 = .ok (.imul, 1) := by decide +kernel
theorem dX4_addDinner_45 : decode cX4_addDinner 45 = .ok (.iconst 2, 1) := by decide +kernel
theorem dX4_addDinner_46 : decode cX4_addDinner 46 = .ok (.iadd, 1) := by decide +kernel
theorem dX4_addDinner_47 : decode cX4_addDinner 47 = .ok (.iload_n 3, 1) := by decide +kernel
theorem dX4_addDinner_48 : decode cX4_addDinner 48 = .ok (.iastore, 1) := by decide +kernel
theorem dX4_addDinner_49 : decode cX4_addDinner 49 = .ok (.aload_n 0, 1) := by decide +kernel
theorem dX4_addDinner_50 : decode cX4_addDinner 50 = .ok (.dup, 1) := by decide +kernel
theorem dX4_addDinner_51 : decode cX4_addDinner 51 = .ok (.getfield 56, 3) := by decide +kernel
theorem dX4_addDinner_54 : decode cX4_addDinner 54 = .ok (.iconst 1, 1) := by decide +kernel
theorem dX4_addDinner_55 : decode cX4_addDinner 55 = .ok (.iadd, 1) := by decide +kernel
theorem dX4_addDinner_56 : decode cX4_addDinner 56 = .ok (.putfield 56, 3) := by decide +kernel
theorem dX4_addDinner_59 : decode cX4_addDinner 59 = .ok (.return_, 1) := by decide +kernel
theorem mw_X4_addDinner : MW yX4_addDinner cX4_addDinner 4 2 3 false := ⟨tm 938 (by decide +kernel) rfl, tm 242 (by decide +kernel) rfl, by decide, by decide, (by rw [if_neg (by decide)]; exact ⟨tm 937 (by decide +kernel) rfl, tm 40 (by decide +kernel) rfl⟩)⟩
def Pr_addDinner (pr0 : Nat) (a1 : Int) (a2 : Int) (a3 : Int) (σ : Sg) : Rs := (if (σ pr0 12) < 6 then (wr 18 (w32 ((σ pr0 12) * 3)) (up_s σ (pr0 + 10) (Int.toNat (w32 ((σ pr0 12) * 3))) a1) (fun s1 => (wr 18 (w32 ((w32 ((s1 pr0 12) * 3)) + 1)) (up_s s1 (pr0 + 10) (Int.toNat (w32 ((w32 ((s1 pr0 12) * 3)) + 1))) a2) (fun s2 => (wr 18 (w32 ((w32 ((s2 pr0 12) * 3)) + 2)) (up_s s2 (pr0 + 10) (Int.toNat (w32 ((w32 ((s2 pr0 12) * 3)) + 2))) a3) (fun s3 => (nm (up_s s3 pr0 12 (w32 ((s3 pr0 12) + 1))) (fun s4 => (some (0, s4)))))))))) else (some (0, σ)))
theorem ok_Pr_addDinner (pr0 : Nat) (a1 : Int) (a2 : Int) (a3 : Int) (hpr0 : Kh[pr0]? = some (.inl 4)) (σ : Sg) : MC l Kh Ph yX4_addDinner cX4_addDinner 4 2 1 [.inr (.inr pr0), .inl a1, .inl a2, .inl a3] σ (Pr_addDinner pr0 a1 a2 a3 σ) := by
  refine mc_of (by decide) (Nat.le_of_ble_eq_true rfl) ?_
  change G l Kh Ph RX4 cX4_addDinner 4 2 1 0 [some (.inr (.inr pr0)), some (.inl a1), some (.inl a2), some (.inl a3)] [] σ (Pr_addDinner pr0 a1 a2 a3 σ)
  unfold Pr_addDinner
  refine g_aload_n dX4_addDinner_0 rfl rfl ?_
  refine g_geti fl_RX4_56 hpr0 (by decide) dX4_addDinner_1 ?_
  refine g_bipush dX4_addDinner_4 (by decide) ?_
  refine g_icmpge (tgt := 59) dX4_addDinner_6 (by decide) ?_ ?_
  · refine g_aload_n dX4_addDinner_9 rfl rfl ?_
    refine g_getr' (q := (pr0 + 10)) fl_RX4_40 hpr0 (by decide) (qp9 hpr0) dX4_addDinner_10 ?_
    refine g_aload_n dX4_addDinner_13 rfl rfl ?_
    refine g_geti fl_RX4_56 hpr0 (by decide) dX4_addDinner_14 ?_
    refine g_iconst dX4_addDinner_17 (by decide) ?_
    refine g_imul dX4_addDinner_18 ?_
    refine g_iload_n dX4_addDinner_19 rfl rfl ?_
    refine g_iast (kp9 hpr0) dX4_addDinner_20 ?_
    intro s1
    refine g_aload_n dX4_addDinner_21 rfl rfl ?_
    refine g_getr' (q := (pr0 + 10)) fl_RX4_40 hpr0 (by decide) (qp9 hpr0) dX4_addDinner_22 ?_
    refine g_aload_n dX4_addDinner_25 rfl rfl ?_
    refine g_geti fl_RX4_56 hpr0 (by decide) dX4_addDinner_26 ?_
    refine g_iconst dX4_addDinner_29 (by decide) ?_
    refine g_imul dX4_addDinner_30 ?_
    refine g_iconst dX4_addDinner_31 (by decide) ?_
    refine g_iadd dX4_addDinner_32 ?_
    refine g_iload_n dX4_addDinner_33 rfl rfl ?_
    refine g_iast (kp9 hpr0) dX4_addDinner_34 ?_
    intro s2
    refine g_aload_n dX4_addDinner_35 rfl rfl ?_
    refine g_getr' (q := (pr0 + 10)) fl_RX4_40 hpr0 (by decide) (qp9 hpr0) dX4_addDinner_36 ?_
    refine g_aload_n dX4_addDinner_39 rfl rfl ?_
    refine g_geti fl_RX4_56 hpr0 (by decide) dX4_addDinner_40 ?_
    refine g_iconst dX4_addDinner_43 (by decide) ?_
    refine g_imul dX4_addDinner_44 ?_
    refine g_iconst dX4_addDinner_45 (by decide) ?_
    refine g_iadd dX4_addDinner_46 ?_
    refine g_iload_n dX4_addDinner_47 rfl rfl ?_
    refine g_iast (kp9 hpr0) dX4_addDinner_48 ?_
    intro s3
    refine g_aload_n dX4_addDinner_49 rfl rfl ?_
    refine g_dup dX4_addDinner_50 rfl ?_
    refine g_geti fl_RX4_56 hpr0 (by decide) dX4_addDinner_51 ?_
    refine g_iconst dX4_addDinner_54 (by decide) ?_
    refine g_iadd dX4_addDinner_55 ?_
    refine g_puti fl_RX4_56 hpr0 (by decide) dX4_addDinner_56 ?_
    intro s4
    exact g_vret dX4_addDinner_59
  · exact g_vret dX4_addDinner_59
theorem dX11_invite_0 : decode cX11_invite 0 = .ok (.aload_n 0, 1) := by decide +kernel
theorem dX11_invite_1 : decode cX11_invite 1 = .ok (.getfield 43, 3) := by decide +kernel
theorem dX11_invite_4 : decode cX11_invite 4 = .ok (.iload_n 1, 1) := by decide +kernel
theorem dX11_invite_5 : decode cX11_invite 5 = .ok (.invokevirtual 266, 3) := by decide +kernel
theorem dX11_invite_8 : decode cX11_invite 8 = .ok (.ifCond .eq 14, 3) := by decide +kernel
theorem dX11_invite_11 : decode cX11_invite 11 = .ok (.aload_n 0, 1) := by decide +kernel
theorem dX11_invite_12 : decode cX11_invite 12 = .ok (.getfield 43, 3) := by decide +kernel
theorem dX11_invite_15 : decode cX11_invite 15 = .ok (.iload_n 2, 1) := by decide +kernel
theorem dX11_invite_16 : decode cX11_invite 16 = .ok (.invokevirtual 266, 3) := by decide +kernel
theorem dX11_invite_19 : decode cX11_invite 19 = .ok (.ifCond .ne 9, 3) := by decide +kernel
theorem dX11_invite_22 : decode cX11_invite 22 = .ok (.aload_n 0, 1) := by decide +kernel
theorem dX11_invite_23 : decode cX11_invite 23 = .ok (.iconst 2, 1) := by decide +kernel
theorem dX11_invite_24 : decode cX11_invite 24 = .ok (.invokevirtual 147, 3) := by decide +kernel
theorem dX11_invite_27 : decode cX11_invite 27 = .ok (.ireturn, 1) := by decide +kernel
theorem dX11_invite_28 : decode cX11_invite 28 = .ok (.iload_n 3, 1) := by decide +kernel
theorem dX11_invite_29 : decode cX11_invite 29 = .ok (.iconst 1, 1) := by decide +kernel
theorem dX11_invite_30 : decode cX11_invite 30 = .ok (.bipush 30, 2) := by decide +kernel
theorem dX11_invite_32 : decode cX11_invite 32 = .ok (.invokestatic 135, 3) := by decide +kernel
theorem dX11_invite_35 : decode cX11_invite 35 = .ok (.ifCond .eq 8, 3) := by decide +kernel
theorem dX11_invite_38 : decode cX11_invite 38 = .ok (.iload_n 1, 1) := by decide +kernel
theorem dX11_invite_39 : decode cX11_invite 39 = .ok (.iload_n 2, 1) := by decide +kernel
theorem dX11_invite_40 : decode cX11_invite 40 = .ok (.if_icmp .ne 9, 3) := by decide +kernel
theorem dX11_invite_43 : decode cX11_invite 43 = .ok (.aload_n 0, 1) := by decide +kernel
theorem dX11_invite_44 : decode cX11_invite 44 = .ok (.iconst 5, 1) := by decide +kernel
theorem dX11_invite_45 : decode cX11_invite 45 = .ok (.invokevirtual 147, 3) := by decide +kernel
theorem dX11_invite_48 : decode cX11_invite 48 = .ok (.ireturn, 1) := by decide +kernel
theorem dX11_invite_49 : decode cX11_invite 49 = .ok (.aload_n 0, 1) := by decide +kernel
theorem dX11_invite_50 : decode cX11_invite 50 = .ok (.getfield 43, 3) := by decide +kernel
theorem dX11_invite_53 : decode cX11_invite 53 = .ok (.getfield 220, 3) := by decide +kernel
theorem dX11_invite_56 : decode cX11_invite 56 = .ok (.bipush 6, 2) := by decide +kernel
theorem dX11_invite_58 : decode cX11_invite 58 = .ok (.if_icmp .lt 10, 3) := by decide +kernel
theorem dX11_invite_61 : decode cX11_invite 61 = .ok (.aload_n 0, 1) := by decide +kernel
theorem dX11_invite_62 : decode cX11_invite 62 = .ok (.bipush 7, 2) := by decide +kernel
theorem dX11_invite_64 : decode cX11_invite 64 = .ok (.invokevirtual 147, 3) := by decide +kernel
theorem dX11_invite_67 : decode cX11_invite 67 = .ok (.ireturn, 1) := by decide +kernel
theorem dX11_invite_68 : decode cX11_invite 68 = .ok (.aload_n 0, 1) := by decide +kernel
theorem dX11_invite_69 : decode cX11_invite 69 = .ok (.getfield 43, 3) := by decide +kernel
theorem dX11_invite_72 : decode cX11_invite 72 = .ok (.iload_n 1, 1) := by decide +kernel
theorem dX11_invite_73 : decode cX11_invite 73 = .ok (.iload_n 2, 1) := by decide +kernel
theorem dX11_invite_74 : decode cX11_invite 74 = .ok (.iload_n 3, 1) := by decide +kernel
theorem dX11_invite_75 : decode cX11_invite 75 = .ok (.invokevirtual 330, 3) := by decide +kernel
theorem dX11_invite_78 : decode cX11_invite 78 = .ok (.aload_n 0, 1) := by decide +kernel
theorem dX11_invite_79 : decode cX11_invite 79 = .ok (.aload_n 0, 1) := by decide +kernel
theorem dX11_invite_80 : decode cX11_invite 80 = .ok (.getfield 43, 3) := by decide +kernel
theorem dX11_invite_83 : decode cX11_invite 83 = .ok (.getfield 220, 3) := by decide +kernel
theorem dX11_invite_86 : decode cX11_invite 86 = .ok (.iconst 1, 1) := by decide +kernel
theorem dX11_invite_87 : decode cX11_invite 87 = .ok (.isub, 1) := by decide +kernel
theorem dX11_invite_88 : decode cX11_invite 88 = .ok (.invokevirtual 194, 3) := by decide +kernel
theorem dX11_invite_91 : decode cX11_invite 91 = .ok (.ireturn, 1) := by decide +kernel
theorem mw_X11_invite : MW yX11_invite cX11_invite 4 0 3 false := ⟨tm 1223 (by decide +kernel) rfl, tm 235 (by decide +kernel) rfl, by decide, by decide, (by rw [if_neg (by decide)]; exact ⟨tm 1221 (by decide +kernel) rfl, tm 1222 (by decide +kernel) rfl⟩)⟩
theorem lk_RX11_330 : LK RX11 330 yX4_addDinner := Or.inr ⟨"HairProvince", tm 1224 (by decide +kernel) rfl⟩
def H_invite (a1 : Int) (a2 : Int) (a3 : Int) (σ : Sg) : Rs := (bd (Pr_isPerson 8 a1 σ) (fun r1 s2 => (if r1 = 0 then (bd (H_fail 2 s2) (fun r3 s4 => (some (r3, s4)))) else (bd (Pr_isPerson 8 a2 s2) (fun r5 s6 => (if r5 = 0 then (bd (H_fail 2 s6) (fun r7 s8 => (some (r7, s8)))) else (bd (H_within a3 1 30 s6) (fun r9 s10 => (if r9 = 0 then (bd (H_fail 5 s10) (fun r11 s12 => (some (r11, s12)))) else (if a1 = a2 then (bd (H_fail 5 s10) (fun r13 s14 => (some (r13, s14)))) else (if (s10 8 12) < 6 then (bd (Pr_addDinner 8 a1 a2 a3 s10) (fun r15 s16 => (bd (H_give (w32 ((s16 8 12) - 1)) s16) (fun r17 s18 => (some (r17, s18)))))) else (bd (H_fail 7 s10) (fun r19 s20 => (some (r19, s20)))))))))))))))
theorem ok_H_invite (a1 : Int) (a2 : Int) (a3 : Int) (σ : Sg) : MC l Kh Ph yX11_invite cX11_invite 4 0 2 [.inr (.inr 0), .inl a1, .inl a2, .inl a3] σ (H_invite a1 a2 a3 σ) := by
  refine mc_of (by decide) (Nat.le_of_ble_eq_true rfl) ?_
  change G l Kh Ph RX11 cX11_invite 4 0 2 0 [some (.inr (.inr 0)), some (.inl a1), some (.inl a2), some (.inl a3)] [] σ (H_invite a1 a2 a3 σ)
  unfold H_invite
  refine g_aload_n dX11_invite_0 rfl rfl ?_
  refine g_getr' (q := 8) fl_RX11_43 kh_0 (by decide) rfl dX11_invite_1 ?_
  refine g_iload_n dX11_invite_4 rfl rfl ?_
  refine g_callv3 (st := []) 4 mw_X4_isPerson lk_RX11_266 rfl kh_8 (ok_Pr_isPerson 8 a1 kh_8 σ) (Nat.le_of_ble_eq_true rfl) rfl rfl (Nat.le_of_ble_eq_true rfl) dX11_invite_5 ?_
  intro r1 s2
  refine g_ifeq (tgt := 22) dX11_invite_8 (by decide) ?_ ?_
  · refine g_aload_n dX11_invite_22 rfl rfl ?_
    refine g_iconst dX11_invite_23 (by decide) ?_
    refine g_callv0 (st := []) 9 mw_X11_fail lk_RX11_147 rfl kh_0 (ok_H_fail 2 s2) (Nat.le_of_ble_eq_true rfl) rfl rfl (Nat.le_of_ble_eq_true rfl) dX11_invite_24 ?_
    intro r3 s4
    exact g_iret dX11_invite_27
  · refine g_aload_n dX11_invite_11 rfl rfl ?_
    refine g_getr' (q := 8) fl_RX11_43 kh_0 (by decide) rfl dX11_invite_12 ?_
    refine g_iload_n dX11_invite_15 rfl rfl ?_
    refine g_callv3 (st := []) 4 mw_X4_isPerson lk_RX11_266 rfl kh_8 (ok_Pr_isPerson 8 a2 kh_8 s2) (Nat.le_of_ble_eq_true rfl) rfl rfl (Nat.le_of_ble_eq_true rfl) dX11_invite_16 ?_
    intro r5 s6
    refine g_ifne (tgt := 28) dX11_invite_19 (by decide) ?_ ?_
    · refine g_aload_n dX11_invite_22 rfl rfl ?_
      refine g_iconst dX11_invite_23 (by decide) ?_
      refine g_callv0 (st := []) 9 mw_X11_fail lk_RX11_147 rfl kh_0 (ok_H_fail 2 s6) (Nat.le_of_ble_eq_true rfl) rfl rfl (Nat.le_of_ble_eq_true rfl) dX11_invite_24 ?_
      intro r7 s8
      exact g_iret dX11_invite_27
    · refine g_iload_n dX11_invite_28 rfl rfl ?_
      refine g_iconst dX11_invite_29 (by decide) ?_
      refine g_bipush dX11_invite_30 (by decide) ?_
      refine g_calls3 (st := []) mw_X11_within lk_RX11_135 (ok_H_within a3 1 30 s6) (Nat.le_of_ble_eq_true rfl) rfl rfl (Nat.le_of_ble_eq_true rfl) dX11_invite_32 ?_
      intro r9 s10
      refine g_ifeq (tgt := 43) dX11_invite_35 (by decide) ?_ ?_
      · refine g_aload_n dX11_invite_43 rfl rfl ?_
        refine g_iconst dX11_invite_44 (by decide) ?_
        refine g_callv0 (st := []) 9 mw_X11_fail lk_RX11_147 rfl kh_0 (ok_H_fail 5 s10) (Nat.le_of_ble_eq_true rfl) rfl rfl (Nat.le_of_ble_eq_true rfl) dX11_invite_45 ?_
        intro r11 s12
        exact g_iret dX11_invite_48
      · refine g_iload_n dX11_invite_38 rfl rfl ?_
        refine g_iload_n dX11_invite_39 rfl rfl ?_
        refine g_icmpne (tgt := 49) dX11_invite_40 (by decide) ?_ ?_
        · refine g_aload_n dX11_invite_43 rfl rfl ?_
          refine g_iconst dX11_invite_44 (by decide) ?_
          refine g_callv0 (st := []) 9 mw_X11_fail lk_RX11_147 rfl kh_0 (ok_H_fail 5 s10) (Nat.le_of_ble_eq_true rfl) rfl rfl (Nat.le_of_ble_eq_true rfl) dX11_invite_45 ?_
          intro r13 s14
          exact g_iret dX11_invite_48
        · refine g_aload_n dX11_invite_49 rfl rfl ?_
          refine g_getr' (q := 8) fl_RX11_43 kh_0 (by decide) rfl dX11_invite_50 ?_
          refine g_geti fl_RX11_220 kh_8 (by decide) dX11_invite_53 ?_
          refine g_bipush dX11_invite_56 (by decide) ?_
          refine g_icmplt (tgt := 68) dX11_invite_58 (by decide) ?_ ?_
          · refine g_aload_n dX11_invite_68 rfl rfl ?_
            refine g_getr' (q := 8) fl_RX11_43 kh_0 (by decide) rfl dX11_invite_69 ?_
            refine g_iload_n dX11_invite_72 rfl rfl ?_
            refine g_iload_n dX11_invite_73 rfl rfl ?_
            refine g_iload_n dX11_invite_74 rfl rfl ?_
            refine g_callv2 (st := []) 4 mw_X4_addDinner lk_RX11_330 rfl kh_8 (ok_Pr_addDinner 8 a1 a2 a3 kh_8 s10) (Nat.le_of_ble_eq_true rfl) rfl rfl (Nat.le_of_ble_eq_true rfl) dX11_invite_75 ?_
            intro r15 s16
            refine g_aload_n dX11_invite_78 rfl rfl ?_
            refine g_aload_n dX11_invite_79 rfl rfl ?_
            refine g_getr' (q := 8) fl_RX11_43 kh_0 (by decide) rfl dX11_invite_80 ?_
            refine g_geti fl_RX11_220 kh_8 (by decide) dX11_invite_83 ?_
            refine g_iconst dX11_invite_86 (by decide) ?_
            refine g_isub dX11_invite_87 ?_
            refine g_callv0 (st := []) 9 mw_X11_give lk_RX11_194 rfl kh_0 (ok_H_give (w32 ((s16 8 12) - 1)) s16) (Nat.le_of_ble_eq_true rfl) rfl rfl (Nat.le_of_ble_eq_true rfl) dX11_invite_88 ?_
            intro r17 s18
            exact g_iret dX11_invite_91
          · refine g_aload_n dX11_invite_61 rfl rfl ?_
            refine g_bipush dX11_invite_62 (by decide) ?_
            refine g_callv0 (st := []) 9 mw_X11_fail lk_RX11_147 rfl kh_0 (ok_H_fail 7 s10) (Nat.le_of_ble_eq_true rfl) rfl rfl (Nat.le_of_ble_eq_true rfl) dX11_invite_64 ?_
            intro r19 s20
            exact g_iret dX11_invite_67
theorem dX4_canStart_0 : decode cX4_canStart 0 = .ok (.aload_n 0, 1) := by decide +kernel
theorem dX4_canStart_1 : decode cX4_canStart 1 = .ok (.iload_n 1, 1) := by decide +kernel
theorem dX4_canStart_2 : decode cX4_canStart 2 = .ok (.iload_n 2, 1) := by decide +kernel
theorem dX4_canStart_3 : decode cX4_canStart 3 = .ok (.invokevirtual 115, 3) := by decide +kernel
theorem dX4_canStart_6 : decode cX4_canStart 6 = .ok (.ifCond .eq 16, 3) := by decide +kernel
theorem dX4_canStart_9 : decode cX4_canStart 9 = .ok (.aload_n 0, 1) := by decide +kernel
theorem dX4_canStart_10 : decode cX4_canStart 10 = .ok (.iload_n 1, 1) := by decide +kernel
theorem dX4_canStart_11 : decode cX4_canStart 11 = .ok (.iload_n 2, 1) := by decide +kernel
theorem dX4_canStart_12 : decode cX4_canStart 12 = .ok (.invokevirtual 90, 3) := by decide +kernel
theorem dX4_canStart_15 : decode cX4_canStart 15 = .ok (.ifCond .ne 7, 3) := by decide +kernel
theorem dX4_canStart_18 : decode cX4_canStart 18 = .ok (.iconst 1, 1) := by decide +kernel
theorem dX4_canStart_19 : decode cX4_canStart 19 = .ok (.goto 4, 3) := by decide +kernel
theorem dX4_canStart_22 : decode cX4_canStart 22 = .ok (.iconst 0, 1) := by decide +kernel
theorem dX4_canStart_23 : decode cX4_canStart 23 = .ok (.ireturn, 1) := by decide +kernel
theorem mw_X4_canStart : MW yX4_canStart cX4_canStart 3 3 2 false := ⟨tm 1177 (by decide +kernel) rfl, tm 242 (by decide +kernel) rfl, by decide, by decide, (by rw [if_neg (by decide)]; exact ⟨tm 1176 (by decide +kernel) rfl, tm 72 (by decide +kernel) rfl⟩)⟩
def Pr_canStart (pr0 : Nat) (a1 : Int) (a2 : Int) (σ : Sg) : Rs := (bd (Pr_isKnown pr0 a1 a2 σ) (fun r1 s2 => (if r1 = 0 then (some (0, s2)) else (bd (Pr_isKept pr0 a1 a2 s2) (fun r3 s4 => (if r3 = 0 then (some (1, s4)) else (some (0, s4))))))))
theorem ok_Pr_canStart (pr0 : Nat) (a1 : Int) (a2 : Int) (hpr0 : Kh[pr0]? = some (.inl 4)) (σ : Sg) : MC l Kh Ph yX4_canStart cX4_canStart 3 3 2 [.inr (.inr pr0), .inl a1, .inl a2] σ (Pr_canStart pr0 a1 a2 σ) := by
  refine mc_of (by decide) (Nat.le_of_ble_eq_true rfl) ?_
  change G l Kh Ph RX4 cX4_canStart 3 3 2 0 [some (.inr (.inr pr0)), some (.inl a1), some (.inl a2)] [] σ (Pr_canStart pr0 a1 a2 σ)
  unfold Pr_canStart
  refine g_aload_n dX4_canStart_0 rfl rfl ?_
  refine g_iload_n dX4_canStart_1 rfl rfl ?_
  refine g_iload_n dX4_canStart_2 rfl rfl ?_
  refine g_callv3 (st := []) 4 mw_X4_isKnown lk_RX4_115 rfl hpr0 (ok_Pr_isKnown pr0 a1 a2 hpr0 σ) (Nat.le_of_ble_eq_true rfl) rfl rfl (Nat.le_of_ble_eq_true rfl) dX4_canStart_3 ?_
  intro r1 s2
  refine g_ifeq (tgt := 22) dX4_canStart_6 (by decide) ?_ ?_
  · refine g_iconst dX4_canStart_22 (by decide) ?_
    exact g_zret0 dX4_canStart_23
  · refine g_aload_n dX4_canStart_9 rfl rfl ?_
    refine g_iload_n dX4_canStart_10 rfl rfl ?_
    refine g_iload_n dX4_canStart_11 rfl rfl ?_
    refine g_callv3 (st := []) 4 mw_X4_isKept lk_RX4_90 rfl hpr0 (ok_Pr_isKept pr0 a1 a2 hpr0 s2) (Nat.le_of_ble_eq_true rfl) rfl rfl (Nat.le_of_ble_eq_true rfl) dX4_canStart_12 ?_
    intro r3 s4
    refine g_ifne (tgt := 22) dX4_canStart_15 (by decide) ?_ ?_
    · refine g_iconst dX4_canStart_18 (by decide) ?_
      refine g_goto (tgt := 23) dX4_canStart_19 (by decide) ?_
      exact g_zret1 dX4_canStart_23
    · refine g_iconst dX4_canStart_22 (by decide) ?_
      exact g_zret0 dX4_canStart_23
theorem dJ6_bitCount_0f7a4_0 : decode cJ6_bitCount_0f7a4 0 = .ok (.iload_n 0, 1) := by decide +kernel
theorem dJ6_bitCount_0f7a4_1 : decode cJ6_bitCount_0f7a4 1 = .ok (.iload_n 0, 1) := by decide +kernel
theorem dJ6_bitCount_0f7a4_2 : decode cJ6_bitCount_0f7a4 2 = .ok (.iconst 1, 1) := by decide +kernel
theorem dJ6_bitCount_0f7a4_3 : decode cJ6_bitCount_0f7a4 3 = .ok (.iushr, 1) := by decide +kernel
theorem dJ6_bitCount_0f7a4_4 : decode cJ6_bitCount_0f7a4 4 = .ok (.ldc_w 265, 3) := by decide +kernel
theorem dJ6_bitCount_0f7a4_7 : decode cJ6_bitCount_0f7a4 7 = .ok (.iand, 1) := by decide +kernel
theorem dJ6_bitCount_0f7a4_8 : decode cJ6_bitCount_0f7a4 8 = .ok (.isub, 1) := by decide +kernel
theorem dJ6_bitCount_0f7a4_9 : decode cJ6_bitCount_0f7a4 9 = .ok (.istore_n 0, 1) := by decide +kernel
theorem dJ6_bitCount_0f7a4_10 : decode cJ6_bitCount_0f7a4 10 = .ok (.iload_n 0, 1) := by decide +kernel
theorem dJ6_bitCount_0f7a4_11 : decode cJ6_bitCount_0f7a4 11 = .ok (.ldc_w 266, 3) := by decide +kernel
theorem dJ6_bitCount_0f7a4_14 : decode cJ6_bitCount_0f7a4 14 = .ok (.iand, 1) := by decide +kernel
theorem dJ6_bitCount_0f7a4_15 : decode cJ6_bitCount_0f7a4 15 = .ok (.iload_n 0, 1) := by decide +kernel
theorem dJ6_bitCount_0f7a4_16 : decode cJ6_bitCount_0f7a4 16 = .ok (.iconst 2, 1) := by decide +kernel
theorem dJ6_bitCount_0f7a4_17 : decode cJ6_bitCount_0f7a4 17 = .ok (.iushr, 1) := by decide +kernel
theorem dJ6_bitCount_0f7a4_18 : decode cJ6_bitCount_0f7a4 18 = .ok (.ldc_w 266, 3) := by decide +kernel
theorem dJ6_bitCount_0f7a4_21 : decode cJ6_bitCount_0f7a4 21 = .ok (.iand, 1) := by decide +kernel
theorem dJ6_bitCount_0f7a4_22 : decode cJ6_bitCount_0f7a4 22 = .ok (.iadd, 1) := by decide +kernel
theorem dJ6_bitCount_0f7a4_23 : decode cJ6_bitCount_0f7a4 23 = .ok (.istore_n 0, 1) := by decide +kernel
theorem dJ6_bitCount_0f7a4_24 : decode cJ6_bitCount_0f7a4 24 = .ok (.iload_n 0, 1) := by decide +kernel
theorem dJ6_bitCount_0f7a4_25 : decode cJ6_bitCount_0f7a4 25 = .ok (.iload_n 0, 1) := by decide +kernel
theorem dJ6_bitCount_0f7a4_26 : decode cJ6_bitCount_0f7a4 26 = .ok (.iconst 4, 1) := by decide +kernel
theorem dJ6_bitCount_0f7a4_27 : decode cJ6_bitCount_0f7a4 27 = .ok (.iushr, 1) := by decide +kernel
theorem dJ6_bitCount_0f7a4_28 : decode cJ6_bitCount_0f7a4 28 = .ok (.iadd, 1) := by decide +kernel
theorem dJ6_bitCount_0f7a4_29 : decode cJ6_bitCount_0f7a4 29 = .ok (.ldc_w 267, 3) := by decide +kernel
theorem dJ6_bitCount_0f7a4_32 : decode cJ6_bitCount_0f7a4 32 = .ok (.iand, 1) := by decide +kernel
theorem dJ6_bitCount_0f7a4_33 : decode cJ6_bitCount_0f7a4 33 = .ok (.istore_n 0, 1) := by decide +kernel
theorem dJ6_bitCount_0f7a4_34 : decode cJ6_bitCount_0f7a4 34 = .ok (.iload_n 0, 1) := by decide +kernel
theorem dJ6_bitCount_0f7a4_35 : decode cJ6_bitCount_0f7a4 35 = .ok (.iload_n 0, 1) := by decide +kernel
theorem dJ6_bitCount_0f7a4_36 : decode cJ6_bitCount_0f7a4 36 = .ok (.bipush 8, 2) := by decide +kernel
theorem dJ6_bitCount_0f7a4_38 : decode cJ6_bitCount_0f7a4 38 = .ok (.iushr, 1) := by decide +kernel
theorem dJ6_bitCount_0f7a4_39 : decode cJ6_bitCount_0f7a4 39 = .ok (.iadd, 1) := by decide +kernel
theorem dJ6_bitCount_0f7a4_40 : decode cJ6_bitCount_0f7a4 40 = .ok (.istore_n 0, 1) := by decide +kernel
theorem dJ6_bitCount_0f7a4_41 : decode cJ6_bitCount_0f7a4 41 = .ok (.iload_n 0, 1) := by decide +kernel
theorem dJ6_bitCount_0f7a4_42 : decode cJ6_bitCount_0f7a4 42 = .ok (.iload_n 0, 1) := by decide +kernel
theorem dJ6_bitCount_0f7a4_43 : decode cJ6_bitCount_0f7a4 43 = .ok (.bipush 16, 2) := by decide +kernel
theorem dJ6_bitCount_0f7a4_45 : decode cJ6_bitCount_0f7a4 45 = .ok (.iushr, 1) := by decide +kernel
theorem dJ6_bitCount_0f7a4_46 : decode cJ6_bitCount_0f7a4 46 = .ok (.iadd, 1) := by decide +kernel
theorem dJ6_bitCount_0f7a4_47 : decode cJ6_bitCount_0f7a4 47 = .ok (.istore_n 0, 1) := by decide +kernel
theorem dJ6_bitCount_0f7a4_48 : decode cJ6_bitCount_0f7a4 48 = .ok (.iload_n 0, 1) := by decide +kernel
theorem dJ6_bitCount_0f7a4_49 : decode cJ6_bitCount_0f7a4 49 = .ok (.bipush 63, 2) := by decide +kernel
theorem dJ6_bitCount_0f7a4_51 : decode cJ6_bitCount_0f7a4 51 = .ok (.iand, 1) := by decide +kernel
theorem dJ6_bitCount_0f7a4_52 : decode cJ6_bitCount_0f7a4 52 = .ok (.ireturn, 1) := by decide +kernel
theorem mw_J6_bitCount_0f7a4 : MW yJ6_bitCount_0f7a4 cJ6_bitCount_0f7a4 1 0 1 true := ⟨tm 1184 (by decide +kernel) rfl, tm 254 (by decide +kernel) rfl, by decide, by decide, (by rw [if_pos rfl]; exact tm 1183 (by decide +kernel) rfl)⟩
def JI_bitCount (a0 : Int) (σ : Sg) : Rs := (nm (w32 (a0 - (an32 (su32 a0 1) 1431655765))) (fun x1 => (nm (w32 ((an32 x1 858993459) + (an32 (su32 x1 2) 858993459))) (fun x2 => (nm (an32 (w32 (x2 + (su32 x2 4))) 252645135) (fun x3 => (nm (w32 (x3 + (su32 x3 8))) (fun x4 => (nm (w32 (x4 + (su32 x4 16))) (fun x5 => (some ((an32 x5 63), σ))))))))))))
theorem ok_JI_bitCount {K : Ly} {P : Nat → Nat → Nat} (a0 : Int) (σ : Sg) : MC l K P yJ6_bitCount_0f7a4 cJ6_bitCount_0f7a4 1 0 1 [.inl a0] σ (JI_bitCount a0 σ) := by
  refine mc_of (by decide) (Nat.le_of_ble_eq_true rfl) ?_
  change G l K P RJ6 cJ6_bitCount_0f7a4 1 0 1 0 [some (.inl a0)] [] σ (JI_bitCount a0 σ)
  unfold JI_bitCount
  refine g_iload_n dJ6_bitCount_0f7a4_0 rfl rfl ?_
  refine g_iload_n dJ6_bitCount_0f7a4_1 rfl rfl ?_
  refine g_iconst dJ6_bitCount_0f7a4_2 (by decide) ?_
  refine g_iushr dJ6_bitCount_0f7a4_3 ?_
  refine g_ldcw (n := 1431655765) (tm 1185 (by decide +kernel) rfl) (by decide) dJ6_bitCount_0f7a4_4 ?_
  refine g_iand dJ6_bitCount_0f7a4_7 ?_
  refine g_isub dJ6_bitCount_0f7a4_8 ?_
  refine n_istore_n (fun x1 => [some (.inl x1)]) dJ6_bitCount_0f7a4_9 rfl (Nat.le_of_ble_eq_true rfl) (fun _ => rfl) ?_
  intro x1
  refine g_iload_n dJ6_bitCount_0f7a4_10 rfl rfl ?_
  refine g_ldcw (n := 858993459) (tm 1186 (by decide +kernel) rfl) (by decide) dJ6_bitCount_0f7a4_11 ?_
  refine g_iand dJ6_bitCount_0f7a4_14 ?_
  refine g_iload_n dJ6_bitCount_0f7a4_15 rfl rfl ?_
  refine g_iconst dJ6_bitCount_0f7a4_16 (by decide) ?_
  refine g_iushr dJ6_bitCount_0f7a4_17 ?_
  refine g_ldcw (n := 858993459) (tm 1186 (by decide +kernel) rfl) (by decide) dJ6_bitCount_0f7a4_18 ?_
  refine g_iand dJ6_bitCount_0f7a4_21 ?_
  refine g_iadd dJ6_bitCount_0f7a4_22 ?_
  refine n_istore_n (fun x2 => [some (.inl x2)]) dJ6_bitCount_0f7a4_23 rfl (Nat.le_of_ble_eq_true rfl) (fun _ => rfl) ?_
  intro x2
  refine g_iload_n dJ6_bitCount_0f7a4_24 rfl rfl ?_
  refine g_iload_n dJ6_bitCount_0f7a4_25 rfl rfl ?_
  refine g_iconst dJ6_bitCount_0f7a4_26 (by decide) ?_
  refine g_iushr dJ6_bitCount_0f7a4_27 ?_
  refine g_iadd dJ6_bitCount_0f7a4_28 ?_
  refine g_ldcw (n := 252645135) (tm 1187 (by decide +kernel) rfl) (by decide) dJ6_bitCount_0f7a4_29 ?_
  refine g_iand dJ6_bitCount_0f7a4_32 ?_
  refine n_istore_n (fun x3 => [some (.inl x3)]) dJ6_bitCount_0f7a4_33 rfl (Nat.le_of_ble_eq_true rfl) (fun _ => rfl) ?_
  intro x3
  refine g_iload_n dJ6_bitCount_0f7a4_34 rfl rfl ?_
  refine g_iload_n dJ6_bitCount_0f7a4_35 rfl rfl ?_
  refine g_bipush dJ6_bitCount_0f7a4_36 (by decide) ?_
  refine g_iushr dJ6_bitCount_0f7a4_38 ?_
  refine g_iadd dJ6_bitCount_0f7a4_39 ?_
  refine n_istore_n (fun x4 => [some (.inl x4)]) dJ6_bitCount_0f7a4_40 rfl (Nat.le_of_ble_eq_true rfl) (fun _ => rfl) ?_
  intro x4
  refine g_iload_n dJ6_bitCount_0f7a4_41 rfl rfl ?_
  refine g_iload_n dJ6_bitCount_0f7a4_42 rfl rfl ?_
  refine g_bipush dJ6_bitCount_0f7a4_43 (by decide) ?_
  refine g_iushr dJ6_bitCount_0f7a4_45 ?_
  refine g_iadd dJ6_bitCount_0f7a4_46 ?_
  refine n_istore_n (fun x5 => [some (.inl x5)]) dJ6_bitCount_0f7a4_47 rfl (Nat.le_of_ble_eq_true rfl) (fun _ => rfl) ?_
  intro x5
  refine g_iload_n dJ6_bitCount_0f7a4_48 rfl rfl ?_
  refine g_bipush dJ6_bitCount_0f7a4_49 (by decide) ?_
  refine g_iand dJ6_bitCount_0f7a4_51 ?_
  exact g_iret dJ6_bitCount_0f7a4_52
theorem dX11_keep_0 : decode cX11_keep 0 = .ok (.aload_n 0, 1) := by decide +kernel
theorem dX11_keep_1 : decode cX11_keep 1 = .ok (.getfield 43, 3) := by decide +kernel
theorem dX11_keep_4 : decode cX11_keep 4 = .ok (.iload_n 1, 1) := by decide +kernel
theorem dX11_keep_5 : decode cX11_keep 5 = .ok (.invokevirtual 266, 3) := by decide +kernel
theorem dX11_keep_8 : decode cX11_keep 8 = .ok (.ifCond .eq 14, 3) := by decide +kernel
theorem dX11_keep_11 : decode cX11_keep 11 = .ok (.aload_n 0, 1) := by decide +kernel
theorem dX11_keep_12 : decode cX11_keep 12 = .ok (.getfield 43, 3) := by decide +kernel
theorem dX11_keep_15 : decode cX11_keep 15 = .ok (.iload_n 2, 1) := by decide +kernel
theorem dX11_keep_16 : decode cX11_keep 16 = .ok (.invokevirtual 248, 3) := by decide +kernel
theorem dX11_keep_19 : decode cX11_keep 19 = .ok (.ifCond .ne 9, 3) := by decide +kernel
theorem dX11_keep_22 : decode cX11_keep 22 = .ok (.aload_n 0, 1) := by decide +kernel
theorem dX11_keep_23 : decode cX11_keep 23 = .ok (.iconst 2, 1) := by decide +kernel
theorem dX11_keep_24 : decode cX11_keep 24 = .ok (.invokevirtual 147, 3) := by decide +kernel
theorem dX11_keep_27 : decode cX11_keep 27 = .ok (.ireturn, 1) := by decide +kernel
theorem dX11_keep_28 : decode cX11_keep 28 = .ok (.aload_n 0, 1) := by decide +kernel
theorem dX11_keep_29 : decode cX11_keep 29 = .ok (.getfield 43, 3) := by decide +kernel
theorem dX11_keep_32 : decode cX11_keep 32 = .ok (.iload_n 1, 1) := by decide +kernel
theorem dX11_keep_33 : decode cX11_keep 33 = .ok (.iload_n 2, 1) := by decide +kernel
theorem dX11_keep_34 : decode cX11_keep 34 = .ok (.invokevirtual 309, 3) := by decide +kernel
theorem dX11_keep_37 : decode cX11_keep 37 = .ok (.ifCond .ne 10, 3) := by decide +kernel
theorem dX11_keep_40 : decode cX11_keep 40 = .ok (.aload_n 0, 1) := by decide +kernel
theorem dX11_keep_41 : decode cX11_keep 41 = .ok (.bipush 9, 2) := by decide +kernel
theorem dX11_keep_43 : decode cX11_keep 43 = .ok (.invokevirtual 147, 3) := by decide +kernel
theorem dX11_keep_46 : decode cX11_keep 46 = .ok (.ireturn, 1) := by decide +kernel
theorem dX11_keep_47 : decode cX11_keep 47 = .ok (.aload_n 0, 1) := by decide +kernel
theorem dX11_keep_48 : decode cX11_keep 48 = .ok (.getfield 43, 3) := by decide +kernel
theorem dX11_keep_51 : decode cX11_keep 51 = .ok (.iload_n 1, 1) := by decide +kernel
theorem dX11_keep_52 : decode cX11_keep 52 = .ok (.iload_n 2, 1) := by decide +kernel
theorem dX11_keep_53 : decode cX11_keep 53 = .ok (.invokevirtual 312, 3) := by decide +kernel
theorem dX11_keep_56 : decode cX11_keep 56 = .ok (.aload_n 0, 1) := by decide +kernel
theorem dX11_keep_57 : decode cX11_keep 57 = .ok (.aload_n 0, 1) := by decide +kernel
theorem dX11_keep_58 : decode cX11_keep 58 = .ok (.getfield 43, 3) := by decide +kernel
theorem dX11_keep_61 : decode cX11_keep 61 = .ok (.getfield 278, 3) := by decide +kernel
theorem dX11_keep_64 : decode cX11_keep 64 = .ok (.iload_n 1, 1) := by decide +kernel
theorem dX11_keep_65 : decode cX11_keep 65 = .ok (.iaload, 1) := by decide +kernel
theorem dX11_keep_66 : decode cX11_keep 66 = .ok (.invokestatic 316, 3) := by decide +kernel
theorem dX11_keep_69 : decode cX11_keep 69 = .ok (.invokevirtual 194, 3) := by decide +kernel
theorem dX11_keep_72 : decode cX11_keep 72 = .ok (.ireturn, 1) := by decide +kernel
theorem mw_X11_keep : MW yX11_keep cX11_keep 3 0 2 false := ⟨tm 1173 (by decide +kernel) rfl, tm 235 (by decide +kernel) rfl, by decide, by decide, (by rw [if_neg (by decide)]; exact ⟨tm 1171 (by decide +kernel) rfl, tm 1172 (by decide +kernel) rfl⟩)⟩
theorem lk_RX11_248 : LK RX11 248 yX4_isWord := Or.inr ⟨"HairProvince", tm 1080 (by decide +kernel) rfl⟩
theorem lk_RX11_309 : LK RX11 309 yX4_canStart := Or.inr ⟨"HairProvince", tm 1174 (by decide +kernel) rfl⟩
theorem lk_RX11_312 : LK RX11 312 yX4_startStrand := Or.inr ⟨"HairProvince", tm 1178 (by decide +kernel) rfl⟩
theorem lk_RX11_316 : LK RX11 316 yJ6_bitCount_0f7a4 := Or.inl (tm 1182 (by decide +kernel) rfl)
theorem fl_RX11_278 : FL RX11 278 4 6 := ⟨_, _, _, _, cw_4, by decide, Or.inr (Or.inr (Or.inr (by decide))), Or.inl (by decide), Or.inr ⟨"HairProvince", tm 412 (by decide +kernel) rfl⟩⟩
def H_keep (a1 : Int) (a2 : Int) (σ : Sg) : Rs := (bd (Pr_isPerson 8 a1 σ) (fun r1 s2 => (if r1 = 0 then (bd (H_fail 2 s2) (fun r3 s4 => (some (r3, s4)))) else (bd (Pr_isWord 8 a2 s2) (fun r5 s6 => (if r5 = 0 then (bd (H_fail 2 s6) (fun r7 s8 => (some (r7, s8)))) else (bd (Pr_canStart 8 a1 a2 s6) (fun r9 s10 => (if r9 = 0 then (bd (H_fail 9 s10) (fun r11 s12 => (some (r11, s12)))) else (bd (Pr_startStrand 8 a1 a2 s10) (fun r13 s14 => (rd 6 a1 (s14 15 (Int.toNat a1)) (fun x15 => (bd (JI_bitCount x15 s14) (fun r16 s17 => (bd (H_give r16 s17) (fun r18 s19 => (some (r18, s19)))))))))))))))))))
theorem ok_H_keep (a1 : Int) (a2 : Int) (σ : Sg) : MC l Kh Ph yX11_keep cX11_keep 3 0 3 [.inr (.inr 0), .inl a1, .inl a2] σ (H_keep a1 a2 σ) := by
  refine mc_of (by decide) (Nat.le_of_ble_eq_true rfl) ?_
  change G l Kh Ph RX11 cX11_keep 3 0 3 0 [some (.inr (.inr 0)), some (.inl a1), some (.inl a2)] [] σ (H_keep a1 a2 σ)
  unfold H_keep
  refine g_aload_n dX11_keep_0 rfl rfl ?_
  refine g_getr' (q := 8) fl_RX11_43 kh_0 (by decide) rfl dX11_keep_1 ?_
  refine g_iload_n dX11_keep_4 rfl rfl ?_
  refine g_callv3 (st := []) 4 mw_X4_isPerson lk_RX11_266 rfl kh_8 (ok_Pr_isPerson 8 a1 kh_8 σ) (Nat.le_of_ble_eq_true rfl) rfl rfl (Nat.le_of_ble_eq_true rfl) dX11_keep_5 ?_
  intro r1 s2
  refine g_ifeq (tgt := 22) dX11_keep_8 (by decide) ?_ ?_
  · refine g_aload_n dX11_keep_22 rfl rfl ?_
    refine g_iconst dX11_keep_23 (by decide) ?_
    refine g_callv0 (st := []) 9 mw_X11_fail lk_RX11_147 rfl kh_0 (ok_H_fail 2 s2) (Nat.le_of_ble_eq_true rfl) rfl rfl (Nat.le_of_ble_eq_true rfl) dX11_keep_24 ?_
    intro r3 s4
    exact g_iret dX11_keep_27
  · refine g_aload_n dX11_keep_11 rfl rfl ?_
    refine g_getr' (q := 8) fl_RX11_43 kh_0 (by decide) rfl dX11_keep_12 ?_
    refine g_iload_n dX11_keep_15 rfl rfl ?_
    refine g_callv3 (st := []) 4 mw_X4_isWord lk_RX11_248 rfl kh_8 (ok_Pr_isWord 8 a2 kh_8 s2) (Nat.le_of_ble_eq_true rfl) rfl rfl (Nat.le_of_ble_eq_true rfl) dX11_keep_16 ?_
    intro r5 s6
    refine g_ifne (tgt := 28) dX11_keep_19 (by decide) ?_ ?_
    · refine g_aload_n dX11_keep_22 rfl rfl ?_
      refine g_iconst dX11_keep_23 (by decide) ?_
      refine g_callv0 (st := []) 9 mw_X11_fail lk_RX11_147 rfl kh_0 (ok_H_fail 2 s6) (Nat.le_of_ble_eq_true rfl) rfl rfl (Nat.le_of_ble_eq_true rfl) dX11_keep_24 ?_
      intro r7 s8
      exact g_iret dX11_keep_27
    · refine g_aload_n dX11_keep_28 rfl rfl ?_
      refine g_getr' (q := 8) fl_RX11_43 kh_0 (by decide) rfl dX11_keep_29 ?_
      refine g_iload_n dX11_keep_32 rfl rfl ?_
      refine g_iload_n dX11_keep_33 rfl rfl ?_
      refine g_callv3 (st := []) 4 mw_X4_canStart lk_RX11_309 rfl kh_8 (ok_Pr_canStart 8 a1 a2 kh_8 s6) (Nat.le_of_ble_eq_true rfl) rfl rfl (Nat.le_of_ble_eq_true rfl) dX11_keep_34 ?_
      intro r9 s10
      refine g_ifne (tgt := 47) dX11_keep_37 (by decide) ?_ ?_
      · refine g_aload_n dX11_keep_40 rfl rfl ?_
        refine g_bipush dX11_keep_41 (by decide) ?_
        refine g_callv0 (st := []) 9 mw_X11_fail lk_RX11_147 rfl kh_0 (ok_H_fail 9 s10) (Nat.le_of_ble_eq_true rfl) rfl rfl (Nat.le_of_ble_eq_true rfl) dX11_keep_43 ?_
        intro r11 s12
        exact g_iret dX11_keep_46
      · refine g_aload_n dX11_keep_47 rfl rfl ?_
        refine g_getr' (q := 8) fl_RX11_43 kh_0 (by decide) rfl dX11_keep_48 ?_
        refine g_iload_n dX11_keep_51 rfl rfl ?_
        refine g_iload_n dX11_keep_52 rfl rfl ?_
        refine g_callv2 (st := []) 4 mw_X4_startStrand lk_RX11_312 rfl kh_8 (ok_Pr_startStrand 8 a1 a2 kh_8 s10) (Nat.le_of_ble_eq_true rfl) rfl rfl (Nat.le_of_ble_eq_true rfl) dX11_keep_53 ?_
        intro r13 s14
        refine g_aload_n dX11_keep_56 rfl rfl ?_
        refine g_aload_n dX11_keep_57 rfl rfl ?_
        refine g_getr' (q := 8) fl_RX11_43 kh_0 (by decide) rfl dX11_keep_58 ?_
        refine g_getr' (q := 15) fl_RX11_278 kh_8 (by decide) rfl dX11_keep_61 ?_
        refine g_iload_n dX11_keep_64 rfl rfl ?_
        refine g_iald kh_15 dX11_keep_65 ?_
        intro x15
        refine g_calls0 (st := [.inr (.inr 0)]) mw_J6_bitCount_0f7a4 lk_RX11_316 (ok_JI_bitCount x15 s14) (Nat.le_of_ble_eq_true rfl) rfl rfl (Nat.le_of_ble_eq_true rfl) dX11_keep_66 ?_
        intro r16 s17
        refine g_callv0 (st := []) 9 mw_X11_give lk_RX11_194 rfl kh_0 (ok_H_give r16 s17) (Nat.le_of_ble_eq_true rfl) rfl rfl (Nat.le_of_ble_eq_true rfl) dX11_keep_69 ?_
        intro r18 s19
        exact g_iret dX11_keep_72
theorem dX11_power_0 : decode cX11_power 0 = .ok (.lconst 1, 1) := by decide +kernel
theorem dX11_power_1 : decode cX11_power 1 = .ok (.lstore_n 2, 1) := by decide +kernel
theorem dX11_power_2 : decode cX11_power 2 = .ok (.iconst 0, 1) := by decide +kernel
theorem dX11_power_3 : decode cX11_power 3 = .ok (.istore 4, 2) := by decide +kernel
theorem dX11_power_5 : decode cX11_power 5 = .ok (.iload 4, 2) := by decide +kernel
theorem dX11_power_7 : decode cX11_power 7 = .ok (.iload_n 1, 1) := by decide +kernel
theorem dX11_power_8 : decode cX11_power 8 = .ok (.if_icmp .ge 14, 3) := by decide +kernel
theorem dX11_power_11 : decode cX11_power 11 = .ok (.lload_n 2, 1) := by decide +kernel
theorem dX11_power_12 : decode cX11_power 12 = .ok (.iload_n 0, 1) := by decide +kernel
theorem dX11_power_13 : decode cX11_power 13 = .ok (.i2l, 1) := by decide +kernel
theorem dX11_power_14 : decode cX11_power 14 = .ok (.lmul, 1) := by decide +kernel
theorem dX11_power_15 : decode cX11_power 15 = .ok (.lstore_n 2, 1) := by decide +kernel
theorem dX11_power_16 : decode cX11_power 16 = .ok (.iinc 4 1, 3) := by decide +kernel
theorem dX11_power_19 : decode cX11_power 19 = .ok (.goto (-14), 3) := by decide +kernel
theorem dX11_power_22 : decode cX11_power 22 = .ok (.lload_n 2, 1) := by decide +kernel
theorem dX11_power_23 : decode cX11_power 23 = .ok (.lreturn, 1) := by decide +kernel
theorem mw_X11_power : MW yX11_power cX11_power 5 1 2 true := ⟨tm 1473 (by decide +kernel) rfl, tm 235 (by decide +kernel) rfl, by decide, by decide, (by rw [if_pos rfl]; exact tm 1472 (by decide +kernel) rfl)⟩
def H_power_L5 (a0 : Int) (a1 : Int) : Nat → Int → Int → Sg → Rs
  | 0, _, _, _ => none
  | n + 1, v2, v4, σ => (if v4 < a1 then (nm (w64 (v2 * a0)) (fun x1 => (nm (w32 (v4 + 1)) (fun x2 => (H_power_L5 a0 a1 n x1 x2 σ))))) else (some (v2, σ)))
theorem ok_H_power_L5 (a0 : Int) (a1 : Int) : ∀ (n : Nat) (v2 v4 : Int) (σ : Sg), G l Kh Ph RX11 cX11_power 5 1 1 5 [some (.inl a0), some (.inl a1), some (.inr (.inl v2)), none, some (.inl v4)] [] σ (H_power_L5 a0 a1 n v2 v4 σ) := by
  intro n
  induction n with
  | zero => intros; exact G.none_
  | succ n ih =>
    intro v2 v4 σ
    rw [H_power_L5]
    refine g_iload dX11_power_5 rfl ?_
    refine g_iload_n dX11_power_7 rfl rfl ?_
    refine g_icmpge (tgt := 22) dX11_power_8 (by decide) ?_ ?_
    · refine g_lload_n dX11_power_11 rfl rfl ?_
      refine g_iload_n dX11_power_12 rfl rfl ?_
      refine g_i2l dX11_power_13 ?_
      refine g_lmul dX11_power_14 ?_
      refine n_lstore_n (fun x1 => [some (.inl a0), some (.inl a1), some (.inr (.inl x1)), none, some (.inl v4)]) dX11_power_15 rfl (Nat.le_of_ble_eq_true rfl) (fun _ => rfl) ?_
      intro x1
      refine n_iinc (fun x2 => [some (.inl a0), some (.inl a1), some (.inr (.inl x1)), none, some (.inl x2)]) dX11_power_16 rfl (Nat.le_of_ble_eq_true rfl) (fun _ => rfl) ?_
      intro x2
      refine g_goto (tgt := 5) dX11_power_19 (by decide) ?_
      exact (ih x1 x2 σ)
    · refine g_lload_n dX11_power_22 rfl rfl ?_
      exact g_lret dX11_power_23
def H_power (a0 : Int) (a1 : Int) (σ : Sg) : Rs := (H_power_L5 a0 a1 fu 1 0 σ)
theorem ok_H_power (a0 : Int) (a1 : Int) (σ : Sg) : MC l Kh Ph yX11_power cX11_power 5 1 1 [.inl a0, .inl a1] σ (H_power a0 a1 σ) := by
  refine mc_of (by decide) (Nat.le_of_ble_eq_true rfl) ?_
  change G l Kh Ph RX11 cX11_power 5 1 1 0 [some (.inl a0), some (.inl a1), none, none, none] [] σ (H_power a0 a1 σ)
  unfold H_power
  refine g_lconst (v := 1) dX11_power_0 (by decide) ?_
  refine g_lstore_n (lv' := [some (.inl a0), some (.inl a1), some (.inr (.inl 1)), none, none]) dX11_power_1 rfl (Nat.le_of_ble_eq_true rfl) rfl ?_
  refine g_iconst dX11_power_2 (by decide) ?_
  refine g_istore (lv' := [some (.inl a0), some (.inl a1), some (.inr (.inl 1)), none, some (.inl 0)]) dX11_power_3 (Nat.le_of_ble_eq_true rfl) rfl ?_
  refine (ok_H_power_L5 a0 a1 fu 1 0 σ)
theorem dX4_keepersOf_0 : decode cX4_keepersOf 0 = .ok (.iconst 0, 1) := by decide +kernel
theorem dX4_keepersOf_1 : decode cX4_keepersOf 1 = .ok (.istore_n 2, 1) := by decide +kernel
theorem dX4_keepersOf_2 : decode cX4_keepersOf 2 = .ok (.iconst 0, 1) := by decide +kernel
theorem dX4_keepersOf_3 : decode cX4_keepersOf 3 = .ok (.istore_n 3, 1) := by decide +kernel
theorem dX4_keepersOf_4 : decode cX4_keepersOf 4 = .ok (.iload_n 3, 1) := by decide +kernel
theorem dX4_keepersOf_5 : decode cX4_keepersOf 5 = .ok (.aload_n 0, 1) := by decide +kernel
theorem dX4_keepersOf_6 : decode cX4_keepersOf 6 = .ok (.getfield 53, 3) := by decide +kernel
theorem dX4_keepersOf_9 : decode cX4_keepersOf 9 = .ok (.if_icmp .ge 30, 3) := by decide +kernel
theorem dX4_keepersOf_12 : decode cX4_keepersOf 12 = .ok (.iload_n 3, 1) := by decide +kernel
theorem dX4_keepersOf_13 : decode cX4_keepersOf 13 = .ok (.bipush 6, 2) := by decide +kernel
theorem dX4_keepersOf_15 : decode cX4_keepersOf 15 = .ok (.if_icmp .ge 24, 3) := by decide +kernel
theorem dX4_keepersOf_18 : decode cX4_keepersOf 18 = .ok (.iload_n 2, 1) := by decide +kernel
theorem dX4_keepersOf_19 : decode cX4_keepersOf 19 = .ok (.aload_n 0, 1) := by decide +kernel
theorem dX4_keepersOf_20 : decode cX4_keepersOf 20 = .ok (.getfield 31, 3) := by decide +kernel
theorem dX4_keepersOf_23 : decode cX4_keepersOf 23 = .ok (.iload_n 3, 1) := by decide +kernel
theorem dX4_keepersOf_24 : decode cX4_keepersOf 24 = .ok (.iaload, 1) := by decide +kernel
theorem dX4_keepersOf_25 : decode cX4_keepersOf 25 = .ok (.iload_n 1, 1) := by decide +kernel
theorem dX4_keepersOf_26 : decode cX4_keepersOf 26 = .ok (.ishr, 1) := by decide +kernel
theorem dX4_keepersOf_27 : decode cX4_keepersOf 27 = .ok (.iconst 1, 1) := by decide +kernel
theorem dX4_keepersOf_28 : decode cX4_keepersOf 28 = .ok (.iand, 1) := by decide +kernel
theorem dX4_keepersOf_29 : decode cX4_keepersOf 29 = .ok (.iload_n 3, 1) := by decide +kernel
theorem dX4_keepersOf_30 : decode cX4_keepersOf 30 = .ok (.ishl, 1) := by decide +kernel
theorem dX4_keepersOf_31 : decode cX4_keepersOf 31 = .ok (.ior, 1) := by decide +kernel
theorem dX4_keepersOf_32 : decode cX4_keepersOf 32 = .ok (.istore_n 2, 1) := by decide +kernel
theorem dX4_keepersOf_33 : decode cX4_keepersOf 33 = .ok (.iinc 3 1, 3) := by decide +kernel
theorem dX4_keepersOf_36 : decode cX4_keepersOf 36 = .ok (.goto (-32), 3) := by decide +kernel
theorem dX4_keepersOf_39 : decode cX4_keepersOf 39 = .ok (.iload_n 2, 1) := by decide +kernel
theorem dX4_keepersOf_40 : decode cX4_keepersOf 40 = .ok (.ireturn, 1) := by decide +kernel
theorem mw_X4_keepersOf : MW yX4_keepersOf cX4_keepersOf 4 0 1 false := ⟨tm 1088 (by decide +kernel) rfl, tm 242 (by decide +kernel) rfl, by decide, by decide, (by rw [if_neg (by decide)]; exact ⟨tm 1087 (by decide +kernel) rfl, tm 60 (by decide +kernel) rfl⟩)⟩
def Pr_keepersOf_L4 (pr0 : Nat) (a1 : Int) : Nat → Int → Int → Sg → Rs
  | 0, _, _, _ => none
  | n + 1, v2, v3, σ => (if v3 < (σ pr0 11) then (if v3 < 6 then (rd 6 v3 (σ (pr0 + 7) (Int.toNat v3)) (fun x1 => (nm (or32 v2 (sl32 (an32 (sr32 x1 a1) 1) v3)) (fun x2 => (nm (w32 (v3 + 1)) (fun x3 => (Pr_keepersOf_L4 pr0 a1 n x2 x3 σ))))))) else (some (v2, σ))) else (some (v2, σ)))
theorem ok_Pr_keepersOf_L4 (pr0 : Nat) (a1 : Int) (hpr0 : Kh[pr0]? = some (.inl 4)) : ∀ (n : Nat) (v2 v3 : Int) (σ : Sg), G l Kh Ph RX4 cX4_keepersOf 4 0 1 4 [some (.inr (.inr pr0)), some (.inl a1), some (.inl v2), some (.inl v3)] [] σ (Pr_keepersOf_L4 pr0 a1 n v2 v3 σ) := by
  intro n
  induction n with
  | zero => intros; exact G.none_
  | succ n ih =>
    intro v2 v3 σ
    rw [Pr_keepersOf_L4]
    refine g_iload_n dX4_keepersOf_4 rfl rfl ?_
    refine g_aload_n dX4_keepersOf_5 rfl rfl ?_
    refine g_geti fl_RX4_53 hpr0 (by decide) dX4_keepersOf_6 ?_
    refine g_icmpge (tgt := 39) dX4_keepersOf_9 (by decide) ?_ ?_
    · refine g_iload_n dX4_keepersOf_12 rfl rfl ?_
      refine g_bipush dX4_keepersOf_13 (by decide) ?_
      refine g_icmpge (tgt := 39) dX4_keepersOf_15 (by decide) ?_ ?_
      · refine g_iload_n dX4_keepersOf_18 rfl rfl ?_
        refine g_aload_n dX4_keepersOf_19 rfl rfl ?_
        refine g_getr' (q := (pr0 + 7)) fl_RX4_31 hpr0 (by decide) (qp6 hpr0) dX4_keepersOf_20 ?_
        refine g_iload_n dX4_keepersOf_23 rfl rfl ?_
        refine g_iald (kp6 hpr0) dX4_keepersOf_24 ?_
        intro x1
        refine g_iload_n dX4_keepersOf_25 rfl rfl ?_
        refine g_ishr dX4_keepersOf_26 ?_
        refine g_iconst dX4_keepersOf_27 (by decide) ?_
        refine g_iand dX4_keepersOf_28 ?_
        refine g_iload_n dX4_keepersOf_29 rfl rfl ?_
        refine g_ishl dX4_keepersOf_30 ?_
        refine g_ior dX4_keepersOf_31 ?_
        refine n_istore_n (fun x2 => [some (.inr (.inr pr0)), some (.inl a1), some (.inl x2), some (.inl v3)]) dX4_keepersOf_32 rfl (Nat.le_of_ble_eq_true rfl) (fun _ => rfl) ?_
        intro x2
        refine n_iinc (fun x3 => [some (.inr (.inr pr0)), some (.inl a1), some (.inl x2), some (.inl x3)]) dX4_keepersOf_33 rfl (Nat.le_of_ble_eq_true rfl) (fun _ => rfl) ?_
        intro x3
        refine g_goto (tgt := 4) dX4_keepersOf_36 (by decide) ?_
        exact (ih x2 x3 σ)
      · refine g_iload_n dX4_keepersOf_39 rfl rfl ?_
        exact g_iret dX4_keepersOf_40
    · refine g_iload_n dX4_keepersOf_39 rfl rfl ?_
      exact g_iret dX4_keepersOf_40
def Pr_keepersOf (pr0 : Nat) (a1 : Int) (σ : Sg) : Rs := (Pr_keepersOf_L4 pr0 a1 fu 0 0 σ)
theorem ok_Pr_keepersOf (pr0 : Nat) (a1 : Int) (hpr0 : Kh[pr0]? = some (.inl 4)) (σ : Sg) : MC l Kh Ph yX4_keepersOf cX4_keepersOf 4 0 1 [.inr (.inr pr0), .inl a1] σ (Pr_keepersOf pr0 a1 σ) := by
  refine mc_of (by decide) (Nat.le_of_ble_eq_true rfl) ?_
  change G l Kh Ph RX4 cX4_keepersOf 4 0 1 0 [some (.inr (.inr pr0)), some (.inl a1), none, none] [] σ (Pr_keepersOf pr0 a1 σ)
  unfold Pr_keepersOf
  refine g_iconst dX4_keepersOf_0 (by decide) ?_
  refine g_istore_n (lv' := [some (.inr (.inr pr0)), some (.inl a1), some (.inl 0), none]) dX4_keepersOf_1 rfl (Nat.le_of_ble_eq_true rfl) rfl ?_
  refine g_iconst dX4_keepersOf_2 (by decide) ?_
  refine g_istore_n (lv' := [some (.inr (.inr pr0)), some (.inl a1), some (.inl 0), some (.inl 0)]) dX4_keepersOf_3 rfl (Nat.le_of_ble_eq_true rfl) rfl ?_
  refine (ok_Pr_keepersOf_L4 pr0 a1 hpr0 fu 0 0 σ)
theorem dX11_keptQuiet_0 : decode cX11_keptQuiet 0 = .ok (.aload_n 0, 1) := by decide +kernel
theorem dX11_keptQuiet_1 : decode cX11_keptQuiet 1 = .ok (.getfield 43, 3) := by decide +kernel
theorem dX11_keptQuiet_4 : decode cX11_keptQuiet 4 = .ok (.iload_n 1, 1) := by decide +kernel
theorem dX11_keptQuiet_5 : decode cX11_keptQuiet 5 = .ok (.invokevirtual 260, 3) := by decide +kernel
theorem dX11_keptQuiet_8 : decode cX11_keptQuiet 8 = .ok (.invokestatic 316, 3) := by decide +kernel
theorem dX11_keptQuiet_11 : decode cX11_keptQuiet 11 = .ok (.istore_n 2, 1) := by decide +kernel
theorem dX11_keptQuiet_12 : decode cX11_keptQuiet 12 = .ok (.bipush 16, 2) := by decide +kernel
theorem dX11_keptQuiet_14 : decode cX11_keptQuiet 14 = .ok (.aload_n 0, 1) := by decide +kernel
theorem dX11_keptQuiet_15 : decode cX11_keptQuiet 15 = .ok (.getfield 43, 3) := by decide +kernel
theorem dX11_keptQuiet_18 : decode cX11_keptQuiet 18 = .ok (.getfield 229, 3) := by decide +kernel
theorem dX11_keptQuiet_21 : decode cX11_keptQuiet 21 = .ok (.isub, 1) := by decide +kernel
theorem dX11_keptQuiet_22 : decode cX11_keptQuiet 22 = .ok (.iload_n 2, 1) := by decide +kernel
theorem dX11_keptQuiet_23 : decode cX11_keptQuiet 23 = .ok (.invokestatic 419, 3) := by decide +kernel
theorem dX11_keptQuiet_26 : decode cX11_keptQuiet 26 = .ok (.bipush 16, 2) := by decide +kernel
theorem dX11_keptQuiet_28 : decode cX11_keptQuiet 28 = .ok (.bipush 6, 2) := by decide +kernel
theorem dX11_keptQuiet_30 : decode cX11_keptQuiet 30 = .ok (.iload_n 2, 1) := by decide +kernel
theorem dX11_keptQuiet_31 : decode cX11_keptQuiet 31 = .ok (.isub, 1) := by decide +kernel
theorem dX11_keptQuiet_32 : decode cX11_keptQuiet 32 = .ok (.invokestatic 419, 3) := by decide +kernel
theorem dX11_keptQuiet_35 : decode cX11_keptQuiet 35 = .ok (.lmul, 1) := by decide +kernel
theorem dX11_keptQuiet_36 : decode cX11_keptQuiet 36 = .ok (.lreturn, 1) := by decide +kernel
theorem mw_X11_keptQuiet : MW yX11_keptQuiet cX11_keptQuiet 3 1 1 false := ⟨tm 1485 (by decide +kernel) rfl, tm 235 (by decide +kernel) rfl, by decide, by decide, (by rw [if_neg (by decide)]; exact ⟨tm 1484 (by decide +kernel) rfl, tm 111 (by decide +kernel) rfl⟩)⟩
theorem lk_RX11_260 : LK RX11 260 yX4_keepersOf := Or.inr ⟨"HairProvince", tm 1085 (by decide +kernel) rfl⟩
theorem lk_RX11_419 : LK RX11 419 yX11_power := Or.inl (tm 1471 (by decide +kernel) rfl)
theorem fl_RX11_229 : FL RX11 229 4 15 := ⟨_, _, _, _, cw_4, by decide, Or.inl (by decide), Or.inr (by decide), Or.inr ⟨"HairProvince", tm 440 (by decide +kernel) rfl⟩⟩
def H_keptQuiet (a1 : Int) (σ : Sg) : Rs := (bd (Pr_keepersOf 8 a1 σ) (fun r1 s2 => (bd (JI_bitCount r1 s2) (fun r3 s4 => (bd (H_power (w32 (16 - (s4 8 15))) r3 s4) (fun r5 s6 => (bd (H_power 16 (w32 (6 - r3)) s6) (fun r7 s8 => (some ((w64 (r5 * r7)), s8))))))))))
theorem ok_H_keptQuiet (a1 : Int) (σ : Sg) : MC l Kh Ph yX11_keptQuiet cX11_keptQuiet 3 1 2 [.inr (.inr 0), .inl a1] σ (H_keptQuiet a1 σ) := by
  refine mc_of (by decide) (Nat.le_of_ble_eq_true rfl) ?_
  change G l Kh Ph RX11 cX11_keptQuiet 3 1 2 0 [some (.inr (.inr 0)), some (.inl a1), none] [] σ (H_keptQuiet a1 σ)
  unfold H_keptQuiet
  refine g_aload_n dX11_keptQuiet_0 rfl rfl ?_
  refine g_getr' (q := 8) fl_RX11_43 kh_0 (by decide) rfl dX11_keptQuiet_1 ?_
  refine g_iload_n dX11_keptQuiet_4 rfl rfl ?_
  refine g_callv0 (st := []) 4 mw_X4_keepersOf lk_RX11_260 rfl kh_8 (ok_Pr_keepersOf 8 a1 kh_8 σ) (Nat.le_of_ble_eq_true rfl) rfl rfl (Nat.le_of_ble_eq_true rfl) dX11_keptQuiet_5 ?_
  intro r1 s2
  refine g_calls0 (st := []) mw_J6_bitCount_0f7a4 lk_RX11_316 (ok_JI_bitCount r1 s2) (Nat.le_of_ble_eq_true rfl) rfl rfl (Nat.le_of_ble_eq_true rfl) dX11_keptQuiet_8 ?_
  intro r3 s4
  refine g_istore_n (lv' := [some (.inr (.inr 0)), some (.inl a1), some (.inl r3)]) dX11_keptQuiet_11 rfl (Nat.le_of_ble_eq_true rfl) rfl ?_
  refine g_bipush dX11_keptQuiet_12 (by decide) ?_
  refine g_aload_n dX11_keptQuiet_14 rfl rfl ?_
  refine g_getr' (q := 8) fl_RX11_43 kh_0 (by decide) rfl dX11_keptQuiet_15 ?_
  refine g_geti fl_RX11_229 kh_8 (by decide) dX11_keptQuiet_18 ?_
  refine g_isub dX11_keptQuiet_21 ?_
  refine g_iload_n dX11_keptQuiet_22 rfl rfl ?_
  refine g_calls1 (st := []) mw_X11_power lk_RX11_419 (ok_H_power (w32 (16 - (s4 8 15))) r3 s4) (Nat.le_of_ble_eq_true rfl) rfl rfl (Nat.le_of_ble_eq_true rfl) dX11_keptQuiet_23 ?_
  intro r5 s6
  refine g_bipush dX11_keptQuiet_26 (by decide) ?_
  refine g_bipush dX11_keptQuiet_28 (by decide) ?_
  refine g_iload_n dX11_keptQuiet_30 rfl rfl ?_
  refine g_isub dX11_keptQuiet_31 ?_
  refine g_calls1 (st := [.inr (.inl r5)]) mw_X11_power lk_RX11_419 (ok_H_power 16 (w32 (6 - r3)) s6) (Nat.le_of_ble_eq_true rfl) rfl rfl (Nat.le_of_ble_eq_true rfl) dX11_keptQuiet_32 ?_
  intro r7 s8
  refine g_lmul dX11_keptQuiet_35 ?_
  exact g_lret dX11_keptQuiet_36
theorem dX11_knownIn_0 : decode cX11_knownIn 0 = .ok (.aload_n 0, 1) := by decide +kernel
theorem dX11_knownIn_1 : decode cX11_knownIn 1 = .ok (.iload_n 1, 1) := by decide +kernel
theorem dX11_knownIn_2 : decode cX11_knownIn 2 = .ok (.iload_n 2, 1) := by decide +kernel
theorem dX11_knownIn_3 : decode cX11_knownIn 3 = .ok (.invokevirtual 333, 3) := by decide +kernel
theorem dX11_knownIn_6 : decode cX11_knownIn 6 = .ok (.istore_n 3, 1) := by decide +kernel
theorem dX11_knownIn_7 : decode cX11_knownIn 7 = .ok (.iload_n 3, 1) := by decide +kernel
theorem dX11_knownIn_8 : decode cX11_knownIn 8 = .ok (.ifCond .eq 9, 3) := by decide +kernel
theorem dX11_knownIn_11 : decode cX11_knownIn 11 = .ok (.aload_n 0, 1) := by decide +kernel
theorem dX11_knownIn_12 : decode cX11_knownIn 12 = .ok (.iload_n 3, 1) := by decide +kernel
theorem dX11_knownIn_13 : decode cX11_knownIn 13 = .ok (.invokevirtual 147, 3) := by decide +kernel
theorem dX11_knownIn_16 : decode cX11_knownIn 16 = .ok (.ireturn, 1) := by decide +kernel
theorem dX11_knownIn_17 : decode cX11_knownIn 17 = .ok (.aload_n 0, 1) := by decide +kernel
theorem dX11_knownIn_18 : decode cX11_knownIn 18 = .ok (.getfield 47, 3) := by decide +kernel
theorem dX11_knownIn_21 : decode cX11_knownIn 21 = .ok (.aload_n 0, 1) := by decide +kernel
theorem dX11_knownIn_22 : decode cX11_knownIn 22 = .ok (.getfield 43, 3) := by decide +kernel
theorem dX11_knownIn_25 : decode cX11_knownIn 25 = .ok (.invokevirtual 184, 3) := by decide +kernel
theorem dX11_knownIn_28 : decode cX11_knownIn 28 = .ok (.aload_n 0, 1) := by decide +kernel
theorem dX11_knownIn_29 : decode cX11_knownIn 29 = .ok (.getfield 47, 3) := by decide +kernel
theorem dX11_knownIn_32 : decode cX11_knownIn 32 = .ok (.iload_n 2, 1) := by decide +kernel
theorem dX11_knownIn_33 : decode cX11_knownIn 33 = .ok (.invokevirtual 300, 3) := by decide +kernel
theorem dX11_knownIn_36 : decode cX11_knownIn 36 = .ok (.pop, 1) := by decide +kernel
theorem dX11_knownIn_37 : decode cX11_knownIn 37 = .ok (.aload_n 0, 1) := by decide +kernel
theorem dX11_knownIn_38 : decode cX11_knownIn 38 = .ok (.aload_n 0, 1) := by decide +kernel
theorem dX11_knownIn_39 : decode cX11_knownIn 39 = .ok (.getfield 47, 3) := by decide +kernel
theorem dX11_knownIn_42 : decode cX11_knownIn 42 = .ok (.getfield 275, 3) := by decide +kernel
theorem dX11_knownIn_45 : decode cX11_knownIn 45 = .ok (.iload_n 1, 1) := by decide +kernel
theorem dX11_knownIn_46 : decode cX11_knownIn 46 = .ok (.iaload, 1) := by decide +kernel
theorem dX11_knownIn_47 : decode cX11_knownIn 47 = .ok (.invokevirtual 194, 3) := by decide +kernel
theorem dX11_knownIn_50 : decode cX11_knownIn 50 = .ok (.ireturn, 1) := by decide +kernel
theorem mw_X11_knownIn : MW yX11_knownIn cX11_knownIn 4 0 2 false := ⟨tm 1240 (by decide +kernel) rfl, tm 235 (by decide +kernel) rfl, by decide, by decide, (by rw [if_neg (by decide)]; exact ⟨tm 1238 (by decide +kernel) rfl, tm 1239 (by decide +kernel) rfl⟩)⟩
theorem fl_RX11_275 : FL RX11 275 4 5 := ⟨_, _, _, _, cw_4, by decide, Or.inr (Or.inr (Or.inr (by decide))), Or.inl (by decide), Or.inr ⟨"HairProvince", tm 408 (by decide +kernel) rfl⟩⟩
def H_knownIn (a1 : Int) (a2 : Int) (σ : Sg) : Rs := (bd (H_aheadStatus a1 a2 σ) (fun r1 s2 => (if r1 = 0 then (bd (Pr_copyFrom 19 8 s2) (fun r3 s4 => (bd (Pr_passDays 19 a2 s4) (fun r5 s6 => (rd 6 a1 (s6 25 (Int.toNat a1)) (fun x7 => (bd (H_give x7 s6) (fun r8 s9 => (some (r8, s9)))))))))) else (bd (H_fail r1 s2) (fun r10 s11 => (some (r10, s11)))))))
theorem ok_H_knownIn (a1 : Int) (a2 : Int) (σ : Sg) : MC l Kh Ph yX11_knownIn cX11_knownIn 4 0 5 [.inr (.inr 0), .inl a1, .inl a2] σ (H_knownIn a1 a2 σ) := by
  refine mc_of (by decide) (Nat.le_of_ble_eq_true rfl) ?_
  change G l Kh Ph RX11 cX11_knownIn 4 0 5 0 [some (.inr (.inr 0)), some (.inl a1), some (.inl a2), none] [] σ (H_knownIn a1 a2 σ)
  unfold H_knownIn
  refine g_aload_n dX11_knownIn_0 rfl rfl ?_
  refine g_iload_n dX11_knownIn_1 rfl rfl ?_
  refine g_iload_n dX11_knownIn_2 rfl rfl ?_
  refine g_callv0 (st := []) 9 mw_X11_aheadStatus lk_RX11_333 rfl kh_0 (ok_H_aheadStatus a1 a2 σ) (Nat.le_of_ble_eq_true rfl) rfl rfl (Nat.le_of_ble_eq_true rfl) dX11_knownIn_3 ?_
  intro r1 s2
  refine g_istore_n (lv' := [some (.inr (.inr 0)), some (.inl a1), some (.inl a2), some (.inl r1)]) dX11_knownIn_6 rfl (Nat.le_of_ble_eq_true rfl) rfl ?_
  refine g_iload_n dX11_knownIn_7 rfl rfl ?_
  refine g_ifeq (tgt := 17) dX11_knownIn_8 (by decide) ?_ ?_
  · refine g_aload_n dX11_knownIn_17 rfl rfl ?_
    refine g_getr' (q := 19) fl_RX11_47 kh_0 (by decide) rfl dX11_knownIn_18 ?_
    refine g_aload_n dX11_knownIn_21 rfl rfl ?_
    refine g_getr' (q := 8) fl_RX11_43 kh_0 (by decide) rfl dX11_knownIn_22 ?_
    refine g_callv2 (st := []) 4 mw_X4_copyFrom lk_RX11_184 rfl kh_19 (ok_Pr_copyFrom 19 8 kh_19 kh_8 s2) (Nat.le_of_ble_eq_true rfl) rfl rfl (Nat.le_of_ble_eq_true rfl) dX11_knownIn_25 ?_
    intro r3 s4
    refine g_aload_n dX11_knownIn_28 rfl rfl ?_
    refine g_getr' (q := 19) fl_RX11_47 kh_0 (by decide) rfl dX11_knownIn_29 ?_
    refine g_iload_n dX11_knownIn_32 rfl rfl ?_
    refine g_callv0 (st := []) 4 mw_X4_passDays lk_RX11_300 rfl kh_19 (ok_Pr_passDays 19 a2 kh_19 s4) (Nat.le_of_ble_eq_true rfl) rfl rfl (Nat.le_of_ble_eq_true rfl) dX11_knownIn_33 ?_
    intro r5 s6
    refine g_pop dX11_knownIn_36 rfl ?_
    refine g_aload_n dX11_knownIn_37 rfl rfl ?_
    refine g_aload_n dX11_knownIn_38 rfl rfl ?_
    refine g_getr' (q := 19) fl_RX11_47 kh_0 (by decide) rfl dX11_knownIn_39 ?_
    refine g_getr' (q := 25) fl_RX11_275 kh_19 (by decide) rfl dX11_knownIn_42 ?_
    refine g_iload_n dX11_knownIn_45 rfl rfl ?_
    refine g_iald kh_25 dX11_knownIn_46 ?_
    intro x7
    refine g_callv0 (st := []) 9 mw_X11_give lk_RX11_194 rfl kh_0 (ok_H_give x7 s6) (Nat.le_of_ble_eq_true rfl) rfl rfl (Nat.le_of_ble_eq_true rfl) dX11_knownIn_47 ?_
    intro r8 s9
    exact g_iret dX11_knownIn_50
  · refine g_aload_n dX11_knownIn_11 rfl rfl ?_
    refine g_iload_n dX11_knownIn_12 rfl rfl ?_
    refine g_callv0 (st := []) 9 mw_X11_fail lk_RX11_147 rfl kh_0 (ok_H_fail r1 s2) (Nat.le_of_ble_eq_true rfl) rfl rfl (Nat.le_of_ble_eq_true rfl) dX11_knownIn_13 ?_
    intro r10 s11
    exact g_iret dX11_knownIn_16
theorem dX4_knowersOf_0 : decode cX4_knowersOf 0 = .ok (.iconst 0, 1) := by decide +kernel
theorem dX4_knowersOf_1 : decode cX4_knowersOf 1 = .ok (.istore_n 2, 1) := by decide +kernel
theorem dX4_knowersOf_2 : decode cX4_knowersOf 2 = .ok (.iconst 0, 1) := by decide +kernel
theorem dX4_knowersOf_3 : decode cX4_knowersOf 3 = .ok (.istore_n 3, 1) := by decide +kernel
theorem dX4_knowersOf_4 : decode cX4_knowersOf 4 = .ok (.iload_n 3, 1) := by decide +kernel
theorem dX4_knowersOf_5 : decode cX4_knowersOf 5 = .ok (.aload_n 0, 1) := by decide +kernel
theorem dX4_knowersOf_6 : decode cX4_knowersOf 6 = .ok (.getfield 53, 3) := by decide +kernel
theorem dX4_knowersOf_9 : decode cX4_knowersOf 9 = .ok (.if_icmp .ge 30, 3) := by decide +kernel
theorem dX4_knowersOf_12 : decode cX4_knowersOf 12 = .ok (.iload_n 3, 1) := by decide +kernel
theorem dX4_knowersOf_13 : decode cX4_knowersOf 13 = .ok (.bipush 6, 2) := by decide +kernel
theorem dX4_knowersOf_15 : decode cX4_knowersOf 15 = .ok (.if_icmp .ge 24, 3) := by decide +kernel
theorem dX4_knowersOf_18 : decode cX4_knowersOf 18 = .ok (.iload_n 2, 1) := by decide +kernel
theorem dX4_knowersOf_19 : decode cX4_knowersOf 19 = .ok (.aload_n 0, 1) := by decide +kernel
theorem dX4_knowersOf_20 : decode cX4_knowersOf 20 = .ok (.getfield 28, 3) := by decide +kernel
theorem dX4_knowersOf_23 : decode cX4_knowersOf 23 = .ok (.iload_n 3, 1) := by decide +kernel
theorem dX4_knowersOf_24 : decode cX4_knowersOf 24 = .ok (.iaload, 1) := by decide +kernel
theorem dX4_knowersOf_25 : decode cX4_knowersOf 25 = .ok (.iload_n 1, 1) := by decide +kernel
theorem dX4_knowersOf_26 : decode cX4_knowersOf 26 = .ok (.ishr, 1) := by decide +kernel
theorem dX4_knowersOf_27 : decode cX4_knowersOf 27 = .ok (.iconst 1, 1) := by decide +kernel
theorem dX4_knowersOf_28 : decode cX4_knowersOf 28 = .ok (.iand, 1) := by decide +kernel
theorem dX4_knowersOf_29 : decode cX4_knowersOf 29 = .ok (.iload_n 3, 1) := by decide +kernel
theorem dX4_knowersOf_30 : decode cX4_knowersOf 30 = .ok (.ishl, 1) := by decide +kernel
theorem dX4_knowersOf_31 : decode cX4_knowersOf 31 = .ok (.ior, 1) := by decide +kernel
theorem dX4_knowersOf_32 : decode cX4_knowersOf 32 = .ok (.istore_n 2, 1) := by decide +kernel
theorem dX4_knowersOf_33 : decode cX4_knowersOf 33 = .ok (.iinc 3 1, 3) := by decide +kernel
theorem dX4_knowersOf_36 : decode cX4_knowersOf 36 = .ok (.goto (-32), 3) := by decide +kernel
theorem dX4_knowersOf_39 : decode cX4_knowersOf 39 = .ok (.iload_n 2, 1) := by decide +kernel
theorem dX4_knowersOf_40 : decode cX4_knowersOf 40 = .ok (.ireturn, 1) := by decide +kernel
theorem mw_X4_knowersOf : MW yX4_knowersOf cX4_knowersOf 4 0 1 false := ⟨tm 1084 (by decide +kernel) rfl, tm 242 (by decide +kernel) rfl, by decide, by decide, (by rw [if_neg (by decide)]; exact ⟨tm 1083 (by decide +kernel) rfl, tm 59 (by decide +kernel) rfl⟩)⟩
def Pr_knowersOf_L4 (pr0 : Nat) (a1 : Int) : Nat → Int → Int → Sg → Rs
  | 0, _, _, _ => none
  | n + 1, v2, v3, σ => (if v3 < (σ pr0 11) then (if v3 < 6 then (rd 6 v3 (σ (pr0 + 6) (Int.toNat v3)) (fun x1 => (nm (or32 v2 (sl32 (an32 (sr32 x1 a1) 1) v3)) (fun x2 => (nm (w32 (v3 + 1)) (fun x3 => (Pr_knowersOf_L4 pr0 a1 n x2 x3 σ))))))) else (some (v2, σ))) else (some (v2, σ)))
theorem ok_Pr_knowersOf_L4 (pr0 : Nat) (a1 : Int) (hpr0 : Kh[pr0]? = some (.inl 4)) : ∀ (n : Nat) (v2 v3 : Int) (σ : Sg), G l Kh Ph RX4 cX4_knowersOf 4 0 1 4 [some (.inr (.inr pr0)), some (.inl a1), some (.inl v2), some (.inl v3)] [] σ (Pr_knowersOf_L4 pr0 a1 n v2 v3 σ) := by
  intro n
  induction n with
  | zero => intros; exact G.none_
  | succ n ih =>
    intro v2 v3 σ
    rw [Pr_knowersOf_L4]
    refine g_iload_n dX4_knowersOf_4 rfl rfl ?_
    refine g_aload_n dX4_knowersOf_5 rfl rfl ?_
    refine g_geti fl_RX4_53 hpr0 (by decide) dX4_knowersOf_6 ?_
    refine g_icmpge (tgt := 39) dX4_knowersOf_9 (by decide) ?_ ?_
    · refine g_iload_n dX4_knowersOf_12 rfl rfl ?_
      refine g_bipush dX4_knowersOf_13 (by decide) ?_
      refine g_icmpge (tgt := 39) dX4_knowersOf_15 (by decide) ?_ ?_
      · refine g_iload_n dX4_knowersOf_18 rfl rfl ?_
        refine g_aload_n dX4_knowersOf_19 rfl rfl ?_
        refine g_getr' (q := (pr0 + 6)) fl_RX4_28 hpr0 (by decide) (qp5 hpr0) dX4_knowersOf_20 ?_
        refine g_iload_n dX4_knowersOf_23 rfl rfl ?_
        refine g_iald (kp5 hpr0) dX4_knowersOf_24 ?_
        intro x1
        refine g_iload_n dX4_knowersOf_25 rfl rfl ?_
        refine g_ishr dX4_knowersOf_26 ?_
        refine g_iconst dX4_knowersOf_27 (by decide) ?_
        refine g_iand dX4_knowersOf_28 ?_
        refine g_iload_n dX4_knowersOf_29 rfl rfl ?_
        refine g_ishl dX4_knowersOf_30 ?_
        refine g_ior dX4_knowersOf_31 ?_
        refine n_istore_n (fun x2 => [some (.inr (.inr pr0)), some (.inl a1), some (.inl x2), some (.inl v3)]) dX4_knowersOf_32 rfl (Nat.le_of_ble_eq_true rfl) (fun _ => rfl) ?_
        intro x2
        refine n_iinc (fun x3 => [some (.inr (.inr pr0)), some (.inl a1), some (.inl x2), some (.inl x3)]) dX4_knowersOf_33 rfl (Nat.le_of_ble_eq_true rfl) (fun _ => rfl) ?_
        intro x3
        refine g_goto (tgt := 4) dX4_knowersOf_36 (by decide) ?_
        exact (ih x2 x3 σ)
      · refine g_iload_n dX4_knowersOf_39 rfl rfl ?_
        exact g_iret dX4_knowersOf_40
    · refine g_iload_n dX4_knowersOf_39 rfl rfl ?_
      exact g_iret dX4_knowersOf_40
def Pr_knowersOf (pr0 : Nat) (a1 : Int) (σ : Sg) : Rs := (Pr_knowersOf_L4 pr0 a1 fu 0 0 σ)
theorem ok_Pr_knowersOf (pr0 : Nat) (a1 : Int) (hpr0 : Kh[pr0]? = some (.inl 4)) (σ : Sg) : MC l Kh Ph yX4_knowersOf cX4_knowersOf 4 0 1 [.inr (.inr pr0), .inl a1] σ (Pr_knowersOf pr0 a1 σ) := by
  refine mc_of (by decide) (Nat.le_of_ble_eq_true rfl) ?_
  change G l Kh Ph RX4 cX4_knowersOf 4 0 1 0 [some (.inr (.inr pr0)), some (.inl a1), none, none] [] σ (Pr_knowersOf pr0 a1 σ)
  unfold Pr_knowersOf
  refine g_iconst dX4_knowersOf_0 (by decide) ?_
  refine g_istore_n (lv' := [some (.inr (.inr pr0)), some (.inl a1), some (.inl 0), none]) dX4_knowersOf_1 rfl (Nat.le_of_ble_eq_true rfl) rfl ?_
  refine g_iconst dX4_knowersOf_2 (by decide) ?_
  refine g_istore_n (lv' := [some (.inr (.inr pr0)), some (.inl a1), some (.inl 0), some (.inl 0)]) dX4_knowersOf_3 rfl (Nat.le_of_ble_eq_true rfl) rfl ?_
  refine (ok_Pr_knowersOf_L4 pr0 a1 hpr0 fu 0 0 σ)
theorem dX11_learn_0 : decode cX11_learn 0 = .ok (.aload_n 0, 1) := by decide +kernel
theorem dX11_learn_1 : decode cX11_learn 1 = .ok (.getfield 43, 3) := by decide +kernel
theorem dX11_learn_4 : decode cX11_learn 4 = .ok (.iload_n 1, 1) := by decide +kernel
theorem dX11_learn_5 : decode cX11_learn 5 = .ok (.invokevirtual 266, 3) := by decide +kernel
theorem dX11_learn_8 : decode cX11_learn 8 = .ok (.ifCond .eq 14, 3) := by decide +kernel
theorem dX11_learn_11 : decode cX11_learn 11 = .ok (.aload_n 0, 1) := by decide +kernel
theorem dX11_learn_12 : decode cX11_learn 12 = .ok (.getfield 43, 3) := by decide +kernel
theorem dX11_learn_15 : decode cX11_learn 15 = .ok (.iload_n 2, 1) := by decide +kernel
theorem dX11_learn_16 : decode cX11_learn 16 = .ok (.invokevirtual 248, 3) := by decide +kernel
theorem dX11_learn_19 : decode cX11_learn 19 = .ok (.ifCond .ne 9, 3) := by decide +kernel
theorem dX11_learn_22 : decode cX11_learn 22 = .ok (.aload_n 0, 1) := by decide +kernel
theorem dX11_learn_23 : decode cX11_learn 23 = .ok (.iconst 2, 1) := by decide +kernel
theorem dX11_learn_24 : decode cX11_learn 24 = .ok (.invokevirtual 147, 3) := by decide +kernel
theorem dX11_learn_27 : decode cX11_learn 27 = .ok (.ireturn, 1) := by decide +kernel
theorem dX11_learn_28 : decode cX11_learn 28 = .ok (.aload_n 0, 1) := by decide +kernel
theorem dX11_learn_29 : decode cX11_learn 29 = .ok (.getfield 43, 3) := by decide +kernel
theorem dX11_learn_32 : decode cX11_learn 32 = .ok (.iload_n 1, 1) := by decide +kernel
theorem dX11_learn_33 : decode cX11_learn 33 = .ok (.iload_n 2, 1) := by decide +kernel
theorem dX11_learn_34 : decode cX11_learn 34 = .ok (.invokevirtual 321, 3) := by decide +kernel
theorem dX11_learn_37 : decode cX11_learn 37 = .ok (.ifCond .eq 10, 3) := by decide +kernel
theorem dX11_learn_40 : decode cX11_learn 40 = .ok (.aload_n 0, 1) := by decide +kernel
theorem dX11_learn_41 : decode cX11_learn 41 = .ok (.bipush 9, 2) := by decide +kernel
theorem dX11_learn_43 : decode cX11_learn 43 = .ok (.invokevirtual 147, 3) := by decide +kernel
theorem dX11_learn_46 : decode cX11_learn 46 = .ok (.ireturn, 1) := by decide +kernel
theorem dX11_learn_47 : decode cX11_learn 47 = .ok (.aload_n 0, 1) := by decide +kernel
theorem dX11_learn_48 : decode cX11_learn 48 = .ok (.getfield 43, 3) := by decide +kernel
theorem dX11_learn_51 : decode cX11_learn 51 = .ok (.getfield 275, 3) := by decide +kernel
theorem dX11_learn_54 : decode cX11_learn 54 = .ok (.iload_n 1, 1) := by decide +kernel
theorem dX11_learn_55 : decode cX11_learn 55 = .ok (.dup2, 1) := by decide +kernel
theorem dX11_learn_56 : decode cX11_learn 56 = .ok (.iaload, 1) := by decide +kernel
theorem dX11_learn_57 : decode cX11_learn 57 = .ok (.iconst 1, 1) := by decide +kernel
theorem dX11_learn_58 : decode cX11_learn 58 = .ok (.iload_n 2, 1) := by decide +kernel
theorem dX11_learn_59 : decode cX11_learn 59 = .ok (.ishl, 1) := by decide +kernel
theorem dX11_learn_60 : decode cX11_learn 60 = .ok (.ior, 1) := by decide +kernel
theorem dX11_learn_61 : decode cX11_learn 61 = .ok (.iastore, 1) := by decide +kernel
theorem dX11_learn_62 : decode cX11_learn 62 = .ok (.aload_n 0, 1) := by decide +kernel
theorem dX11_learn_63 : decode cX11_learn 63 = .ok (.aload_n 0, 1) := by decide +kernel
theorem dX11_learn_64 : decode cX11_learn 64 = .ok (.getfield 43, 3) := by decide +kernel
theorem dX11_learn_67 : decode cX11_learn 67 = .ok (.iload_n 2, 1) := by decide +kernel
theorem dX11_learn_68 : decode cX11_learn 68 = .ok (.invokevirtual 257, 3) := by decide +kernel
theorem dX11_learn_71 : decode cX11_learn 71 = .ok (.invokestatic 316, 3) := by decide +kernel
theorem dX11_learn_74 : decode cX11_learn 74 = .ok (.invokevirtual 194, 3) := by decide +kernel
theorem dX11_learn_77 : decode cX11_learn 77 = .ok (.ireturn, 1) := by decide +kernel
theorem mw_X11_learn : MW yX11_learn cX11_learn 3 0 2 false := ⟨tm 1191 (by decide +kernel) rfl, tm 235 (by decide +kernel) rfl, by decide, by decide, (by rw [if_neg (by decide)]; exact ⟨tm 1189 (by decide +kernel) rfl, tm 1190 (by decide +kernel) rfl⟩)⟩
theorem lk_RX11_257 : LK RX11 257 yX4_knowersOf := Or.inr ⟨"HairProvince", tm 1081 (by decide +kernel) rfl⟩
theorem lk_RX11_321 : LK RX11 321 yX4_isKnown := Or.inr ⟨"HairProvince", tm 1192 (by decide +kernel) rfl⟩
def H_learn (a1 : Int) (a2 : Int) (σ : Sg) : Rs := (bd (Pr_isPerson 8 a1 σ) (fun r1 s2 => (if r1 = 0 then (bd (H_fail 2 s2) (fun r3 s4 => (some (r3, s4)))) else (bd (Pr_isWord 8 a2 s2) (fun r5 s6 => (if r5 = 0 then (bd (H_fail 2 s6) (fun r7 s8 => (some (r7, s8)))) else (bd (Pr_isKnown 8 a1 a2 s6) (fun r9 s10 => (if r9 = 0 then (rd 6 a1 (s10 14 (Int.toNat a1)) (fun x11 => (wr 6 a1 (up_s s10 14 (Int.toNat a1) (or32 x11 (sl32 1 a2))) (fun s12 => (bd (Pr_knowersOf 8 a2 s12) (fun r13 s14 => (bd (JI_bitCount r13 s14) (fun r15 s16 => (bd (H_give r15 s16) (fun r17 s18 => (some (r17, s18)))))))))))) else (bd (H_fail 9 s10) (fun r19 s20 => (some (r19, s20)))))))))))))
theorem ok_H_learn (a1 : Int) (a2 : Int) (σ : Sg) : MC l Kh Ph yX11_learn cX11_learn 3 0 2 [.inr (.inr 0), .inl a1, .inl a2] σ (H_learn a1 a2 σ) := by
  refine mc_of (by decide) (Nat.le_of_ble_eq_true rfl) ?_
  change G l Kh Ph RX11 cX11_learn 3 0 2 0 [some (.inr (.inr 0)), some (.inl a1), some (.inl a2)] [] σ (H_learn a1 a2 σ)
  unfold H_learn
  refine g_aload_n dX11_learn_0 rfl rfl ?_
  refine g_getr' (q := 8) fl_RX11_43 kh_0 (by decide) rfl dX11_learn_1 ?_
  refine g_iload_n dX11_learn_4 rfl rfl ?_
  refine g_callv3 (st := []) 4 mw_X4_isPerson lk_RX11_266 rfl kh_8 (ok_Pr_isPerson 8 a1 kh_8 σ) (Nat.le_of_ble_eq_true rfl) rfl rfl (Nat.le_of_ble_eq_true rfl) dX11_learn_5 ?_
  intro r1 s2
  refine g_ifeq (tgt := 22) dX11_learn_8 (by decide) ?_ ?_
  · refine g_aload_n dX11_learn_22 rfl rfl ?_
    refine g_iconst dX11_learn_23 (by decide) ?_
    refine g_callv0 (st := []) 9 mw_X11_fail lk_RX11_147 rfl kh_0 (ok_H_fail 2 s2) (Nat.le_of_ble_eq_true rfl) rfl rfl (Nat.le_of_ble_eq_true rfl) dX11_learn_24 ?_
    intro r3 s4
    exact g_iret dX11_learn_27
  · refine g_aload_n dX11_learn_11 rfl rfl ?_
    refine g_getr' (q := 8) fl_RX11_43 kh_0 (by decide) rfl dX11_learn_12 ?_
    refine g_iload_n dX11_learn_15 rfl rfl ?_
    refine g_callv3 (st := []) 4 mw_X4_isWord lk_RX11_248 rfl kh_8 (ok_Pr_isWord 8 a2 kh_8 s2) (Nat.le_of_ble_eq_true rfl) rfl rfl (Nat.le_of_ble_eq_true rfl) dX11_learn_16 ?_
    intro r5 s6
    refine g_ifne (tgt := 28) dX11_learn_19 (by decide) ?_ ?_
    · refine g_aload_n dX11_learn_22 rfl rfl ?_
      refine g_iconst dX11_learn_23 (by decide) ?_
      refine g_callv0 (st := []) 9 mw_X11_fail lk_RX11_147 rfl kh_0 (ok_H_fail 2 s6) (Nat.le_of_ble_eq_true rfl) rfl rfl (Nat.le_of_ble_eq_true rfl) dX11_learn_24 ?_
      intro r7 s8
      exact g_iret dX11_learn_27
    · refine g_aload_n dX11_learn_28 rfl rfl ?_
      refine g_getr' (q := 8) fl_RX11_43 kh_0 (by decide) rfl dX11_learn_29 ?_
      refine g_iload_n dX11_learn_32 rfl rfl ?_
      refine g_iload_n dX11_learn_33 rfl rfl ?_
      refine g_callv3 (st := []) 4 mw_X4_isKnown lk_RX11_321 rfl kh_8 (ok_Pr_isKnown 8 a1 a2 kh_8 s6) (Nat.le_of_ble_eq_true rfl) rfl rfl (Nat.le_of_ble_eq_true rfl) dX11_learn_34 ?_
      intro r9 s10
      refine g_ifeq (tgt := 47) dX11_learn_37 (by decide) ?_ ?_
      · refine g_aload_n dX11_learn_47 rfl rfl ?_
        refine g_getr' (q := 8) fl_RX11_43 kh_0 (by decide) rfl dX11_learn_48 ?_
        refine g_getr' (q := 14) fl_RX11_275 kh_8 (by decide) rfl dX11_learn_51 ?_
        refine g_iload_n dX11_learn_54 rfl rfl ?_
        refine g_dup2 dX11_learn_55 rfl rfl ?_
        refine g_iald kh_14 dX11_learn_56 ?_
        intro x11
        refine g_iconst dX11_learn_57 (by decide) ?_
        refine g_iload_n dX11_learn_58 rfl rfl ?_
        refine g_ishl dX11_learn_59 ?_
        refine g_ior dX11_learn_60 ?_
        refine g_iast kh_14 dX11_learn_61 ?_
        intro s12
        refine g_aload_n dX11_learn_62 rfl rfl ?_
        refine g_aload_n dX11_learn_63 rfl rfl ?_
        refine g_getr' (q := 8) fl_RX11_43 kh_0 (by decide) rfl dX11_learn_64 ?_
        refine g_iload_n dX11_learn_67 rfl rfl ?_
        refine g_callv0 (st := [.inr (.inr 0)]) 4 mw_X4_knowersOf lk_RX11_257 rfl kh_8 (ok_Pr_knowersOf 8 a2 kh_8 s12) (Nat.le_of_ble_eq_true rfl) rfl rfl (Nat.le_of_ble_eq_true rfl) dX11_learn_68 ?_
        intro r13 s14
        refine g_calls0 (st := [.inr (.inr 0)]) mw_J6_bitCount_0f7a4 lk_RX11_316 (ok_JI_bitCount r13 s14) (Nat.le_of_ble_eq_true rfl) rfl rfl (Nat.le_of_ble_eq_true rfl) dX11_learn_71 ?_
        intro r15 s16
        refine g_callv0 (st := []) 9 mw_X11_give lk_RX11_194 rfl kh_0 (ok_H_give r15 s16) (Nat.le_of_ble_eq_true rfl) rfl rfl (Nat.le_of_ble_eq_true rfl) dX11_learn_74 ?_
        intro r17 s18
        exact g_iret dX11_learn_77
      · refine g_aload_n dX11_learn_40 rfl rfl ?_
        refine g_bipush dX11_learn_41 (by decide) ?_
        refine g_callv0 (st := []) 9 mw_X11_fail lk_RX11_147 rfl kh_0 (ok_H_fail 9 s10) (Nat.le_of_ble_eq_true rfl) rfl rfl (Nat.le_of_ble_eq_true rfl) dX11_learn_43 ?_
        intro r19 s20
        exact g_iret dX11_learn_46
theorem dX11_learnsIn_0 : decode cX11_learnsIn 0 = .ok (.aload_n 0, 1) := by decide +kernel
theorem dX11_learnsIn_1 : decode cX11_learnsIn 1 = .ok (.getfield 43, 3) := by decide +kernel
theorem dX11_learnsIn_4 : decode cX11_learnsIn 4 = .ok (.iload_n 1, 1) := by decide +kernel
theorem dX11_learnsIn_5 : decode cX11_learnsIn 5 = .ok (.invokevirtual 266, 3) := by decide +kernel
theorem dX11_learnsIn_8 : decode cX11_learnsIn 8 = .ok (.ifCond .eq 14, 3) := by decide +kernel
theorem dX11_learnsIn_11 : decode cX11_learnsIn 11 = .ok (.aload_n 0, 1) := by decide +kernel
theorem dX11_learnsIn_12 : decode cX11_learnsIn 12 = .ok (.getfield 43, 3) := by decide +kernel
theorem dX11_learnsIn_15 : decode cX11_learnsIn 15 = .ok (.iload_n 2, 1) := by decide +kernel
theorem dX11_learnsIn_16 : decode cX11_learnsIn 16 = .ok (.invokevirtual 248, 3) := by decide +kernel
theorem dX11_learnsIn_19 : decode cX11_learnsIn 19 = .ok (.ifCond .ne 9, 3) := by decide +kernel
theorem dX11_learnsIn_22 : decode cX11_learnsIn 22 = .ok (.aload_n 0, 1) := by decide +kernel
theorem dX11_learnsIn_23 : decode cX11_learnsIn 23 = .ok (.iconst 2, 1) := by decide +kernel
theorem dX11_learnsIn_24 : decode cX11_learnsIn 24 = .ok (.invokevirtual 147, 3) := by decide +kernel
theorem dX11_learnsIn_27 : decode cX11_learnsIn 27 = .ok (.ireturn, 1) := by decide +kernel
theorem dX11_learnsIn_28 : decode cX11_learnsIn 28 = .ok (.aload_n 0, 1) := by decide +kernel
theorem dX11_learnsIn_29 : decode cX11_learnsIn 29 = .ok (.getfield 47, 3) := by decide +kernel
theorem dX11_learnsIn_32 : decode cX11_learnsIn 32 = .ok (.aload_n 0, 1) := by decide +kernel
theorem dX11_learnsIn_33 : decode cX11_learnsIn 33 = .ok (.getfield 43, 3) := by decide +kernel
theorem dX11_learnsIn_36 : decode cX11_learnsIn 36 = .ok (.invokevirtual 184, 3) := by decide +kernel
theorem dX11_learnsIn_39 : decode cX11_learnsIn 39 = .ok (.iconst 0, 1) := by decide +kernel
theorem dX11_learnsIn_40 : decode cX11_learnsIn 40 = .ok (.istore_n 3, 1) := by decide +kernel
theorem dX11_learnsIn_41 : decode cX11_learnsIn 41 = .ok (.iload_n 3, 1) := by decide +kernel
theorem dX11_learnsIn_42 : decode cX11_learnsIn 42 = .ok (.sipush 200, 3) := by decide +kernel
theorem dX11_learnsIn_45 : decode cX11_learnsIn 45 = .ok (.if_icmp .gt 36, 3) := by decide +kernel
theorem dX11_learnsIn_48 : decode cX11_learnsIn 48 = .ok (.aload_n 0, 1) := by decide +kernel
theorem dX11_learnsIn_49 : decode cX11_learnsIn 49 = .ok (.getfield 47, 3) := by decide +kernel
theorem dX11_learnsIn_52 : decode cX11_learnsIn 52 = .ok (.iload_n 1, 1) := by decide +kernel
theorem dX11_learnsIn_53 : decode cX11_learnsIn 53 = .ok (.iload_n 2, 1) := by decide +kernel
theorem dX11_learnsIn_54 : decode cX11_learnsIn 54 = .ok (.invokevirtual 321, 3) := by decide +kernel
theorem dX11_learnsIn_57 : decode cX11_learnsIn 57 = .ok (.ifCond .eq 9, 3) := by decide +kernel
theorem dX11_learnsIn_60 : decode cX11_learnsIn 60 = .ok (.aload_n 0, 1) := by decide +kernel
theorem dX11_learnsIn_61 : decode cX11_learnsIn 61 = .ok (.iload_n 3, 1) := by decide +kernel
theorem dX11_learnsIn_62 : decode cX11_learnsIn 62 = .ok (.invokevirtual 194, 3) := by decide +kernel
theorem dX11_learnsIn_65 : decode cX11_learnsIn 65 = .ok (.ireturn, 1) := by decide +kernel
theorem dX11_learnsIn_66 : decode cX11_learnsIn 66 = .ok (.aload_n 0, 1) := by decide +kernel
theorem dX11_learnsIn_67 : decode cX11_learnsIn 67 = .ok (.getfield 47, 3) := by decide +kernel
theorem dX11_learnsIn_70 : decode cX11_learnsIn 70 = .ok (.iconst 1, 1) := by decide +kernel
theorem dX11_learnsIn_71 : decode cX11_learnsIn 71 = .ok (.invokevirtual 300, 3) := by decide +kernel
theorem dX11_learnsIn_74 : decode cX11_learnsIn 74 = .ok (.pop, 1) := by decide +kernel
theorem dX11_learnsIn_75 : decode cX11_learnsIn 75 = .ok (.iinc 3 1, 3) := by decide +kernel
theorem dX11_learnsIn_78 : decode cX11_learnsIn 78 = .ok (.goto (-37), 3) := by decide +kernel
theorem dX11_learnsIn_81 : decode cX11_learnsIn 81 = .ok (.aload_n 0, 1) := by decide +kernel
theorem dX11_learnsIn_82 : decode cX11_learnsIn 82 = .ok (.bipush 8, 2) := by decide +kernel
theorem dX11_learnsIn_84 : decode cX11_learnsIn 84 = .ok (.invokevirtual 147, 3) := by decide +kernel
theorem dX11_learnsIn_87 : decode cX11_learnsIn 87 = .ok (.ireturn, 1) := by decide +kernel
theorem mw_X11_learnsIn : MW yX11_learnsIn cX11_learnsIn 4 0 2 false := ⟨tm 1248 (by decide +kernel) rfl, tm 235 (by decide +kernel) rfl, by decide, by decide, (by rw [if_neg (by decide)]; exact ⟨tm 1246 (by decide +kernel) rfl, tm 1247 (by decide +kernel) rfl⟩)⟩
def H_learnsIn_L41 (a1 : Int) (a2 : Int) : Nat → Int → Sg → Rs
  | 0, _, _ => none
  | n + 1, v3, σ => (if 200 < v3 then (bd (H_fail 8 σ) (fun r11 s12 => (some (r11, s12)))) else (bd (Pr_isKnown 19 a1 a2 σ) (fun r13 s14 => (if r13 = 0 then (bd (Pr_passDays 19 1 s14) (fun r15 s16 => (nm (w32 (v3 + 1)) (fun x17 => (H_learnsIn_L41 a1 a2 n x17 s16))))) else (bd (H_give v3 s14) (fun r18 s19 => (some (r18, s19))))))))
theorem ok_H_learnsIn_L41 (a1 : Int) (a2 : Int) : ∀ (n : Nat) (v3 : Int) (σ : Sg), G l Kh Ph RX11 cX11_learnsIn 4 0 5 41 [some (.inr (.inr 0)), some (.inl a1), some (.inl a2), some (.inl v3)] [] σ (H_learnsIn_L41 a1 a2 n v3 σ) := by
  intro n
  induction n with
  | zero => intros; exact G.none_
  | succ n ih =>
    intro v3 σ
    rw [H_learnsIn_L41]
    refine g_iload_n dX11_learnsIn_41 rfl rfl ?_
    refine g_sipush dX11_learnsIn_42 (by decide) ?_
    refine g_icmpgt (tgt := 81) dX11_learnsIn_45 (by decide) ?_ ?_
    · refine g_aload_n dX11_learnsIn_81 rfl rfl ?_
      refine g_bipush dX11_learnsIn_82 (by decide) ?_
      refine g_callv0 (st := []) 9 mw_X11_fail lk_RX11_147 rfl kh_0 (ok_H_fail 8 σ) (Nat.le_of_ble_eq_true rfl) rfl rfl (Nat.le_of_ble_eq_true rfl) dX11_learnsIn_84 ?_
      intro r11 s12
      exact g_iret dX11_learnsIn_87
    · refine g_aload_n dX11_learnsIn_48 rfl rfl ?_
      refine g_getr' (q := 19) fl_RX11_47 kh_0 (by decide) rfl dX11_learnsIn_49 ?_
      refine g_iload_n dX11_learnsIn_52 rfl rfl ?_
      refine g_iload_n dX11_learnsIn_53 rfl rfl ?_
      refine g_callv3 (st := []) 4 mw_X4_isKnown lk_RX11_321 rfl kh_19 (ok_Pr_isKnown 19 a1 a2 kh_19 σ) (Nat.le_of_ble_eq_true rfl) rfl rfl (Nat.le_of_ble_eq_true rfl) dX11_learnsIn_54 ?_
      intro r13 s14
      refine g_ifeq (tgt := 66) dX11_learnsIn_57 (by decide) ?_ ?_
      · refine g_aload_n dX11_learnsIn_66 rfl rfl ?_
        refine g_getr' (q := 19) fl_RX11_47 kh_0 (by decide) rfl dX11_learnsIn_67 ?_
        refine g_iconst dX11_learnsIn_70 (by decide) ?_
        refine g_callv0 (st := []) 4 mw_X4_passDays lk_RX11_300 rfl kh_19 (ok_Pr_passDays 19 1 kh_19 s14) (Nat.le_of_ble_eq_true rfl) rfl rfl (Nat.le_of_ble_eq_true rfl) dX11_learnsIn_71 ?_
        intro r15 s16
        refine g_pop dX11_learnsIn_74 rfl ?_
        refine n_iinc (fun x17 => [some (.inr (.inr 0)), some (.inl a1), some (.inl a2), some (.inl x17)]) dX11_learnsIn_75 rfl (Nat.le_of_ble_eq_true rfl) (fun _ => rfl) ?_
        intro x17
        refine g_goto (tgt := 41) dX11_learnsIn_78 (by decide) ?_
        exact (ih x17 s16)
      · refine g_aload_n dX11_learnsIn_60 rfl rfl ?_
        refine g_iload_n dX11_learnsIn_61 rfl rfl ?_
        refine g_callv0 (st := []) 9 mw_X11_give lk_RX11_194 rfl kh_0 (ok_H_give v3 s14) (Nat.le_of_ble_eq_true rfl) rfl rfl (Nat.le_of_ble_eq_true rfl) dX11_learnsIn_62 ?_
        intro r18 s19
        exact g_iret dX11_learnsIn_65
def H_learnsIn (a1 : Int) (a2 : Int) (σ : Sg) : Rs := (bd (Pr_isPerson 8 a1 σ) (fun r1 s2 => (if r1 = 0 then (bd (H_fail 2 s2) (fun r3 s4 => (some (r3, s4)))) else (bd (Pr_isWord 8 a2 s2) (fun r5 s6 => (if r5 = 0 then (bd (H_fail 2 s6) (fun r7 s8 => (some (r7, s8)))) else (bd (Pr_copyFrom 19 8 s6) (fun r9 s10 => (H_learnsIn_L41 a1 a2 fu 0 s10)))))))))
theorem ok_H_learnsIn (a1 : Int) (a2 : Int) (σ : Sg) : MC l Kh Ph yX11_learnsIn cX11_learnsIn 4 0 5 [.inr (.inr 0), .inl a1, .inl a2] σ (H_learnsIn a1 a2 σ) := by
  refine mc_of (by decide) (Nat.le_of_ble_eq_true rfl) ?_
  change G l Kh Ph RX11 cX11_learnsIn 4 0 5 0 [some (.inr (.inr 0)), some (.inl a1), some (.inl a2), none] [] σ (H_learnsIn a1 a2 σ)
  unfold H_learnsIn
  refine g_aload_n dX11_learnsIn_0 rfl rfl ?_
  refine g_getr' (q := 8) fl_RX11_43 kh_0 (by decide) rfl dX11_learnsIn_1 ?_
  refine g_iload_n dX11_learnsIn_4 rfl rfl ?_
  refine g_callv3 (st := []) 4 mw_X4_isPerson lk_RX11_266 rfl kh_8 (ok_Pr_isPerson 8 a1 kh_8 σ) (Nat.le_of_ble_eq_true rfl) rfl rfl (Nat.le_of_ble_eq_true rfl) dX11_learnsIn_5 ?_
  intro r1 s2
  refine g_ifeq (tgt := 22) dX11_learnsIn_8 (by decide) ?_ ?_
  · refine g_aload_n dX11_learnsIn_22 rfl rfl ?_
    refine g_iconst dX11_learnsIn_23 (by decide) ?_
    refine g_callv0 (st := []) 9 mw_X11_fail lk_RX11_147 rfl kh_0 (ok_H_fail 2 s2) (Nat.le_of_ble_eq_true rfl) rfl rfl (Nat.le_of_ble_eq_true rfl) dX11_learnsIn_24 ?_
    intro r3 s4
    exact g_iret dX11_learnsIn_27
  · refine g_aload_n dX11_learnsIn_11 rfl rfl ?_
    refine g_getr' (q := 8) fl_RX11_43 kh_0 (by decide) rfl dX11_learnsIn_12 ?_
    refine g_iload_n dX11_learnsIn_15 rfl rfl ?_
    refine g_callv3 (st := []) 4 mw_X4_isWord lk_RX11_248 rfl kh_8 (ok_Pr_isWord 8 a2 kh_8 s2) (Nat.le_of_ble_eq_true rfl) rfl rfl (Nat.le_of_ble_eq_true rfl) dX11_learnsIn_16 ?_
    intro r5 s6
    refine g_ifne (tgt := 28) dX11_learnsIn_19 (by decide) ?_ ?_
    · refine g_aload_n dX11_learnsIn_22 rfl rfl ?_
      refine g_iconst dX11_learnsIn_23 (by decide) ?_
      refine g_callv0 (st := []) 9 mw_X11_fail lk_RX11_147 rfl kh_0 (ok_H_fail 2 s6) (Nat.le_of_ble_eq_true rfl) rfl rfl (Nat.le_of_ble_eq_true rfl) dX11_learnsIn_24 ?_
      intro r7 s8
      exact g_iret dX11_learnsIn_27
    · refine g_aload_n dX11_learnsIn_28 rfl rfl ?_
      refine g_getr' (q := 19) fl_RX11_47 kh_0 (by decide) rfl dX11_learnsIn_29 ?_
      refine g_aload_n dX11_learnsIn_32 rfl rfl ?_
      refine g_getr' (q := 8) fl_RX11_43 kh_0 (by decide) rfl dX11_learnsIn_33 ?_
      refine g_callv2 (st := []) 4 mw_X4_copyFrom lk_RX11_184 rfl kh_19 (ok_Pr_copyFrom 19 8 kh_19 kh_8 s6) (Nat.le_of_ble_eq_true rfl) rfl rfl (Nat.le_of_ble_eq_true rfl) dX11_learnsIn_36 ?_
      intro r9 s10
      refine g_iconst dX11_learnsIn_39 (by decide) ?_
      refine g_istore_n (lv' := [some (.inr (.inr 0)), some (.inl a1), some (.inl a2), some (.inl 0)]) dX11_learnsIn_40 rfl (Nat.le_of_ble_eq_true rfl) rfl ?_
      refine (ok_H_learnsIn_L41 a1 a2 fu 0 s10)
theorem dX11_lengthOf_0 : decode cX11_lengthOf 0 = .ok (.aload_n 0, 1) := by decide +kernel
theorem dX11_lengthOf_1 : decode cX11_lengthOf 1 = .ok (.getfield 43, 3) := by decide +kernel
theorem dX11_lengthOf_4 : decode cX11_lengthOf 4 = .ok (.iload_n 1, 1) := by decide +kernel
theorem dX11_lengthOf_5 : decode cX11_lengthOf 5 = .ok (.invokevirtual 376, 3) := by decide +kernel
theorem dX11_lengthOf_8 : decode cX11_lengthOf 8 = .ok (.ifCond .eq 14, 3) := by decide +kernel
theorem dX11_lengthOf_11 : decode cX11_lengthOf 11 = .ok (.iload_n 2, 1) := by decide +kernel
theorem dX11_lengthOf_12 : decode cX11_lengthOf 12 = .ok (.iconst 0, 1) := by decide +kernel
theorem dX11_lengthOf_13 : decode cX11_lengthOf 13 = .ok (.sipush 999, 3) := by decide +kernel
theorem dX11_lengthOf_16 : decode cX11_lengthOf 16 = .ok (.invokestatic 135, 3) := by decide +kernel
theorem dX11_lengthOf_19 : decode cX11_lengthOf 19 = .ok (.ifCond .ne 9, 3) := by decide +kernel
theorem dX11_lengthOf_22 : decode cX11_lengthOf 22 = .ok (.aload_n 0, 1) := by decide +kernel
theorem dX11_lengthOf_23 : decode cX11_lengthOf 23 = .ok (.iconst 5, 1) := by decide +kernel
theorem dX11_lengthOf_24 : decode cX11_lengthOf 24 = .ok (.invokevirtual 147, 3) := by decide +kernel
theorem dX11_lengthOf_27 : decode cX11_lengthOf 27 = .ok (.ireturn, 1) := by decide +kernel
theorem dX11_lengthOf_28 : decode cX11_lengthOf 28 = .ok (.aload_n 0, 1) := by decide +kernel
theorem dX11_lengthOf_29 : decode cX11_lengthOf 29 = .ok (.aload_n 0, 1) := by decide +kernel
theorem dX11_lengthOf_30 : decode cX11_lengthOf 30 = .ok (.getfield 43, 3) := by decide +kernel
theorem dX11_lengthOf_33 : decode cX11_lengthOf 33 = .ok (.iload_n 1, 1) := by decide +kernel
theorem dX11_lengthOf_34 : decode cX11_lengthOf 34 = .ok (.iload_n 2, 1) := by decide +kernel
theorem dX11_lengthOf_35 : decode cX11_lengthOf 35 = .ok (.invokevirtual 379, 3) := by decide +kernel
theorem dX11_lengthOf_38 : decode cX11_lengthOf 38 = .ok (.invokevirtual 194, 3) := by decide +kernel
theorem dX11_lengthOf_41 : decode cX11_lengthOf 41 = .ok (.ireturn, 1) := by decide +kernel
theorem mw_X11_lengthOf : MW yX11_lengthOf cX11_lengthOf 3 0 2 false := ⟨tm 1330 (by decide +kernel) rfl, tm 235 (by decide +kernel) rfl, by decide, by decide, (by rw [if_neg (by decide)]; exact ⟨tm 1328 (by decide +kernel) rfl, tm 1329 (by decide +kernel) rfl⟩)⟩
def H_lengthOf (a1 : Int) (a2 : Int) (σ : Sg) : Rs := (bd (Pr_isWordSet 8 a1 σ) (fun r1 s2 => (if r1 = 0 then (bd (H_fail 5 s2) (fun r3 s4 => (some (r3, s4)))) else (bd (H_within a2 0 999 s2) (fun r5 s6 => (if r5 = 0 then (bd (H_fail 5 s6) (fun r7 s8 => (some (r7, s8)))) else (bd (Pr_grownTogether 8 a1 a2 s6) (fun r9 s10 => (bd (H_give r9 s10) (fun r11 s12 => (some (r11, s12))))))))))))
theorem ok_H_lengthOf (a1 : Int) (a2 : Int) (σ : Sg) : MC l Kh Ph yX11_lengthOf cX11_lengthOf 3 0 3 [.inr (.inr 0), .inl a1, .inl a2] σ (H_lengthOf a1 a2 σ) := by
  refine mc_of (by decide) (Nat.le_of_ble_eq_true rfl) ?_
  change G l Kh Ph RX11 cX11_lengthOf 3 0 3 0 [some (.inr (.inr 0)), some (.inl a1), some (.inl a2)] [] σ (H_lengthOf a1 a2 σ)
  unfold H_lengthOf
  refine g_aload_n dX11_lengthOf_0 rfl rfl ?_
  refine g_getr' (q := 8) fl_RX11_43 kh_0 (by decide) rfl dX11_lengthOf_1 ?_
  refine g_iload_n dX11_lengthOf_4 rfl rfl ?_
  refine g_callv3 (st := []) 4 mw_X4_isWordSet lk_RX11_376 rfl kh_8 (ok_Pr_isWordSet 8 a1 kh_8 σ) (Nat.le_of_ble_eq_true rfl) rfl rfl (Nat.le_of_ble_eq_true rfl) dX11_lengthOf_5 ?_
  intro r1 s2
  refine g_ifeq (tgt := 22) dX11_lengthOf_8 (by decide) ?_ ?_
  · refine g_aload_n dX11_lengthOf_22 rfl rfl ?_
    refine g_iconst dX11_lengthOf_23 (by decide) ?_
    refine g_callv0 (st := []) 9 mw_X11_fail lk_RX11_147 rfl kh_0 (ok_H_fail 5 s2) (Nat.le_of_ble_eq_true rfl) rfl rfl (Nat.le_of_ble_eq_true rfl) dX11_lengthOf_24 ?_
    intro r3 s4
    exact g_iret dX11_lengthOf_27
  · refine g_iload_n dX11_lengthOf_11 rfl rfl ?_
    refine g_iconst dX11_lengthOf_12 (by decide) ?_
    refine g_sipush dX11_lengthOf_13 (by decide) ?_
    refine g_calls3 (st := []) mw_X11_within lk_RX11_135 (ok_H_within a2 0 999 s2) (Nat.le_of_ble_eq_true rfl) rfl rfl (Nat.le_of_ble_eq_true rfl) dX11_lengthOf_16 ?_
    intro r5 s6
    refine g_ifne (tgt := 28) dX11_lengthOf_19 (by decide) ?_ ?_
    · refine g_aload_n dX11_lengthOf_22 rfl rfl ?_
      refine g_iconst dX11_lengthOf_23 (by decide) ?_
      refine g_callv0 (st := []) 9 mw_X11_fail lk_RX11_147 rfl kh_0 (ok_H_fail 5 s6) (Nat.le_of_ble_eq_true rfl) rfl rfl (Nat.le_of_ble_eq_true rfl) dX11_lengthOf_24 ?_
      intro r7 s8
      exact g_iret dX11_lengthOf_27
    · refine g_aload_n dX11_lengthOf_28 rfl rfl ?_
      refine g_aload_n dX11_lengthOf_29 rfl rfl ?_
      refine g_getr' (q := 8) fl_RX11_43 kh_0 (by decide) rfl dX11_lengthOf_30 ?_
      refine g_iload_n dX11_lengthOf_33 rfl rfl ?_
      refine g_iload_n dX11_lengthOf_34 rfl rfl ?_
      refine g_callv0 (st := [.inr (.inr 0)]) 4 mw_X4_grownTogether lk_RX11_379 rfl kh_8 (ok_Pr_grownTogether 8 a1 a2 kh_8 s6) (Nat.le_of_ble_eq_true rfl) rfl rfl (Nat.le_of_ble_eq_true rfl) dX11_lengthOf_35 ?_
      intro r9 s10
      refine g_callv0 (st := []) 9 mw_X11_give lk_RX11_194 rfl kh_0 (ok_H_give r9 s10) (Nat.le_of_ble_eq_true rfl) rfl rfl (Nat.le_of_ble_eq_true rfl) dX11_lengthOf_38 ?_
      intro r11 s12
      exact g_iret dX11_lengthOf_41
end WK
