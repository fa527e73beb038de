section WK
variable {l : Launch}
theorem dX12_readStep_0 : decode cX12_readStep 0 = .ok (.aload_n 0, 1) := by decide +kernel
theorem dX12_readStep_1 : decode cX12_readStep 1 = .ok (.invokevirtual 198, 3) := by decide +kernel
theorem dX12_readStep_4 : decode cX12_readStep 4 = .ok (.istore_n 2, 1) := by decide +kernel
theorem dX12_readStep_5 : decode cX12_readStep 5 = .ok (.iload_n 2, 1) := by decide +kernel
theorem dX12_readStep_6 : decode cX12_readStep 6 = .ok (.iconst 5, 1) := by decide +kernel
theorem dX12_readStep_7 : decode cX12_readStep 7 = .ok (.if_icmp .eq 9, 3) := by decide +kernel
theorem dX12_readStep_10 : decode cX12_readStep 10 = .ok (.iload_n 2, 1) := by decide +kernel
theorem dX12_readStep_11 : decode cX12_readStep 11 = .ok (.bipush 6, 2) := by decide +kernel
theorem dX12_readStep_13 : decode cX12_readStep 13 = .ok (.if_icmp .ne 7, 3) := by decide +kernel
theorem dX12_readStep_16 : decode cX12_readStep 16 = .ok (.iconst 1, 1) := by decide +kernel
theorem dX12_readStep_17 : decode cX12_readStep 17 = .ok (.goto 4, 3) := by decide +kernel
theorem dX12_readStep_20 : decode cX12_readStep 20 = .ok (.iconst 0, 1) := by decide +kernel
theorem dX12_readStep_21 : decode cX12_readStep 21 = .ok (.istore_n 3, 1) := by decide +kernel
theorem dX12_readStep_22 : decode cX12_readStep 22 = .ok (.iload_n 2, 1) := by decide +kernel
theorem dX12_readStep_23 : decode cX12_readStep 23 = .ok (.ifCond .ge 7, 3) := by decide +kernel
theorem dX12_readStep_26 : decode cX12_readStep 26 = .ok (.aload_n 0, 1) := by decide +kernel
theorem dX12_readStep_27 : decode cX12_readStep 27 = .ok (.invokevirtual 224, 3) := by decide +kernel
theorem dX12_readStep_30 : decode cX12_readStep 30 = .ok (.aload_n 0, 1) := by decide +kernel
theorem dX12_readStep_31 : decode cX12_readStep 31 = .ok (.getfield 211, 3) := by decide +kernel
theorem dX12_readStep_34 : decode cX12_readStep 34 = .ok (.ifCond .ne 22, 3) := by decide +kernel
theorem dX12_readStep_37 : decode cX12_readStep 37 = .ok (.aload_n 0, 1) := by decide +kernel
theorem dX12_readStep_38 : decode cX12_readStep 38 = .ok (.getfield 308, 3) := by decide +kernel
theorem dX12_readStep_41 : decode cX12_readStep 41 = .ok (.bipush 30, 2) := by decide +kernel
theorem dX12_readStep_43 : decode cX12_readStep 43 = .ok (.if_icmp .ne 13, 3) := by decide +kernel
theorem dX12_readStep_46 : decode cX12_readStep 46 = .ok (.aload_n 0, 1) := by decide +kernel
theorem dX12_readStep_47 : decode cX12_readStep 47 = .ok (.bipush 6, 2) := by decide +kernel
theorem dX12_readStep_49 : decode cX12_readStep 49 = .ok (.aload_n 0, 1) := by decide +kernel
theorem dX12_readStep_50 : decode cX12_readStep 50 = .ok (.getfield 116, 3) := by decide +kernel
theorem dX12_readStep_53 : decode cX12_readStep 53 = .ok (.invokevirtual 217, 3) := by decide +kernel
theorem dX12_readStep_56 : decode cX12_readStep 56 = .ok (.aload_n 0, 1) := by decide +kernel
theorem dX12_readStep_57 : decode cX12_readStep 57 = .ok (.getfield 211, 3) := by decide +kernel
theorem dX12_readStep_60 : decode cX12_readStep 60 = .ok (.ifCond .ne 22, 3) := by decide +kernel
theorem dX12_readStep_63 : decode cX12_readStep 63 = .ok (.iload_n 3, 1) := by decide +kernel
theorem dX12_readStep_64 : decode cX12_readStep 64 = .ok (.ifCond .eq 18, 3) := by decide +kernel
theorem dX12_readStep_67 : decode cX12_readStep 67 = .ok (.iload_n 1, 1) := by decide +kernel
theorem dX12_readStep_68 : decode cX12_readStep 68 = .ok (.iconst 3, 1) := by decide +kernel
theorem dX12_readStep_69 : decode cX12_readStep 69 = .ok (.if_icmp .ne 13, 3) := by decide +kernel
theorem dX12_readStep_72 : decode cX12_readStep 72 = .ok (.aload_n 0, 1) := by decide +kernel
theorem dX12_readStep_73 : decode cX12_readStep 73 = .ok (.bipush 7, 2) := by decide +kernel
theorem dX12_readStep_75 : decode cX12_readStep 75 = .ok (.aload_n 0, 1) := by decide +kernel
theorem dX12_readStep_76 : decode cX12_readStep 76 = .ok (.getfield 116, 3) := by decide +kernel
theorem dX12_readStep_79 : decode cX12_readStep 79 = .ok (.invokevirtual 217, 3) := by decide +kernel
theorem dX12_readStep_82 : decode cX12_readStep 82 = .ok (.aload_n 0, 1) := by decide +kernel
theorem dX12_readStep_83 : decode cX12_readStep 83 = .ok (.getfield 211, 3) := by decide +kernel
theorem dX12_readStep_86 : decode cX12_readStep 86 = .ok (.ifCond .le 4, 3) := by decide +kernel
theorem dX12_readStep_89 : decode cX12_readStep 89 = .ok (.return_, 1) := by decide +kernel
theorem dX12_readStep_90 : decode cX12_readStep 90 = .ok (.sipush 1965, 3) := by decide +kernel
theorem dX12_readStep_93 : decode cX12_readStep 93 = .ok (.bipush 9, 2) := by decide +kernel
theorem dX12_readStep_95 : decode cX12_readStep 95 = .ok (.aload_n 0, 1) := by decide +kernel
theorem dX12_readStep_96 : decode cX12_readStep 96 = .ok (.getfield 308, 3) := by decide +kernel
theorem dX12_readStep_99 : decode cX12_readStep 99 = .ok (.imul, 1) := by decide +kernel
theorem dX12_readStep_100 : decode cX12_readStep 100 = .ok (.iadd, 1) := by decide +kernel
theorem dX12_readStep_101 : decode cX12_readStep 101 = .ok (.istore 4, 2) := by decide +kernel
theorem dX12_readStep_103 : decode cX12_readStep 103 = .ok (.aload_n 0, 1) := by decide +kernel
theorem dX12_readStep_104 : decode cX12_readStep 104 = .ok (.dup, 1) := by decide +kernel
theorem dX12_readStep_105 : decode cX12_readStep 105 = .ok (.getfield 308, 3) := by decide +kernel
theorem dX12_readStep_108 : decode cX12_readStep 108 = .ok (.iconst 1, 1) := by decide +kernel
theorem dX12_readStep_109 : decode cX12_readStep 109 = .ok (.iadd, 1) := by decide +kernel
theorem dX12_readStep_110 : decode cX12_readStep 110 = .ok (.putfield 308, 3) := by decide +kernel
theorem dX12_readStep_113 : decode cX12_readStep 113 = .ok (.aload_n 0, 1) := by decide +kernel
theorem dX12_readStep_114 : decode cX12_readStep 114 = .ok (.invokevirtual 221, 3) := by decide +kernel
theorem dX12_readStep_117 : decode cX12_readStep 117 = .ok (.aload_n 0, 1) := by decide +kernel
theorem dX12_readStep_118 : decode cX12_readStep 118 = .ok (.getfield 35, 3) := by decide +kernel
theorem dX12_readStep_121 : decode cX12_readStep 121 = .ok (.iload 4, 2) := by decide +kernel
theorem dX12_readStep_123 : decode cX12_readStep 123 = .ok (.iload_n 2, 1) := by decide +kernel
theorem dX12_readStep_124 : decode cX12_readStep 124 = .ok (.iastore, 1) := by decide +kernel
theorem dX12_readStep_125 : decode cX12_readStep 125 = .ok (.aload_n 0, 1) := by decide +kernel
theorem dX12_readStep_126 : decode cX12_readStep 126 = .ok (.iload 4, 2) := by decide +kernel
theorem dX12_readStep_128 : decode cX12_readStep 128 = .ok (.invokevirtual 311, 3) := by decide +kernel
theorem dX12_readStep_131 : decode cX12_readStep 131 = .ok (.aload_n 0, 1) := by decide +kernel
theorem dX12_readStep_132 : decode cX12_readStep 132 = .ok (.aload_n 0, 1) := by decide +kernel
theorem dX12_readStep_133 : decode cX12_readStep 133 = .ok (.bipush 59, 2) := by decide +kernel
theorem dX12_readStep_135 : decode cX12_readStep 135 = .ok (.invokevirtual 296, 3) := by decide +kernel
theorem dX12_readStep_138 : decode cX12_readStep 138 = .ok (.invokevirtual 227, 3) := by decide +kernel
theorem dX12_readStep_141 : decode cX12_readStep 141 = .ok (.iload_n 3, 1) := by decide +kernel
theorem dX12_readStep_142 : decode cX12_readStep 142 = .ok (.ifCond .eq 27, 3) := by decide +kernel
theorem dX12_readStep_145 : decode cX12_readStep 145 = .ok (.aload_n 0, 1) := by decide +kernel
theorem dX12_readStep_146 : decode cX12_readStep 146 = .ok (.getfield 211, 3) := by decide +kernel
theorem dX12_readStep_149 : decode cX12_readStep 149 = .ok (.ifCond .ne 20, 3) := by decide +kernel
theorem dX12_readStep_152 : decode cX12_readStep 152 = .ok (.aload_n 0, 1) := by decide +kernel
theorem dX12_readStep_153 : decode cX12_readStep 153 = .ok (.invokevirtual 205, 3) := by decide +kernel
theorem dX12_readStep_156 : decode cX12_readStep 156 = .ok (.ifCond .ne 13, 3) := by decide +kernel
theorem dX12_readStep_159 : decode cX12_readStep 159 = .ok (.aload_n 0, 1) := by decide +kernel
theorem dX12_readStep_160 : decode cX12_readStep 160 = .ok (.iload_n 1, 1) := by decide +kernel
theorem dX12_readStep_161 : decode cX12_readStep 161 = .ok (.iconst 1, 1) := by decide +kernel
theorem dX12_readStep_162 : decode cX12_readStep 162 = .ok (.iadd, 1) := by decide +kernel
theorem dX12_readStep_163 : decode cX12_readStep 163 = .ok (.invokevirtual 314, 3) := by decide +kernel
theorem dX12_readStep_166 : decode cX12_readStep 166 = .ok (.goto (-25), 3) := by decide +kernel
theorem dX12_readStep_169 : decode cX12_readStep 169 = .ok (.iload_n 3, 1) := by decide +kernel
theorem dX12_readStep_170 : decode cX12_readStep 170 = .ok (.ifCond .eq 21, 3) := by decide +kernel
theorem dX12_readStep_173 : decode cX12_readStep 173 = .ok (.aload_n 0, 1) := by decide +kernel
theorem dX12_readStep_174 : decode cX12_readStep 174 = .ok (.aload_n 0, 1) := by decide +kernel
theorem dX12_readStep_175 : decode cX12_readStep 175 = .ok (.invokevirtual 205, 3) := by decide +kernel
theorem dX12_readStep_178 : decode cX12_readStep 178 = .ok (.invokevirtual 227, 3) := by decide +kernel
theorem dX12_readStep_181 : decode cX12_readStep 181 = .ok (.aload_n 0, 1) := by decide +kernel
theorem dX12_readStep_182 : decode cX12_readStep 182 = .ok (.aload_n 0, 1) := by decide +kernel
theorem dX12_readStep_183 : decode cX12_readStep 183 = .ok (.bipush 59, 2) := by decide +kernel
theorem dX12_readStep_185 : decode cX12_readStep 185 = .ok (.invokevirtual 296, 3) := by decide +kernel
theorem dX12_readStep_188 : decode cX12_readStep 188 = .ok (.invokevirtual 227, 3) := by decide +kernel
theorem dX12_readStep_191 : decode cX12_readStep 191 = .ok (.aload_n 0, 1) := by decide +kernel
theorem dX12_readStep_192 : decode cX12_readStep 192 = .ok (.getfield 35, 3) := by decide +kernel
theorem dX12_readStep_195 : decode cX12_readStep 195 = .ok (.iload 4, 2) := by decide +kernel
theorem dX12_readStep_197 : decode cX12_readStep 197 = .ok (.bipush 8, 2) := by decide +kernel
theorem dX12_readStep_199 : decode cX12_readStep 199 = .ok (.iadd, 1) := by decide +kernel
theorem dX12_readStep_200 : decode cX12_readStep 200 = .ok (.aload_n 0, 1) := by decide +kernel
theorem dX12_readStep_201 : decode cX12_readStep 201 = .ok (.getfield 308, 3) := by decide +kernel
theorem dX12_readStep_204 : decode cX12_readStep 204 = .ok (.iastore, 1) := by decide +kernel
theorem dX12_readStep_205 : decode cX12_readStep 205 = .ok (.return_, 1) := by decide +kernel
theorem mw_X12_readStep : MW yX12_readStep cX12_readStep 5 2 1 false := ⟨tm 1967 (by decide +kernel) rfl, tm 249 (by decide +kernel) rfl, by decide, by decide, (by rw [if_neg (by decide)]; exact ⟨tm 1966 (by decide +kernel) rfl, tm 171 (by decide +kernel) rfl⟩)⟩
theorem lk_RX12_311 : LK RX12 311 yX12_readRest := Or.inl (tm 1968 (by decide +kernel) rfl)
theorem lk_RX12_314 : LK RX12 314 yX12_readStep := Or.inl (tm 1964 (by decide +kernel) rfl)
theorem fl_RX12_308 : FL RX12 308 10 26 := ⟨_, _, _, _, cw_10, by decide, Or.inl (by decide), Or.inr (by decide), Or.inl (tm 1594 (by decide +kernel) rfl)⟩
def M_readStep_L141 (rc : Int → Sg → Rs) (a1 : Int) (v3 : Int) (v4 : Int) (k169 : Int → Int → Sg → Rs) : Nat → Sg → Rs
  | 0, _ => none
  | n + 1, σ => (if v3 = 0 then (k169 v3 v4 σ) else (if (σ 0 12) = 0 then (bd (M_isEnd σ) (fun r18 s19 => (if r18 = 0 then (bd (rc (w32 (a1 + 1)) s19) (fun r20 s21 => (M_readStep_L141 rc a1 v3 v4 k169 n s21))) else (k169 v3 v4 s19)))) else (k169 v3 v4 σ)))
theorem ok_M_readStep_L141 (rc : Int → Sg → Rs) (dr dd : Nat) (hrc : ∀ (a1 : Int) (σ : Sg), MC l Km Pm yX12_readStep cX12_readStep 5 2 dr [.inr (.inr 0), .inl a1] σ (rc a1 σ)) (hd : dr < dd) (hB : 9 ≤ dd) (a1 : Int) (v3 : Int) (v4 : Int) (k169 : Int → Int → Sg → Rs) (hk169 : ∀ (y3 y4 : Int) (σ : Sg), G l Km Pm RX12 cX12_readStep 5 2 dd 169 [some (.inr (.inr 0)), none, none, some (.inl y3), some (.inl y4)] [] σ (k169 y3 y4 σ)) : ∀ (n : Nat) (σ : Sg), G l Km Pm RX12 cX12_readStep 5 2 dd 141 [some (.inr (.inr 0)), some (.inl a1), none, some (.inl v3), some (.inl v4)] [] σ (M_readStep_L141 rc a1 v3 v4 k169 n  σ) := by
  intro n
  induction n with
  | zero => intros; exact G.none_
  | succ n ih =>
    intro σ
    rw [M_readStep_L141]
    refine g_iload_n dX12_readStep_141 rfl rfl ?_
    refine g_ifeq (tgt := 169) dX12_readStep_142 (by decide) ?_ ?_
    · exact (g_weak [true, false, false, true, true] (hk169 v3 v4 σ))
    · refine g_aload_n dX12_readStep_145 rfl rfl ?_
      refine g_geti fl_RX12_211 km_0 (by decide) dX12_readStep_146 ?_
      refine g_ifne (tgt := 169) dX12_readStep_149 (by decide) ?_ ?_
      · refine g_aload_n dX12_readStep_152 rfl rfl ?_
        refine g_callv3 (st := []) 10 mw_X12_isEnd lk_RX12_205 rfl km_0 (ok_M_isEnd σ) (Nat.lt_of_lt_of_le (Nat.le_of_ble_eq_true rfl) hB) rfl rfl (Nat.le_of_ble_eq_true rfl) dX12_readStep_153 ?_
        intro r18 s19
        refine g_ifne (tgt := 169) dX12_readStep_156 (by decide) ?_ ?_
        · refine g_aload_n dX12_readStep_159 rfl rfl ?_
          refine g_iload_n dX12_readStep_160 rfl rfl ?_
          refine g_iconst dX12_readStep_161 (by decide) ?_
          refine g_iadd dX12_readStep_162 ?_
          refine g_callv2 (st := []) 10 mw_X12_readStep lk_RX12_314 rfl km_0 (hrc (w32 (a1 + 1)) s19) hd rfl rfl (Nat.le_of_ble_eq_true rfl) dX12_readStep_163 ?_
          intro r20 s21
          refine g_goto (tgt := 141) dX12_readStep_166 (by decide) ?_
          exact (ih s21)
        · exact (g_weak [true, false, false, true, true] (hk169 v3 v4 s19))
      · exact (g_weak [true, false, false, true, true] (hk169 v3 v4 σ))
def M_readStep_J169 (rc : Int → Sg → Rs) (v3 : Int) (v4 : Int) (σ : Sg) : Rs := (if v3 = 0 then (wr 2235 (w32 (v4 + 8)) (up_s σ 5 (Int.toNat (w32 (v4 + 8))) (σ 0 26)) (fun s25 => (some (0, s25)))) else (bd (M_isEnd σ) (fun r26 s27 => (bd (M_must r26 s27) (fun r28 s29 => (bd (M_isSign 59 s29) (fun r30 s31 => (bd (M_must r30 s31) (fun r32 s33 => (wr 2235 (w32 (v4 + 8)) (up_s s33 5 (Int.toNat (w32 (v4 + 8))) (s33 0 26)) (fun s34 => (some (0, s34)))))))))))))
theorem ok_M_readStep_J169 (rc : Int → Sg → Rs) (dr dd : Nat) (hrc : ∀ (a1 : Int) (σ : Sg), MC l Km Pm yX12_readStep cX12_readStep 5 2 dr [.inr (.inr 0), .inl a1] σ (rc a1 σ)) (hd : dr < dd) (hB : 9 ≤ dd) (v3 : Int) (v4 : Int) : ∀ (σ : Sg), G l Km Pm RX12 cX12_readStep 5 2 dd 169 [some (.inr (.inr 0)), none, none, some (.inl v3), some (.inl v4)] [] σ (M_readStep_J169 rc v3 v4  σ) := by
  intro σ
  unfold M_readStep_J169
  refine g_iload_n dX12_readStep_169 rfl rfl ?_
  refine g_ifeq (tgt := 191) dX12_readStep_170 (by decide) ?_ ?_
  · refine g_aload_n dX12_readStep_191 rfl rfl ?_
    refine g_getr' (q := 5) fl_RX12_35 km_0 (by decide) rfl dX12_readStep_192 ?_
    refine g_iload dX12_readStep_195 rfl ?_
    refine g_bipush dX12_readStep_197 (by decide) ?_
    refine g_iadd dX12_readStep_199 ?_
    refine g_aload_n dX12_readStep_200 rfl rfl ?_
    refine g_geti fl_RX12_308 km_0 (by decide) dX12_readStep_201 ?_
    refine g_iast km_5 dX12_readStep_204 ?_
    intro s25
    exact g_vret dX12_readStep_205
  · refine g_aload_n dX12_readStep_173 rfl rfl ?_
    refine g_aload_n dX12_readStep_174 rfl rfl ?_
    refine g_callv3 (st := [.inr (.inr 0)]) 10 mw_X12_isEnd lk_RX12_205 rfl km_0 (ok_M_isEnd σ) (Nat.lt_of_lt_of_le (Nat.le_of_ble_eq_true rfl) hB) rfl rfl (Nat.le_of_ble_eq_true rfl) dX12_readStep_175 ?_
    intro r26 s27
    refine g_callv2 (st := []) 10 mw_X12_must lk_RX12_227 rfl km_0 (ok_M_must r26 s27) (Nat.lt_of_lt_of_le (Nat.le_of_ble_eq_true rfl) hB) rfl rfl (Nat.le_of_ble_eq_true rfl) dX12_readStep_178 ?_
    intro r28 s29
    refine g_aload_n dX12_readStep_181 rfl rfl ?_
    refine g_aload_n dX12_readStep_182 rfl rfl ?_
    refine g_bipush dX12_readStep_183 (by decide) ?_
    refine g_callv3 (st := [.inr (.inr 0)]) 10 mw_X12_isSign lk_RX12_296 rfl km_0 (ok_M_isSign 59 s29) (Nat.lt_of_lt_of_le (Nat.le_of_ble_eq_true rfl) hB) rfl rfl (Nat.le_of_ble_eq_true rfl) dX12_readStep_185 ?_
    intro r30 s31
    refine g_callv2 (st := []) 10 mw_X12_must lk_RX12_227 rfl km_0 (ok_M_must r30 s31) (Nat.lt_of_lt_of_le (Nat.le_of_ble_eq_true rfl) hB) rfl rfl (Nat.le_of_ble_eq_true rfl) dX12_readStep_188 ?_
    intro r32 s33
    refine g_aload_n dX12_readStep_191 rfl rfl ?_
    refine g_getr' (q := 5) fl_RX12_35 km_0 (by decide) rfl dX12_readStep_192 ?_
    refine g_iload dX12_readStep_195 rfl ?_
    refine g_bipush dX12_readStep_197 (by decide) ?_
    refine g_iadd dX12_readStep_199 ?_
    refine g_aload_n dX12_readStep_200 rfl rfl ?_
    refine g_geti fl_RX12_308 km_0 (by decide) dX12_readStep_201 ?_
    refine g_iast km_5 dX12_readStep_204 ?_
    intro s34
    exact g_vret dX12_readStep_205
def M_readStep_J82 (rc : Int → Sg → Rs) (a1 : Int) (v2 : Int) (v3 : Int) (σ : Sg) : Rs := (if 0 < (σ 0 12) then (some (0, σ)) else (nm (w32 (1965 + (w32 (9 * (σ 0 26))))) (fun x7 => (nm (up_s σ 0 26 (w32 ((σ 0 26) + 1))) (fun s8 => (bd (M_advance s8) (fun r9 s10 => (wr 2235 x7 (up_s s10 5 (Int.toNat x7) v2) (fun s11 => (bd (M_readRest x7 s11) (fun r12 s13 => (bd (M_isSign 59 s13) (fun r14 s15 => (bd (M_must r14 s15) (fun r16 s17 => (M_readStep_L141 rc a1 v3 x7 (fun x22 x23 s24 => (M_readStep_J169 rc x22 x23 s24)) fu s17))))))))))))))))
theorem ok_M_readStep_J82 (rc : Int → Sg → Rs) (dr dd : Nat) (hrc : ∀ (a1 : Int) (σ : Sg), MC l Km Pm yX12_readStep cX12_readStep 5 2 dr [.inr (.inr 0), .inl a1] σ (rc a1 σ)) (hd : dr < dd) (hB : 9 ≤ dd) (a1 : Int) (v2 : Int) (v3 : Int) : ∀ (σ : Sg), G l Km Pm RX12 cX12_readStep 5 2 dd 82 [some (.inr (.inr 0)), some (.inl a1), some (.inl v2), some (.inl v3), none] [] σ (M_readStep_J82 rc a1 v2 v3  σ) := by
  intro σ
  unfold M_readStep_J82
  refine g_aload_n dX12_readStep_82 rfl rfl ?_
  refine g_geti fl_RX12_211 km_0 (by decide) dX12_readStep_83 ?_
  refine g_ifle (tgt := 90) dX12_readStep_86 (by decide) ?_ ?_
  · exact g_vret dX12_readStep_89
  · refine g_sipush dX12_readStep_90 (by decide) ?_
    refine g_bipush dX12_readStep_93 (by decide) ?_
    refine g_aload_n dX12_readStep_95 rfl rfl ?_
    refine g_geti fl_RX12_308 km_0 (by decide) dX12_readStep_96 ?_
    refine g_imul dX12_readStep_99 ?_
    refine g_iadd dX12_readStep_100 ?_
    refine n_istore (fun x7 => [some (.inr (.inr 0)), some (.inl a1), some (.inl v2), some (.inl v3), some (.inl x7)]) dX12_readStep_101 (Nat.le_of_ble_eq_true rfl) (fun _ => rfl) ?_
    intro x7
    refine g_aload_n dX12_readStep_103 rfl rfl ?_
    refine g_dup dX12_readStep_104 rfl ?_
    refine g_geti fl_RX12_308 km_0 (by decide) dX12_readStep_105 ?_
    refine g_iconst dX12_readStep_108 (by decide) ?_
    refine g_iadd dX12_readStep_109 ?_
    refine g_puti fl_RX12_308 km_0 (by decide) dX12_readStep_110 ?_
    intro s8
    refine g_aload_n dX12_readStep_113 rfl rfl ?_
    refine g_callv2 (st := []) 10 mw_X12_advance lk_RX12_221 rfl km_0 (ok_M_advance s8) (Nat.lt_of_lt_of_le (Nat.le_of_ble_eq_true rfl) hB) rfl rfl (Nat.le_of_ble_eq_true rfl) dX12_readStep_114 ?_
    intro r9 s10
    refine g_aload_n dX12_readStep_117 rfl rfl ?_
    refine g_getr' (q := 5) fl_RX12_35 km_0 (by decide) rfl dX12_readStep_118 ?_
    refine g_iload dX12_readStep_121 rfl ?_
    refine g_iload_n dX12_readStep_123 rfl rfl ?_
    refine g_iast km_5 dX12_readStep_124 ?_
    intro s11
    refine g_aload_n dX12_readStep_125 rfl rfl ?_
    refine g_iload dX12_readStep_126 rfl ?_
    refine g_callv2 (st := []) 10 mw_X12_readRest lk_RX12_311 rfl km_0 (ok_M_readRest x7 s11) (Nat.lt_of_lt_of_le (Nat.le_of_ble_eq_true rfl) hB) rfl rfl (Nat.le_of_ble_eq_true rfl) dX12_readStep_128 ?_
    intro r12 s13
    refine g_aload_n dX12_readStep_131 rfl rfl ?_
    refine g_aload_n dX12_readStep_132 rfl rfl ?_
    refine g_bipush dX12_readStep_133 (by decide) ?_
    refine g_callv3 (st := [.inr (.inr 0)]) 10 mw_X12_isSign lk_RX12_296 rfl km_0 (ok_M_isSign 59 s13) (Nat.lt_of_lt_of_le (Nat.le_of_ble_eq_true rfl) hB) rfl rfl (Nat.le_of_ble_eq_true rfl) dX12_readStep_135 ?_
    intro r14 s15
    refine g_callv2 (st := []) 10 mw_X12_must lk_RX12_227 rfl km_0 (ok_M_must r14 s15) (Nat.lt_of_lt_of_le (Nat.le_of_ble_eq_true rfl) hB) rfl rfl (Nat.le_of_ble_eq_true rfl) dX12_readStep_138 ?_
    intro r16 s17
    refine (g_weak [true, true, false, true, true] (ok_M_readStep_L141 rc dr dd hrc hd hB a1 v3 x7 _ ?_ fu s17))
    · intro x22 x23 s24
      refine (ok_M_readStep_J169 rc dr dd hrc hd hB x22 x23 s24)
def M_readStep_J56 (rc : Int → Sg → Rs) (a1 : Int) (v2 : Int) (v3 : Int) (σ : Sg) : Rs := (if (σ 0 12) = 0 then (if v3 = 0 then (M_readStep_J82 rc a1 v2 v3 σ) else (if a1 = 3 then (bd (M_fail 7 (σ 0 15) σ) (fun r35 s36 => (M_readStep_J82 rc a1 v2 v3 s36))) else (M_readStep_J82 rc a1 v2 v3 σ))) else (M_readStep_J82 rc a1 v2 v3 σ))
theorem ok_M_readStep_J56 (rc : Int → Sg → Rs) (dr dd : Nat) (hrc : ∀ (a1 : Int) (σ : Sg), MC l Km Pm yX12_readStep cX12_readStep 5 2 dr [.inr (.inr 0), .inl a1] σ (rc a1 σ)) (hd : dr < dd) (hB : 9 ≤ dd) (a1 : Int) (v2 : Int) (v3 : Int) : ∀ (σ : Sg), G l Km Pm RX12 cX12_readStep 5 2 dd 56 [some (.inr (.inr 0)), some (.inl a1), some (.inl v2), some (.inl v3), none] [] σ (M_readStep_J56 rc a1 v2 v3  σ) := by
  intro σ
  unfold M_readStep_J56
  refine g_aload_n dX12_readStep_56 rfl rfl ?_
  refine g_geti fl_RX12_211 km_0 (by decide) dX12_readStep_57 ?_
  refine g_ifne (tgt := 82) dX12_readStep_60 (by decide) ?_ ?_
  · refine g_iload_n dX12_readStep_63 rfl rfl ?_
    refine g_ifeq (tgt := 82) dX12_readStep_64 (by decide) ?_ ?_
    · refine (ok_M_readStep_J82 rc dr dd hrc hd hB a1 v2 v3 σ)
    · refine g_iload_n dX12_readStep_67 rfl rfl ?_
      refine g_iconst dX12_readStep_68 (by decide) ?_
      refine g_icmpne (tgt := 82) dX12_readStep_69 (by decide) ?_ ?_
      · refine g_aload_n dX12_readStep_72 rfl rfl ?_
        refine g_bipush dX12_readStep_73 (by decide) ?_
        refine g_aload_n dX12_readStep_75 rfl rfl ?_
        refine g_geti fl_RX12_116 km_0 (by decide) dX12_readStep_76 ?_
        refine g_callv2 (st := []) 10 mw_X12_fail lk_RX12_217 rfl km_0 (ok_M_fail 7 (σ 0 15) σ) (Nat.lt_of_lt_of_le (Nat.le_of_ble_eq_true rfl) hB) rfl rfl (Nat.le_of_ble_eq_true rfl) dX12_readStep_79 ?_
        intro r35 s36
        refine (ok_M_readStep_J82 rc dr dd hrc hd hB a1 v2 v3 s36)
      · refine (ok_M_readStep_J82 rc dr dd hrc hd hB a1 v2 v3 σ)
  · refine (ok_M_readStep_J82 rc dr dd hrc hd hB a1 v2 v3 σ)
def M_readStep_J30 (rc : Int → Sg → Rs) (a1 : Int) (v2 : Int) (v3 : Int) (σ : Sg) : Rs := (if (σ 0 12) = 0 then (if (σ 0 26) = 30 then (bd (M_fail 6 (σ 0 15) σ) (fun r5 s6 => (M_readStep_J56 rc a1 v2 v3 s6))) else (M_readStep_J56 rc a1 v2 v3 σ)) else (M_readStep_J56 rc a1 v2 v3 σ))
theorem ok_M_readStep_J30 (rc : Int → Sg → Rs) (dr dd : Nat) (hrc : ∀ (a1 : Int) (σ : Sg), MC l Km Pm yX12_readStep cX12_readStep 5 2 dr [.inr (.inr 0), .inl a1] σ (rc a1 σ)) (hd : dr < dd) (hB : 9 ≤ dd) (a1 : Int) (v2 : Int) (v3 : Int) : ∀ (σ : Sg), G l Km Pm RX12 cX12_readStep 5 2 dd 30 [some (.inr (.inr 0)), some (.inl a1), some (.inl v2), some (.inl v3), none] [] σ (M_readStep_J30 rc a1 v2 v3  σ) := by
  intro σ
  unfold M_readStep_J30
  refine g_aload_n dX12_readStep_30 rfl rfl ?_
  refine g_geti fl_RX12_211 km_0 (by decide) dX12_readStep_31 ?_
  refine g_ifne (tgt := 56) dX12_readStep_34 (by decide) ?_ ?_
  · refine g_aload_n dX12_readStep_37 rfl rfl ?_
    refine g_geti fl_RX12_308 km_0 (by decide) dX12_readStep_38 ?_
    refine g_bipush dX12_readStep_41 (by decide) ?_
    refine g_icmpne (tgt := 56) dX12_readStep_43 (by decide) ?_ ?_
    · refine g_aload_n dX12_readStep_46 rfl rfl ?_
      refine g_bipush dX12_readStep_47 (by decide) ?_
      refine g_aload_n dX12_readStep_49 rfl rfl ?_
      refine g_geti fl_RX12_116 km_0 (by decide) dX12_readStep_50 ?_
      refine g_callv2 (st := []) 10 mw_X12_fail lk_RX12_217 rfl km_0 (ok_M_fail 6 (σ 0 15) σ) (Nat.lt_of_lt_of_le (Nat.le_of_ble_eq_true rfl) hB) rfl rfl (Nat.le_of_ble_eq_true rfl) dX12_readStep_53 ?_
      intro r5 s6
      refine (ok_M_readStep_J56 rc dr dd hrc hd hB a1 v2 v3 s6)
    · refine (ok_M_readStep_J56 rc dr dd hrc hd hB a1 v2 v3 σ)
  · refine (ok_M_readStep_J56 rc dr dd hrc hd hB a1 v2 v3 σ)
def M_readStep_J21 (rc : Int → Sg → Rs) (a1 : Int) (v2 : Int) (t0 : Int) (σ : Sg) : Rs := (if v2 < 0 then (bd (M_amiss σ) (fun r3 s4 => (M_readStep_J30 rc a1 v2 t0 s4))) else (M_readStep_J30 rc a1 v2 t0 σ))
theorem ok_M_readStep_J21 (rc : Int → Sg → Rs) (dr dd : Nat) (hrc : ∀ (a1 : Int) (σ : Sg), MC l Km Pm yX12_readStep cX12_readStep 5 2 dr [.inr (.inr 0), .inl a1] σ (rc a1 σ)) (hd : dr < dd) (hB : 9 ≤ dd) (a1 : Int) (v2 : Int) : ∀ (t0 : Int) (σ : Sg), G l Km Pm RX12 cX12_readStep 5 2 dd 21 [some (.inr (.inr 0)), some (.inl a1), some (.inl v2), none, none] [.inl t0] σ (M_readStep_J21 rc a1 v2 t0 σ) := by
  intro t0 σ
  unfold M_readStep_J21
  refine g_istore_n (lv' := [some (.inr (.inr 0)), some (.inl a1), some (.inl v2), some (.inl t0), none]) dX12_readStep_21 rfl (Nat.le_of_ble_eq_true rfl) rfl ?_
  refine g_iload_n dX12_readStep_22 rfl rfl ?_
  refine g_ifge (tgt := 30) dX12_readStep_23 (by decide) ?_ ?_
  · refine g_aload_n dX12_readStep_26 rfl rfl ?_
    refine g_callv2 (st := []) 10 mw_X12_amiss lk_RX12_224 rfl km_0 (ok_M_amiss σ) (Nat.lt_of_lt_of_le (Nat.le_of_ble_eq_true rfl) hB) rfl rfl (Nat.le_of_ble_eq_true rfl) dX12_readStep_27 ?_
    intro r3 s4
    refine (ok_M_readStep_J30 rc dr dd hrc hd hB a1 v2 t0 s4)
  · refine (ok_M_readStep_J30 rc dr dd hrc hd hB a1 v2 t0 σ)
def M_readStep_J16 (rc : Int → Sg → Rs) (a1 : Int) (v2 : Int) (σ : Sg) : Rs := (M_readStep_J21 rc a1 v2 1 σ)
theorem ok_M_readStep_J16 (rc : Int → Sg → Rs) (dr dd : Nat) (hrc : ∀ (a1 : Int) (σ : Sg), MC l Km Pm yX12_readStep cX12_readStep 5 2 dr [.inr (.inr 0), .inl a1] σ (rc a1 σ)) (hd : dr < dd) (hB : 9 ≤ dd) (a1 : Int) (v2 : Int) : ∀ (σ : Sg), G l Km Pm RX12 cX12_readStep 5 2 dd 16 [some (.inr (.inr 0)), some (.inl a1), some (.inl v2), none, none] [] σ (M_readStep_J16 rc a1 v2  σ) := by
  intro σ
  unfold M_readStep_J16
  refine g_iconst dX12_readStep_16 (by decide) ?_
  refine g_goto (tgt := 21) dX12_readStep_17 (by decide) ?_
  refine (ok_M_readStep_J21 rc dr dd hrc hd hB a1 v2 1 σ)
def M_readStep_B (rc : Int → Sg → Rs) (a1 : Int) (σ : Sg) : Rs := (bd (M_stepWord σ) (fun r1 s2 => (if r1 = 5 then (M_readStep_J16 rc a1 r1 s2) else (if r1 = 6 then (M_readStep_J16 rc a1 r1 s2) else (M_readStep_J21 rc a1 r1 0 s2)))))
theorem ok_M_readStep_B (rc : Int → Sg → Rs) (dr dd : Nat) (hrc : ∀ (a1 : Int) (σ : Sg), MC l Km Pm yX12_readStep cX12_readStep 5 2 dr [.inr (.inr 0), .inl a1] σ (rc a1 σ)) (hd : dr < dd) (hB : 9 ≤ dd) (a1 : Int) (σ : Sg) : MC l Km Pm yX12_readStep cX12_readStep 5 2 dd [.inr (.inr 0), .inl a1] σ (M_readStep_B rc a1 σ) := by
  refine mc_of (by decide) (Nat.le_of_ble_eq_true rfl) ?_
  change G l Km Pm RX12 cX12_readStep 5 2 dd 0 [some (.inr (.inr 0)), some (.inl a1), none, none, none] [] σ (M_readStep_B rc a1 σ)
  unfold M_readStep_B
  refine g_aload_n dX12_readStep_0 rfl rfl ?_
  refine g_callv0 (st := []) 10 mw_X12_stepWord lk_RX12_198 rfl km_0 (ok_M_stepWord σ) (Nat.lt_of_lt_of_le (Nat.le_of_ble_eq_true rfl) hB) rfl rfl (Nat.le_of_ble_eq_true rfl) dX12_readStep_1 ?_
  intro r1 s2
  refine g_istore_n (lv' := [some (.inr (.inr 0)), some (.inl a1), some (.inl r1), none, none]) dX12_readStep_4 rfl (Nat.le_of_ble_eq_true rfl) rfl ?_
  refine g_iload_n dX12_readStep_5 rfl rfl ?_
  refine g_iconst dX12_readStep_6 (by decide) ?_
  refine g_icmpeq (tgt := 16) dX12_readStep_7 (by decide) ?_ ?_
  · refine (ok_M_readStep_J16 rc dr dd hrc hd hB a1 r1 s2)
  · refine g_iload_n dX12_readStep_10 rfl rfl ?_
    refine g_bipush dX12_readStep_11 (by decide) ?_
    refine g_icmpne (tgt := 20) dX12_readStep_13 (by decide) ?_ ?_
    · refine (ok_M_readStep_J16 rc dr dd hrc hd hB a1 r1 s2)
    · refine g_iconst dX12_readStep_20 (by decide) ?_
      refine (ok_M_readStep_J21 rc dr dd hrc hd hB a1 r1 0 s2)
def M_readStep : Nat → Int → Sg → Rs
  | 0 => fun _ _ => none
  | n + 1 => M_readStep_B (M_readStep n)
theorem ok_M_readStep : ∀ (n : Nat) (a1 : Int)  (σ : Sg), MC l Km Pm yX12_readStep cX12_readStep 5 2 (n + 9) [.inr (.inr 0), .inl a1] σ (M_readStep n a1 σ) := by
  intro n
  induction n with
  | zero => intros; exact mc_none
  | succ n ih =>
    intro a1 σ
    exact ok_M_readStep_B (M_readStep n) (n + 9) ((n + 1) + 9) ih (by omega) (by omega)  a1 σ
theorem dX12_safeBy_0 : decode cX12_safeBy 0 = .ok (.lconst 1, 1) := by decide +kernel
theorem dX12_safeBy_1 : decode cX12_safeBy 1 = .ok (.lstore_n 3, 1) := by decide +kernel
theorem dX12_safeBy_2 : decode cX12_safeBy 2 = .ok (.iconst 0, 1) := by decide +kernel
theorem dX12_safeBy_3 : decode cX12_safeBy 3 = .ok (.istore 5, 2) := by decide +kernel
theorem dX12_safeBy_5 : decode cX12_safeBy 5 = .ok (.iload 5, 2) := by decide +kernel
theorem dX12_safeBy_7 : decode cX12_safeBy 7 = .ok (.iload_n 2, 1) := by decide +kernel
theorem dX12_safeBy_8 : decode cX12_safeBy 8 = .ok (.if_icmp .ge 34, 3) := by decide +kernel
theorem dX12_safeBy_11 : decode cX12_safeBy 11 = .ok (.lload_n 3, 1) := by decide +kernel
theorem dX12_safeBy_12 : decode cX12_safeBy 12 = .ok (.iload 5, 2) := by decide +kernel
theorem dX12_safeBy_14 : decode cX12_safeBy 14 = .ok (.iload_n 1, 1) := by decide +kernel
theorem dX12_safeBy_15 : decode cX12_safeBy 15 = .ok (.if_icmp .ge 16, 3) := by decide +kernel
theorem dX12_safeBy_18 : decode cX12_safeBy 18 = .ok (.bipush 16, 2) := by decide +kernel
theorem dX12_safeBy_20 : decode cX12_safeBy 20 = .ok (.aload_n 0, 1) := by decide +kernel
theorem dX12_safeBy_21 : decode cX12_safeBy 21 = .ok (.getfield 35, 3) := by decide +kernel
theorem dX12_safeBy_24 : decode cX12_safeBy 24 = .ok (.iconst 5, 1) := by decide +kernel
theorem dX12_safeBy_25 : decode cX12_safeBy 25 = .ok (.iaload, 1) := by decide +kernel
theorem dX12_safeBy_26 : decode cX12_safeBy 26 = .ok (.isub, 1) := by decide +kernel
theorem dX12_safeBy_27 : decode cX12_safeBy 27 = .ok (.i2l, 1) := by decide +kernel
theorem dX12_safeBy_28 : decode cX12_safeBy 28 = .ok (.goto 6, 3) := by decide +kernel
theorem dX12_safeBy_31 : decode cX12_safeBy 31 = .ok (.ldc2_w 400, 3) := by decide +kernel
theorem dX12_safeBy_34 : decode cX12_safeBy 34 = .ok (.lmul, 1) := by decide +kernel
theorem dX12_safeBy_35 : decode cX12_safeBy 35 = .ok (.lstore_n 3, 1) := by decide +kernel
theorem dX12_safeBy_36 : decode cX12_safeBy 36 = .ok (.iinc 5 1, 3) := by decide +kernel
theorem dX12_safeBy_39 : decode cX12_safeBy 39 = .ok (.goto (-34), 3) := by decide +kernel
theorem dX12_safeBy_42 : decode cX12_safeBy 42 = .ok (.lload_n 3, 1) := by decide +kernel
theorem dX12_safeBy_43 : decode cX12_safeBy 43 = .ok (.lreturn, 1) := by decide +kernel
theorem mw_X12_safeBy : MW yX12_safeBy cX12_safeBy 6 1 2 false := ⟨tm 2347 (by decide +kernel) rfl, tm 249 (by decide +kernel) rfl, by decide, by decide, (by rw [if_neg (by decide)]; exact ⟨tm 2346 (by decide +kernel) rfl, tm 222 (by decide +kernel) rfl⟩)⟩
def M_safeBy_L5 (a1 : Int) (a2 : Int) : Nat → Int → Int → Sg → Rs
  | 0, _, _, _ => none
  | n + 1, v3, v5, σ => (if v5 < a2 then (if v5 < a1 then (rd 2235 5 (σ 5 (Int.toNat 5)) (fun x1 => (nm (w64 (v3 * (w32 (16 - x1)))) (fun x2 => (nm (w32 (v5 + 1)) (fun x3 => (M_safeBy_L5 a1 a2 n x2 x3 σ))))))) else (nm (w64 (v3 * 16)) (fun x4 => (nm (w32 (v5 + 1)) (fun x5 => (M_safeBy_L5 a1 a2 n x4 x5 σ)))))) else (some (v3, σ)))
theorem ok_M_safeBy_L5 (a1 : Int) (a2 : Int) : ∀ (n : Nat) (v3 v5 : Int) (σ : Sg), G l Km Pm RX12 cX12_safeBy 6 1 1 5 [some (.inr (.inr 0)), some (.inl a1), some (.inl a2), some (.inr (.inl v3)), none, some (.inl v5)] [] σ (M_safeBy_L5 a1 a2 n v3 v5 σ) := by
  intro n
  induction n with
  | zero => intros; exact G.none_
  | succ n ih =>
    intro v3 v5 σ
    rw [M_safeBy_L5]
    refine g_iload dX12_safeBy_5 rfl ?_
    refine g_iload_n dX12_safeBy_7 rfl rfl ?_
    refine g_icmpge (tgt := 42) dX12_safeBy_8 (by decide) ?_ ?_
    · refine g_lload_n dX12_safeBy_11 rfl rfl ?_
      refine g_iload dX12_safeBy_12 rfl ?_
      refine g_iload_n dX12_safeBy_14 rfl rfl ?_
      refine g_icmpge (tgt := 31) dX12_safeBy_15 (by decide) ?_ ?_
      · refine g_bipush dX12_safeBy_18 (by decide) ?_
        refine g_aload_n dX12_safeBy_20 rfl rfl ?_
        refine g_getr' (q := 5) fl_RX12_35 km_0 (by decide) rfl dX12_safeBy_21 ?_
        refine g_iconst dX12_safeBy_24 (by decide) ?_
        refine g_iald km_5 dX12_safeBy_25 ?_
        intro x1
        refine g_isub dX12_safeBy_26 ?_
        refine g_i2l dX12_safeBy_27 ?_
        refine g_goto (tgt := 34) dX12_safeBy_28 (by decide) ?_
        refine g_lmul dX12_safeBy_34 ?_
        refine n_lstore_n (fun x2 => [some (.inr (.inr 0)), some (.inl a1), some (.inl a2), some (.inr (.inl x2)), none, some (.inl v5)]) dX12_safeBy_35 rfl (Nat.le_of_ble_eq_true rfl) (fun _ => rfl) ?_
        intro x2
        refine n_iinc (fun x3 => [some (.inr (.inr 0)), some (.inl a1), some (.inl a2), some (.inr (.inl x2)), none, some (.inl x3)]) dX12_safeBy_36 rfl (Nat.le_of_ble_eq_true rfl) (fun _ => rfl) ?_
        intro x3
        refine g_goto (tgt := 5) dX12_safeBy_39 (by decide) ?_
        exact (ih x2 x3 σ)
      · refine g_ldc2 (n := 16) (tm 2128 (by decide +kernel) rfl) (by decide) dX12_safeBy_31 ?_
        refine g_lmul dX12_safeBy_34 ?_
        refine n_lstore_n (fun x4 => [some (.inr (.inr 0)), some (.inl a1), some (.inl a2), some (.inr (.inl x4)), none, some (.inl v5)]) dX12_safeBy_35 rfl (Nat.le_of_ble_eq_true rfl) (fun _ => rfl) ?_
        intro x4
        refine n_iinc (fun x5 => [some (.inr (.inr 0)), some (.inl a1), some (.inl a2), some (.inr (.inl x4)), none, some (.inl x5)]) dX12_safeBy_36 rfl (Nat.le_of_ble_eq_true rfl) (fun _ => rfl) ?_
        intro x5
        refine g_goto (tgt := 5) dX12_safeBy_39 (by decide) ?_
        exact (ih x4 x5 σ)
    · refine g_lload_n dX12_safeBy_42 rfl rfl ?_
      exact g_lret dX12_safeBy_43
def M_safeBy (a1 : Int) (a2 : Int) (σ : Sg) : Rs := (M_safeBy_L5 a1 a2 fu 1 0 σ)
theorem ok_M_safeBy (a1 : Int) (a2 : Int) (σ : Sg) : MC l Km Pm yX12_safeBy cX12_safeBy 6 1 1 [.inr (.inr 0), .inl a1, .inl a2] σ (M_safeBy a1 a2 σ) := by
  refine mc_of (by decide) (Nat.le_of_ble_eq_true rfl) ?_
  change G l Km Pm RX12 cX12_safeBy 6 1 1 0 [some (.inr (.inr 0)), some (.inl a1), some (.inl a2), none, none, none] [] σ (M_safeBy a1 a2 σ)
  unfold M_safeBy
  refine g_lconst (v := 1) dX12_safeBy_0 (by decide) ?_
  refine g_lstore_n (lv' := [some (.inr (.inr 0)), some (.inl a1), some (.inl a2), some (.inr (.inl 1)), none, none]) dX12_safeBy_1 rfl (Nat.le_of_ble_eq_true rfl) rfl ?_
  refine g_iconst dX12_safeBy_2 (by decide) ?_
  refine g_istore (lv' := [some (.inr (.inr 0)), some (.inl a1), some (.inl a2), some (.inr (.inl 1)), none, some (.inl 0)]) dX12_safeBy_3 (Nat.le_of_ble_eq_true rfl) rfl ?_
  refine (ok_M_safeBy_L5 a1 a2 fu 1 0 σ)
theorem dX12_riskiest_0 : decode cX12_riskiest 0 = .ok (.aload_n 0, 1) := by decide +kernel
theorem dX12_riskiest_1 : decode cX12_riskiest 1 = .ok (.iconst 0, 1) := by decide +kernel
theorem dX12_riskiest_2 : decode cX12_riskiest 2 = .ok (.putfield 67, 3) := by decide +kernel
theorem dX12_riskiest_5 : decode cX12_riskiest 5 = .ok (.aload_n 0, 1) := by decide +kernel
theorem dX12_riskiest_6 : decode cX12_riskiest 6 = .ok (.iconst 0, 1) := by decide +kernel
theorem dX12_riskiest_7 : decode cX12_riskiest 7 = .ok (.putfield 70, 3) := by decide +kernel
theorem dX12_riskiest_10 : decode cX12_riskiest 10 = .ok (.iconst (-1), 1) := by decide +kernel
theorem dX12_riskiest_11 : decode cX12_riskiest 11 = .ok (.istore_n 1, 1) := by decide +kernel
theorem dX12_riskiest_12 : decode cX12_riskiest 12 = .ok (.iconst 0, 1) := by decide +kernel
theorem dX12_riskiest_13 : decode cX12_riskiest 13 = .ok (.istore_n 2, 1) := by decide +kernel
theorem dX12_riskiest_14 : decode cX12_riskiest 14 = .ok (.iload_n 2, 1) := by decide +kernel
theorem dX12_riskiest_15 : decode cX12_riskiest 15 = .ok (.aload_n 0, 1) := by decide +kernel
theorem dX12_riskiest_16 : decode cX12_riskiest 16 = .ok (.getfield 35, 3) := by decide +kernel
theorem dX12_riskiest_19 : decode cX12_riskiest 19 = .ok (.iconst 0, 1) := by decide +kernel
theorem dX12_riskiest_20 : decode cX12_riskiest 20 = .ok (.iaload, 1) := by decide +kernel
theorem dX12_riskiest_21 : decode cX12_riskiest 21 = .ok (.if_icmp .ge 51, 3) := by decide +kernel
theorem dX12_riskiest_24 : decode cX12_riskiest 24 = .ok (.iload_n 1, 1) := by decide +kernel
theorem dX12_riskiest_25 : decode cX12_riskiest 25 = .ok (.ifCond .lt 39, 3) := by decide +kernel
theorem dX12_riskiest_28 : decode cX12_riskiest 28 = .ok (.aload_n 0, 1) := by decide +kernel
theorem dX12_riskiest_29 : decode cX12_riskiest 29 = .ok (.aload_n 0, 1) := by decide +kernel
theorem dX12_riskiest_30 : decode cX12_riskiest 30 = .ok (.bipush 43, 2) := by decide +kernel
theorem dX12_riskiest_32 : decode cX12_riskiest 32 = .ok (.iload_n 2, 1) := by decide +kernel
theorem dX12_riskiest_33 : decode cX12_riskiest 33 = .ok (.invokevirtual 339, 3) := by decide +kernel
theorem dX12_riskiest_36 : decode cX12_riskiest 36 = .ok (.invokestatic 390, 3) := by decide +kernel
theorem dX12_riskiest_39 : decode cX12_riskiest 39 = .ok (.bipush 6, 2) := by decide +kernel
theorem dX12_riskiest_41 : decode cX12_riskiest 41 = .ok (.invokevirtual 510, 3) := by decide +kernel
theorem dX12_riskiest_44 : decode cX12_riskiest 44 = .ok (.aload_n 0, 1) := by decide +kernel
theorem dX12_riskiest_45 : decode cX12_riskiest 45 = .ok (.aload_n 0, 1) := by decide +kernel
theorem dX12_riskiest_46 : decode cX12_riskiest 46 = .ok (.bipush 43, 2) := by decide +kernel
theorem dX12_riskiest_48 : decode cX12_riskiest 48 = .ok (.iload_n 1, 1) := by decide +kernel
theorem dX12_riskiest_49 : decode cX12_riskiest 49 = .ok (.invokevirtual 339, 3) := by decide +kernel
theorem dX12_riskiest_52 : decode cX12_riskiest 52 = .ok (.invokestatic 390, 3) := by decide +kernel
theorem dX12_riskiest_55 : decode cX12_riskiest 55 = .ok (.bipush 6, 2) := by decide +kernel
theorem dX12_riskiest_57 : decode cX12_riskiest 57 = .ok (.invokevirtual 510, 3) := by decide +kernel
theorem dX12_riskiest_60 : decode cX12_riskiest 60 = .ok (.lcmp, 1) := by decide +kernel
theorem dX12_riskiest_61 : decode cX12_riskiest 61 = .ok (.ifCond .ge 5, 3) := by decide +kernel
theorem dX12_riskiest_64 : decode cX12_riskiest 64 = .ok (.iload_n 2, 1) := by decide +kernel
theorem dX12_riskiest_65 : decode cX12_riskiest 65 = .ok (.istore_n 1, 1) := by decide +kernel
theorem dX12_riskiest_66 : decode cX12_riskiest 66 = .ok (.iinc 2 1, 3) := by decide +kernel
theorem dX12_riskiest_69 : decode cX12_riskiest 69 = .ok (.goto (-55), 3) := by decide +kernel
theorem dX12_riskiest_72 : decode cX12_riskiest 72 = .ok (.iload_n 1, 1) := by decide +kernel
theorem dX12_riskiest_73 : decode cX12_riskiest 73 = .ok (.ifCond .ge 12, 3) := by decide +kernel
theorem dX12_riskiest_76 : decode cX12_riskiest 76 = .ok (.aload_n 0, 1) := by decide +kernel
theorem dX12_riskiest_77 : decode cX12_riskiest 77 = .ok (.bipush 8, 2) := by decide +kernel
theorem dX12_riskiest_79 : decode cX12_riskiest 79 = .ok (.invokevirtual 325, 3) := by decide +kernel
theorem dX12_riskiest_82 : decode cX12_riskiest 82 = .ok (.goto 4, 3) := by decide +kernel
theorem dX12_riskiest_85 : decode cX12_riskiest 85 = .ok (.iload_n 1, 1) := by decide +kernel
theorem dX12_riskiest_86 : decode cX12_riskiest 86 = .ok (.ireturn, 1) := by decide +kernel
theorem mw_X12_riskiest : MW yX12_riskiest cX12_riskiest 3 0 0 false := ⟨tm 2358 (by decide +kernel) rfl, tm 249 (by decide +kernel) rfl, by decide, by decide, (by rw [if_neg (by decide)]; exact ⟨tm 2356 (by decide +kernel) rfl, tm 2357 (by decide +kernel) rfl⟩)⟩
theorem lk_RX12_510 : LK RX12 510 yX12_safeBy := Or.inl (tm 2344 (by decide +kernel) rfl)
def M_riskiest_L14 (k72 : Int → Sg → Rs) : Nat → Int → Int → Sg → Rs
  | 0, _, _, _ => none
  | n + 1, v1, v2, σ => (rd 2235 0 (σ 5 (Int.toNat 0)) (fun x3 => (if v2 < x3 then (if v1 < 0 then (nm (w32 (v2 + 1)) (fun x4 => (M_riskiest_L14 k72 n v2 x4 σ))) else (bd (M_peopleWith 43 v2 σ) (fun r5 s6 => (bd (M_sizeOf r5 s6) (fun r7 s8 => (bd (M_safeBy r7 6 s8) (fun r9 s10 => (bd (M_peopleWith 43 v1 s10) (fun r11 s12 => (bd (M_sizeOf r11 s12) (fun r13 s14 => (bd (M_safeBy r13 6 s14) (fun r15 s16 => (if r9 < r15 then (nm (w32 (v2 + 1)) (fun x17 => (M_riskiest_L14 k72 n v2 x17 s16))) else (nm (w32 (v2 + 1)) (fun x18 => (M_riskiest_L14 k72 n v1 x18 s16))))))))))))))))) else (k72 v1 σ))))
theorem ok_M_riskiest_L14 (k72 : Int → Sg → Rs) (hk72 : ∀ (y1 : Int) (σ : Sg), G l Km Pm RX12 cX12_riskiest 3 0 3 72 [some (.inr (.inr 0)), some (.inl y1), none] [] σ (k72 y1 σ)) : ∀ (n : Nat) (v1 v2 : Int) (σ : Sg), G l Km Pm RX12 cX12_riskiest 3 0 3 14 [some (.inr (.inr 0)), some (.inl v1), some (.inl v2)] [] σ (M_riskiest_L14 k72 n v1 v2 σ) := by
  intro n
  induction n with
  | zero => intros; exact G.none_
  | succ n ih =>
    intro v1 v2 σ
    rw [M_riskiest_L14]
    refine g_iload_n dX12_riskiest_14 rfl rfl ?_
    refine g_aload_n dX12_riskiest_15 rfl rfl ?_
    refine g_getr' (q := 5) fl_RX12_35 km_0 (by decide) rfl dX12_riskiest_16 ?_
    refine g_iconst dX12_riskiest_19 (by decide) ?_
    refine g_iald km_5 dX12_riskiest_20 ?_
    intro x3
    refine g_icmpge (tgt := 72) dX12_riskiest_21 (by decide) ?_ ?_
    · refine g_iload_n dX12_riskiest_24 rfl rfl ?_
      refine g_iflt (tgt := 64) dX12_riskiest_25 (by decide) ?_ ?_
      · refine g_iload_n dX12_riskiest_64 rfl rfl ?_
        refine g_istore_n (lv' := [some (.inr (.inr 0)), some (.inl v2), some (.inl v2)]) dX12_riskiest_65 rfl (Nat.le_of_ble_eq_true rfl) rfl ?_
        refine n_iinc (fun x4 => [some (.inr (.inr 0)), some (.inl v2), some (.inl x4)]) dX12_riskiest_66 rfl (Nat.le_of_ble_eq_true rfl) (fun _ => rfl) ?_
        intro x4
        refine g_goto (tgt := 14) dX12_riskiest_69 (by decide) ?_
        exact (ih v2 x4 σ)
      · refine g_aload_n dX12_riskiest_28 rfl rfl ?_
        refine g_aload_n dX12_riskiest_29 rfl rfl ?_
        refine g_bipush dX12_riskiest_30 (by decide) ?_
        refine g_iload_n dX12_riskiest_32 rfl rfl ?_
        refine g_callv0 (st := [.inr (.inr 0)]) 10 mw_X12_peopleWith lk_RX12_339 rfl km_0 (ok_M_peopleWith 43 v2 σ) (Nat.le_of_ble_eq_true rfl) rfl rfl (Nat.le_of_ble_eq_true rfl) dX12_riskiest_33 ?_
        intro r5 s6
        refine g_calls0 (st := [.inr (.inr 0)]) mw_X12_sizeOf lk_RX12_390 (ok_M_sizeOf r5 s6) (Nat.le_of_ble_eq_true rfl) rfl rfl (Nat.le_of_ble_eq_true rfl) dX12_riskiest_36 ?_
        intro r7 s8
        refine g_bipush dX12_riskiest_39 (by decide) ?_
        refine g_callv1 (st := []) 10 mw_X12_safeBy lk_RX12_510 rfl km_0 (ok_M_safeBy r7 6 s8) (Nat.le_of_ble_eq_true rfl) rfl rfl (Nat.le_of_ble_eq_true rfl) dX12_riskiest_41 ?_
        intro r9 s10
        refine g_aload_n dX12_riskiest_44 rfl rfl ?_
        refine g_aload_n dX12_riskiest_45 rfl rfl ?_
        refine g_bipush dX12_riskiest_46 (by decide) ?_
        refine g_iload_n dX12_riskiest_48 rfl rfl ?_
        refine g_callv0 (st := [.inr (.inr 0), .inr (.inl r9)]) 10 mw_X12_peopleWith lk_RX12_339 rfl km_0 (ok_M_peopleWith 43 v1 s10) (Nat.le_of_ble_eq_true rfl) rfl rfl (Nat.le_of_ble_eq_true rfl) dX12_riskiest_49 ?_
        intro r11 s12
        refine g_calls0 (st := [.inr (.inr 0), .inr (.inl r9)]) mw_X12_sizeOf lk_RX12_390 (ok_M_sizeOf r11 s12) (Nat.le_of_ble_eq_true rfl) rfl rfl (Nat.le_of_ble_eq_true rfl) dX12_riskiest_52 ?_
        intro r13 s14
        refine g_bipush dX12_riskiest_55 (by decide) ?_
        refine g_callv1 (st := [.inr (.inl r9)]) 10 mw_X12_safeBy lk_RX12_510 rfl km_0 (ok_M_safeBy r13 6 s14) (Nat.le_of_ble_eq_true rfl) rfl rfl (Nat.le_of_ble_eq_true rfl) dX12_riskiest_57 ?_
        intro r15 s16
        refine g_lcmpge (tgt := 66) dX12_riskiest_60 dX12_riskiest_61 (by decide) ?_ ?_
        · refine g_iload_n dX12_riskiest_64 rfl rfl ?_
          refine g_istore_n (lv' := [some (.inr (.inr 0)), some (.inl v2), some (.inl v2)]) dX12_riskiest_65 rfl (Nat.le_of_ble_eq_true rfl) rfl ?_
          refine n_iinc (fun x17 => [some (.inr (.inr 0)), some (.inl v2), some (.inl x17)]) dX12_riskiest_66 rfl (Nat.le_of_ble_eq_true rfl) (fun _ => rfl) ?_
          intro x17
          refine g_goto (tgt := 14) dX12_riskiest_69 (by decide) ?_
          exact (ih v2 x17 s16)
        · refine n_iinc (fun x18 => [some (.inr (.inr 0)), some (.inl v1), some (.inl x18)]) dX12_riskiest_66 rfl (Nat.le_of_ble_eq_true rfl) (fun _ => rfl) ?_
          intro x18
          refine g_goto (tgt := 14) dX12_riskiest_69 (by decide) ?_
          exact (ih v1 x18 s16)
    · exact (g_weak [true, true, false] (hk72 v1 σ))
def M_riskiest_J72 (v1 : Int) (σ : Sg) : Rs := (if v1 < 0 then (bd (M_refuse 8 σ) (fun r21 s22 => (some (r21, s22)))) else (some (v1, σ)))
theorem ok_M_riskiest_J72 (v1 : Int) : ∀ (σ : Sg), G l Km Pm RX12 cX12_riskiest 3 0 3 72 [some (.inr (.inr 0)), some (.inl v1), none] [] σ (M_riskiest_J72 v1  σ) := by
  intro σ
  unfold M_riskiest_J72
  refine g_iload_n dX12_riskiest_72 rfl rfl ?_
  refine g_ifge (tgt := 85) dX12_riskiest_73 (by decide) ?_ ?_
  · refine g_aload_n dX12_riskiest_76 rfl rfl ?_
    refine g_bipush dX12_riskiest_77 (by decide) ?_
    refine g_callv0 (st := []) 10 mw_X12_refuse lk_RX12_325 rfl km_0 (ok_M_refuse 8 σ) (Nat.le_of_ble_eq_true rfl) rfl rfl (Nat.le_of_ble_eq_true rfl) dX12_riskiest_79 ?_
    intro r21 s22
    refine g_goto (tgt := 86) dX12_riskiest_82 (by decide) ?_
    exact g_iret dX12_riskiest_86
  · refine g_iload_n dX12_riskiest_85 rfl rfl ?_
    exact g_iret dX12_riskiest_86
def M_riskiest  (σ : Sg) : Rs := (nm (up_s σ 0 1 0) (fun s1 => (nm (up_s s1 0 0 0) (fun s2 => (M_riskiest_L14 (fun x19 s20 => (M_riskiest_J72 x19 s20)) fu (-1) 0 s2)))))
theorem ok_M_riskiest (σ : Sg) : MC l Km Pm yX12_riskiest cX12_riskiest 3 0 3 [.inr (.inr 0)] σ (M_riskiest σ) := by
  refine mc_of (by decide) (Nat.le_of_ble_eq_true rfl) ?_
  change G l Km Pm RX12 cX12_riskiest 3 0 3 0 [some (.inr (.inr 0)), none, none] [] σ (M_riskiest  σ)
  unfold M_riskiest
  refine g_aload_n dX12_riskiest_0 rfl rfl ?_
  refine g_iconst dX12_riskiest_1 (by decide) ?_
  refine g_puti fl_RX12_67 km_0 (by decide) dX12_riskiest_2 ?_
  intro s1
  refine g_aload_n dX12_riskiest_5 rfl rfl ?_
  refine g_iconst dX12_riskiest_6 (by decide) ?_
  refine g_puti fl_RX12_70 km_0 (by decide) dX12_riskiest_7 ?_
  intro s2
  refine g_iconst dX12_riskiest_10 (by decide) ?_
  refine g_istore_n (lv' := [some (.inr (.inr 0)), some (.inl (-1)), none]) dX12_riskiest_11 rfl (Nat.le_of_ble_eq_true rfl) rfl ?_
  refine g_iconst dX12_riskiest_12 (by decide) ?_
  refine g_istore_n (lv' := [some (.inr (.inr 0)), some (.inl (-1)), some (.inl 0)]) dX12_riskiest_13 rfl (Nat.le_of_ble_eq_true rfl) rfl ?_
  refine (ok_M_riskiest_L14 _ ?_ fu (-1) 0 s2)
  · intro x19 s20
    refine (ok_M_riskiest_J72 x19 s20)
theorem dX12_roundOf_0 : decode cX12_roundOf 0 = .ok (.aload_n 0, 1) := by decide +kernel
theorem dX12_roundOf_1 : decode cX12_roundOf 1 = .ok (.getfield 54, 3) := by decide +kernel
theorem dX12_roundOf_4 : decode cX12_roundOf 4 = .ok (.iconst 0, 1) := by decide +kernel
theorem dX12_roundOf_5 : decode cX12_roundOf 5 = .ok (.iconst 0, 1) := by decide +kernel
theorem dX12_roundOf_6 : decode cX12_roundOf 6 = .ok (.iastore, 1) := by decide +kernel
theorem dX12_roundOf_7 : decode cX12_roundOf 7 = .ok (.iconst 1, 1) := by decide +kernel
theorem dX12_roundOf_8 : decode cX12_roundOf 8 = .ok (.istore_n 2, 1) := by decide +kernel
theorem dX12_roundOf_9 : decode cX12_roundOf 9 = .ok (.iload_n 2, 1) := by decide +kernel
theorem dX12_roundOf_10 : decode cX12_roundOf 10 = .ok (.iload_n 1, 1) := by decide +kernel
theorem dX12_roundOf_11 : decode cX12_roundOf 11 = .ok (.if_icmp .gt 109, 3) := by decide +kernel
theorem dX12_roundOf_14 : decode cX12_roundOf 14 = .ok (.aload_n 0, 1) := by decide +kernel
theorem dX12_roundOf_15 : decode cX12_roundOf 15 = .ok (.getfield 54, 3) := by decide +kernel
theorem dX12_roundOf_18 : decode cX12_roundOf 18 = .ok (.iload_n 2, 1) := by decide +kernel
theorem dX12_roundOf_19 : decode cX12_roundOf 19 = .ok (.iconst (-1), 1) := by decide +kernel
theorem dX12_roundOf_20 : decode cX12_roundOf 20 = .ok (.iastore, 1) := by decide +kernel
theorem dX12_roundOf_21 : decode cX12_roundOf 21 = .ok (.iconst 1, 1) := by decide +kernel
theorem dX12_roundOf_22 : decode cX12_roundOf 22 = .ok (.istore_n 3, 1) := by decide +kernel
theorem dX12_roundOf_23 : decode cX12_roundOf 23 = .ok (.iload_n 3, 1) := by decide +kernel
theorem dX12_roundOf_24 : decode cX12_roundOf 24 = .ok (.iload_n 2, 1) := by decide +kernel
theorem dX12_roundOf_25 : decode cX12_roundOf 25 = .ok (.if_icmp .gt 89, 3) := by decide +kernel
theorem dX12_roundOf_28 : decode cX12_roundOf 28 = .ok (.iload_n 3, 1) := by decide +kernel
theorem dX12_roundOf_29 : decode cX12_roundOf 29 = .ok (.iload_n 2, 1) := by decide +kernel
theorem dX12_roundOf_30 : decode cX12_roundOf 30 = .ok (.iconst (-1), 1) := by decide +kernel
theorem dX12_roundOf_31 : decode cX12_roundOf 31 = .ok (.ixor, 1) := by decide +kernel
theorem dX12_roundOf_32 : decode cX12_roundOf 32 = .ok (.iand, 1) := by decide +kernel
theorem dX12_roundOf_33 : decode cX12_roundOf 33 = .ok (.ifCond .ne 75, 3) := by decide +kernel
theorem dX12_roundOf_36 : decode cX12_roundOf 36 = .ok (.aload_n 0, 1) := by decide +kernel
theorem dX12_roundOf_37 : decode cX12_roundOf 37 = .ok (.iload_n 3, 1) := by decide +kernel
theorem dX12_roundOf_38 : decode cX12_roundOf 38 = .ok (.invokevirtual 472, 3) := by decide +kernel
theorem dX12_roundOf_41 : decode cX12_roundOf 41 = .ok (.ifCond .eq 67, 3) := by decide +kernel
theorem dX12_roundOf_44 : decode cX12_roundOf 44 = .ok (.aload_n 0, 1) := by decide +kernel
theorem dX12_roundOf_45 : decode cX12_roundOf 45 = .ok (.getfield 54, 3) := by decide +kernel
theorem dX12_roundOf_48 : decode cX12_roundOf 48 = .ok (.iload_n 2, 1) := by decide +kernel
theorem dX12_roundOf_49 : decode cX12_roundOf 49 = .ok (.iload_n 3, 1) := by decide +kernel
theorem dX12_roundOf_50 : decode cX12_roundOf 50 = .ok (.iconst (-1), 1) := by decide +kernel
theorem dX12_roundOf_51 : decode cX12_roundOf 51 = .ok (.ixor, 1) := by decide +kernel
theorem dX12_roundOf_52 : decode cX12_roundOf 52 = .ok (.iand, 1) := by decide +kernel
theorem dX12_roundOf_53 : decode cX12_roundOf 53 = .ok (.iaload, 1) := by decide +kernel
theorem dX12_roundOf_54 : decode cX12_roundOf 54 = .ok (.ifCond .ge 6, 3) := by decide +kernel
theorem dX12_roundOf_57 : decode cX12_roundOf 57 = .ok (.goto 51, 3) := by decide +kernel
theorem dX12_roundOf_60 : decode cX12_roundOf 60 = .ok (.aload_n 0, 1) := by decide +kernel
theorem dX12_roundOf_61 : decode cX12_roundOf 61 = .ok (.getfield 54, 3) := by decide +kernel
theorem dX12_roundOf_64 : decode cX12_roundOf 64 = .ok (.iload_n 2, 1) := by decide +kernel
theorem dX12_roundOf_65 : decode cX12_roundOf 65 = .ok (.iaload, 1) := by decide +kernel
theorem dX12_roundOf_66 : decode cX12_roundOf 66 = .ok (.ifCond .lt 24, 3) := by decide +kernel
theorem dX12_roundOf_69 : decode cX12_roundOf 69 = .ok (.aload_n 0, 1) := by decide +kernel
theorem dX12_roundOf_70 : decode cX12_roundOf 70 = .ok (.getfield 54, 3) := by decide +kernel
theorem dX12_roundOf_73 : decode cX12_roundOf 73 = .ok (.iload_n 2, 1) := by decide +kernel
theorem dX12_roundOf_74 : decode cX12_roundOf 74 = .ok (.iload_n 3, 1) := by decide +kernel
theorem dX12_roundOf_75 : decode cX12_roundOf 75 = .ok (.iconst (-1), 1) := by decide +kernel
theorem dX12_roundOf_76 : decode cX12_roundOf 76 = .ok (.ixor, 1) := by decide +kernel
theorem dX12_roundOf_77 : decode cX12_roundOf 77 = .ok (.iand, 1) := by decide +kernel
theorem dX12_roundOf_78 : decode cX12_roundOf 78 = .ok (.iaload, 1) := by decide +kernel
theorem dX12_roundOf_79 : decode cX12_roundOf 79 = .ok (.iconst 1, 1) := by decide +kernel
theorem dX12_roundOf_80 : decode cX12_roundOf 80 = .ok (.iadd, 1) := by decide +kernel
theorem dX12_roundOf_81 : decode cX12_roundOf 81 = .ok (.aload_n 0, 1) := by decide +kernel
theorem dX12_roundOf_82 : decode cX12_roundOf 82 = .ok (.getfield 54, 3) := by decide +kernel
theorem dX12_roundOf_85 : decode cX12_roundOf 85 = .ok (.iload_n 2, 1) := by decide +kernel
theorem dX12_roundOf_86 : decode cX12_roundOf 86 = .ok (.iaload, 1) := by decide +kernel
theorem dX12_roundOf_87 : decode cX12_roundOf 87 = .ok (.if_icmp .ge 21, 3) := by decide +kernel
theorem dX12_roundOf_90 : decode cX12_roundOf 90 = .ok (.aload_n 0, 1) := by decide +kernel
theorem dX12_roundOf_91 : decode cX12_roundOf 91 = .ok (.getfield 54, 3) := by decide +kernel
theorem dX12_roundOf_94 : decode cX12_roundOf 94 = .ok (.iload_n 2, 1) := by decide +kernel
theorem dX12_roundOf_95 : decode cX12_roundOf 95 = .ok (.aload_n 0, 1) := by decide +kernel
theorem dX12_roundOf_96 : decode cX12_roundOf 96 = .ok (.getfield 54, 3) := by decide +kernel
theorem dX12_roundOf_99 : decode cX12_roundOf 99 = .ok (.iload_n 2, 1) := by decide +kernel
theorem dX12_roundOf_100 : decode cX12_roundOf 100 = .ok (.iload_n 3, 1) := by decide +kernel
theorem dX12_roundOf_101 : decode cX12_roundOf 101 = .ok (.iconst (-1), 1) := by decide +kernel
theorem dX12_roundOf_102 : decode cX12_roundOf 102 = .ok (.ixor, 1) := by decide +kernel
theorem dX12_roundOf_103 : decode cX12_roundOf 103 = .ok (.iand, 1) := by decide +kernel
theorem dX12_roundOf_104 : decode cX12_roundOf 104 = .ok (.iaload, 1) := by decide +kernel
theorem dX12_roundOf_105 : decode cX12_roundOf 105 = .ok (.iconst 1, 1) := by decide +kernel
theorem dX12_roundOf_106 : decode cX12_roundOf 106 = .ok (.iadd, 1) := by decide +kernel
theorem dX12_roundOf_107 : decode cX12_roundOf 107 = .ok (.iastore, 1) := by decide +kernel
theorem dX12_roundOf_108 : decode cX12_roundOf 108 = .ok (.iinc 3 1, 3) := by decide +kernel
theorem dX12_roundOf_111 : decode cX12_roundOf 111 = .ok (.goto (-88), 3) := by decide +kernel
theorem dX12_roundOf_114 : decode cX12_roundOf 114 = .ok (.iinc 2 1, 3) := by decide +kernel
theorem dX12_roundOf_117 : decode cX12_roundOf 117 = .ok (.goto (-108), 3) := by decide +kernel
theorem dX12_roundOf_120 : decode cX12_roundOf 120 = .ok (.aload_n 0, 1) := by decide +kernel
theorem dX12_roundOf_121 : decode cX12_roundOf 121 = .ok (.getfield 54, 3) := by decide +kernel
theorem dX12_roundOf_124 : decode cX12_roundOf 124 = .ok (.iload_n 1, 1) := by decide +kernel
theorem dX12_roundOf_125 : decode cX12_roundOf 125 = .ok (.iaload, 1) := by decide +kernel
theorem dX12_roundOf_126 : decode cX12_roundOf 126 = .ok (.ireturn, 1) := by decide +kernel
theorem mw_X12_roundOf : MW yX12_roundOf cX12_roundOf 4 0 1 false := ⟨tm 2271 (by decide +kernel) rfl, tm 249 (by decide +kernel) rfl, by decide, by decide, (by rw [if_neg (by decide)]; exact ⟨tm 2270 (by decide +kernel) rfl, tm 211 (by decide +kernel) rfl⟩)⟩
theorem fl_RX12_54 : FL RX12 54 10 31 := ⟨_, _, _, _, cw_10, by decide, Or.inr (Or.inr (Or.inr (by decide))), Or.inl (by decide), Or.inl (tm 1599 (by decide +kernel) rfl)⟩
def M_roundOf_J90 (a1 : Int) (v2 : Int) (v3 : Int) (k23 : Int → Sg → Rs) (σ : Sg) : Rs := (rd 64 (an32 v2 (xo32 v3 (-1))) (σ 11 (Int.toNat (an32 v2 (xo32 v3 (-1))))) (fun x11 => (wr 64 v2 (up_s σ 11 (Int.toNat v2) (w32 (x11 + 1))) (fun s12 => (nm (w32 (v3 + 1)) (fun x13 => (k23 x13 s12)))))))
theorem ok_M_roundOf_J90 (a1 : Int) (v2 : Int) (v3 : Int) (k23 : Int → Sg → Rs) (hk23 : ∀ (y3 : Int) (σ : Sg), G l Km Pm RX12 cX12_roundOf 4 0 4 23 [some (.inr (.inr 0)), some (.inl a1), some (.inl v2), some (.inl y3)] [] σ (k23 y3 σ)) : ∀ (σ : Sg), G l Km Pm RX12 cX12_roundOf 4 0 4 90 [some (.inr (.inr 0)), some (.inl a1), some (.inl v2), some (.inl v3)] [] σ (M_roundOf_J90 a1 v2 v3 k23  σ) := by
  intro σ
  unfold M_roundOf_J90
  refine g_aload_n dX12_roundOf_90 rfl rfl ?_
  refine g_getr' (q := 11) fl_RX12_54 km_0 (by decide) rfl dX12_roundOf_91 ?_
  refine g_iload_n dX12_roundOf_94 rfl rfl ?_
  refine g_aload_n dX12_roundOf_95 rfl rfl ?_
  refine g_getr' (q := 11) fl_RX12_54 km_0 (by decide) rfl dX12_roundOf_96 ?_
  refine g_iload_n dX12_roundOf_99 rfl rfl ?_
  refine g_iload_n dX12_roundOf_100 rfl rfl ?_
  refine g_iconst dX12_roundOf_101 (by decide) ?_
  refine g_ixor dX12_roundOf_102 ?_
  refine g_iand dX12_roundOf_103 ?_
  refine g_iald km_11 dX12_roundOf_104 ?_
  intro x11
  refine g_iconst dX12_roundOf_105 (by decide) ?_
  refine g_iadd dX12_roundOf_106 ?_
  refine g_iast km_11 dX12_roundOf_107 ?_
  intro s12
  refine n_iinc (fun x13 => [some (.inr (.inr 0)), some (.inl a1), some (.inl v2), some (.inl x13)]) dX12_roundOf_108 rfl (Nat.le_of_ble_eq_true rfl) (fun _ => rfl) ?_
  intro x13
  refine g_goto (tgt := 23) dX12_roundOf_111 (by decide) ?_
  exact (hk23 x13 s12)
def M_roundOf_L23 (a1 : Int) (v2 : Int) (k9 : Int → Sg → Rs) : Nat → Int → Sg → Rs
  | 0, _, _ => none
  | n + 1, v3, σ => (if v2 < v3 then (nm (w32 (v2 + 1)) (fun x4 => (k9 x4 σ))) else (if (an32 v3 (xo32 v2 (-1))) = 0 then (bd (M_isOne v3 σ) (fun r5 s6 => (if r5 = 0 then (nm (w32 (v3 + 1)) (fun x7 => (M_roundOf_L23 a1 v2 k9 n x7 s6))) else (rd 64 (an32 v2 (xo32 v3 (-1))) (s6 11 (Int.toNat (an32 v2 (xo32 v3 (-1))))) (fun x8 => (if x8 < 0 then (nm (w32 (v3 + 1)) (fun x9 => (M_roundOf_L23 a1 v2 k9 n x9 s6))) else (rd 64 v2 (s6 11 (Int.toNat v2)) (fun x10 => (if x10 < 0 then (M_roundOf_J90 a1 v2 v3 (fun x14 s15 => (M_roundOf_L23 a1 v2 k9 n x14 s15)) s6) else (rd 64 (an32 v2 (xo32 v3 (-1))) (s6 11 (Int.toNat (an32 v2 (xo32 v3 (-1))))) (fun x16 => (rd 64 v2 (s6 11 (Int.toNat v2)) (fun x17 => (if (w32 (x16 + 1)) < x17 then (M_roundOf_J90 a1 v2 v3 (fun x18 s19 => (M_roundOf_L23 a1 v2 k9 n x18 s19)) s6) else (nm (w32 (v3 + 1)) (fun x20 => (M_roundOf_L23 a1 v2 k9 n x20 s6))))))))))))))))) else (nm (w32 (v3 + 1)) (fun x21 => (M_roundOf_L23 a1 v2 k9 n x21 σ)))))
theorem ok_M_roundOf_L23 (a1 : Int) (v2 : Int) (k9 : Int → Sg → Rs) (hk9 : ∀ (y2 : Int) (σ : Sg), G l Km Pm RX12 cX12_roundOf 4 0 4 9 [some (.inr (.inr 0)), some (.inl a1), some (.inl y2), none] [] σ (k9 y2 σ)) : ∀ (n : Nat) (v3 : Int) (σ : Sg), G l Km Pm RX12 cX12_roundOf 4 0 4 23 [some (.inr (.inr 0)), some (.inl a1), some (.inl v2), some (.inl v3)] [] σ (M_roundOf_L23 a1 v2 k9 n v3 σ) := by
  intro n
  induction n with
  | zero => intros; exact G.none_
  | succ n ih =>
    intro v3 σ
    rw [M_roundOf_L23]
    refine g_iload_n dX12_roundOf_23 rfl rfl ?_
    refine g_iload_n dX12_roundOf_24 rfl rfl ?_
    refine g_icmpgt (tgt := 114) dX12_roundOf_25 (by decide) ?_ ?_
    · refine n_iinc (fun x4 => [some (.inr (.inr 0)), some (.inl a1), some (.inl x4), some (.inl v3)]) dX12_roundOf_114 rfl (Nat.le_of_ble_eq_true rfl) (fun _ => rfl) ?_
      intro x4
      refine g_goto (tgt := 9) dX12_roundOf_117 (by decide) ?_
      exact (g_weak [true, true, true, false] (hk9 x4 σ))
    · refine g_iload_n dX12_roundOf_28 rfl rfl ?_
      refine g_iload_n dX12_roundOf_29 rfl rfl ?_
      refine g_iconst dX12_roundOf_30 (by decide) ?_
      refine g_ixor dX12_roundOf_31 ?_
      refine g_iand dX12_roundOf_32 ?_
      refine g_ifne (tgt := 108) dX12_roundOf_33 (by decide) ?_ ?_
      · refine g_aload_n dX12_roundOf_36 rfl rfl ?_
        refine g_iload_n dX12_roundOf_37 rfl rfl ?_
        refine g_callv3 (st := []) 10 mw_X12_isOne lk_RX12_472 rfl km_0 (ok_M_isOne v3 σ) (Nat.le_of_ble_eq_true rfl) rfl rfl (Nat.le_of_ble_eq_true rfl) dX12_roundOf_38 ?_
        intro r5 s6
        refine g_ifeq (tgt := 108) dX12_roundOf_41 (by decide) ?_ ?_
        · refine n_iinc (fun x7 => [some (.inr (.inr 0)), some (.inl a1), some (.inl v2), some (.inl x7)]) dX12_roundOf_108 rfl (Nat.le_of_ble_eq_true rfl) (fun _ => rfl) ?_
          intro x7
          refine g_goto (tgt := 23) dX12_roundOf_111 (by decide) ?_
          exact (ih x7 s6)
        · refine g_aload_n dX12_roundOf_44 rfl rfl ?_
          refine g_getr' (q := 11) fl_RX12_54 km_0 (by decide) rfl dX12_roundOf_45 ?_
          refine g_iload_n dX12_roundOf_48 rfl rfl ?_
          refine g_iload_n dX12_roundOf_49 rfl rfl ?_
          refine g_iconst dX12_roundOf_50 (by decide) ?_
          refine g_ixor dX12_roundOf_51 ?_
          refine g_iand dX12_roundOf_52 ?_
          refine g_iald km_11 dX12_roundOf_53 ?_
          intro x8
          refine g_ifge (tgt := 60) dX12_roundOf_54 (by decide) ?_ ?_
          · refine g_goto (tgt := 108) dX12_roundOf_57 (by decide) ?_
            refine n_iinc (fun x9 => [some (.inr (.inr 0)), some (.inl a1), some (.inl v2), some (.inl x9)]) dX12_roundOf_108 rfl (Nat.le_of_ble_eq_true rfl) (fun _ => rfl) ?_
            intro x9
            refine g_goto (tgt := 23) dX12_roundOf_111 (by decide) ?_
            exact (ih x9 s6)
          · refine g_aload_n dX12_roundOf_60 rfl rfl ?_
            refine g_getr' (q := 11) fl_RX12_54 km_0 (by decide) rfl dX12_roundOf_61 ?_
            refine g_iload_n dX12_roundOf_64 rfl rfl ?_
            refine g_iald km_11 dX12_roundOf_65 ?_
            intro x10
            refine g_iflt (tgt := 90) dX12_roundOf_66 (by decide) ?_ ?_
            · refine (ok_M_roundOf_J90 a1 v2 v3 _ ?_ s6)
              · intro x14 s15
                exact (ih x14 s15)
            · refine g_aload_n dX12_roundOf_69 rfl rfl ?_
              refine g_getr' (q := 11) fl_RX12_54 km_0 (by decide) rfl dX12_roundOf_70 ?_
              refine g_iload_n dX12_roundOf_73 rfl rfl ?_
              refine g_iload_n dX12_roundOf_74 rfl rfl ?_
              refine g_iconst dX12_roundOf_75 (by decide) ?_
              refine g_ixor dX12_roundOf_76 ?_
              refine g_iand dX12_roundOf_77 ?_
              refine g_iald km_11 dX12_roundOf_78 ?_
              intro x16
              refine g_iconst dX12_roundOf_79 (by decide) ?_
              refine g_iadd dX12_roundOf_80 ?_
              refine g_aload_n dX12_roundOf_81 rfl rfl ?_
              refine g_getr' (q := 11) fl_RX12_54 km_0 (by decide) rfl dX12_roundOf_82 ?_
              refine g_iload_n dX12_roundOf_85 rfl rfl ?_
              refine g_iald km_11 dX12_roundOf_86 ?_
              intro x17
              refine g_icmpge (tgt := 108) dX12_roundOf_87 (by decide) ?_ ?_
              · refine (ok_M_roundOf_J90 a1 v2 v3 _ ?_ s6)
                · intro x18 s19
                  exact (ih x18 s19)
              · refine n_iinc (fun x20 => [some (.inr (.inr 0)), some (.inl a1), some (.inl v2), some (.inl x20)]) dX12_roundOf_108 rfl (Nat.le_of_ble_eq_true rfl) (fun _ => rfl) ?_
                intro x20
                refine g_goto (tgt := 23) dX12_roundOf_111 (by decide) ?_
                exact (ih x20 s6)
      · refine n_iinc (fun x21 => [some (.inr (.inr 0)), some (.inl a1), some (.inl v2), some (.inl x21)]) dX12_roundOf_108 rfl (Nat.le_of_ble_eq_true rfl) (fun _ => rfl) ?_
        intro x21
        refine g_goto (tgt := 23) dX12_roundOf_111 (by decide) ?_
        exact (ih x21 σ)
def M_roundOf_L9 (a1 : Int) : Nat → Int → Sg → Rs
  | 0, _, _ => none
  | n + 1, v2, σ => (if a1 < v2 then (rd 64 a1 (σ 11 (Int.toNat a1)) (fun x2 => (some (x2, σ)))) else (wr 64 v2 (up_s σ 11 (Int.toNat v2) (-1)) (fun s3 => (M_roundOf_L23 a1 v2 (fun x22 s23 => (M_roundOf_L9 a1 n x22 s23)) fu 1 s3))))
theorem ok_M_roundOf_L9 (a1 : Int) : ∀ (n : Nat) (v2 : Int) (σ : Sg), G l Km Pm RX12 cX12_roundOf 4 0 4 9 [some (.inr (.inr 0)), some (.inl a1), some (.inl v2), none] [] σ (M_roundOf_L9 a1 n v2 σ) := by
  intro n
  induction n with
  | zero => intros; exact G.none_
  | succ n ih =>
    intro v2 σ
    rw [M_roundOf_L9]
    refine g_iload_n dX12_roundOf_9 rfl rfl ?_
    refine g_iload_n dX12_roundOf_10 rfl rfl ?_
    refine g_icmpgt (tgt := 120) dX12_roundOf_11 (by decide) ?_ ?_
    · refine g_aload_n dX12_roundOf_120 rfl rfl ?_
      refine g_getr' (q := 11) fl_RX12_54 km_0 (by decide) rfl dX12_roundOf_121 ?_
      refine g_iload_n dX12_roundOf_124 rfl rfl ?_
      refine g_iald km_11 dX12_roundOf_125 ?_
      intro x2
      exact g_iret dX12_roundOf_126
    · refine g_aload_n dX12_roundOf_14 rfl rfl ?_
      refine g_getr' (q := 11) fl_RX12_54 km_0 (by decide) rfl dX12_roundOf_15 ?_
      refine g_iload_n dX12_roundOf_18 rfl rfl ?_
      refine g_iconst dX12_roundOf_19 (by decide) ?_
      refine g_iast km_11 dX12_roundOf_20 ?_
      intro s3
      refine g_iconst dX12_roundOf_21 (by decide) ?_
      refine g_istore_n (lv' := [some (.inr (.inr 0)), some (.inl a1), some (.inl v2), some (.inl 1)]) dX12_roundOf_22 rfl (Nat.le_of_ble_eq_true rfl) rfl ?_
      refine (ok_M_roundOf_L23 a1 v2 _ ?_ fu 1 s3)
      · intro x22 s23
        exact (ih x22 s23)
def M_roundOf (a1 : Int) (σ : Sg) : Rs := (wr 64 0 (up_s σ 11 (Int.toNat 0) 0) (fun s1 => (M_roundOf_L9 a1 fu 1 s1)))
theorem ok_M_roundOf (a1 : Int) (σ : Sg) : MC l Km Pm yX12_roundOf cX12_roundOf 4 0 4 [.inr (.inr 0), .inl a1] σ (M_roundOf a1 σ) := by
  refine mc_of (by decide) (Nat.le_of_ble_eq_true rfl) ?_
  change G l Km Pm RX12 cX12_roundOf 4 0 4 0 [some (.inr (.inr 0)), some (.inl a1), none, none] [] σ (M_roundOf a1 σ)
  unfold M_roundOf
  refine g_aload_n dX12_roundOf_0 rfl rfl ?_
  refine g_getr' (q := 11) fl_RX12_54 km_0 (by decide) rfl dX12_roundOf_1 ?_
  refine g_iconst dX12_roundOf_4 (by decide) ?_
  refine g_iconst dX12_roundOf_5 (by decide) ?_
  refine g_iast km_11 dX12_roundOf_6 ?_
  intro s1
  refine g_iconst dX12_roundOf_7 (by decide) ?_
  refine g_istore_n (lv' := [some (.inr (.inr 0)), some (.inl a1), some (.inl 1), none]) dX12_roundOf_8 rfl (Nat.le_of_ble_eq_true rfl) rfl ?_
  refine (ok_M_roundOf_L9 a1 fu 1 s1)
theorem dX12_round_0 : decode cX12_round 0 = .ok (.aload_n 0, 1) := by decide +kernel
theorem dX12_round_1 : decode cX12_round 1 = .ok (.iconst 0, 1) := by decide +kernel
theorem dX12_round_2 : decode cX12_round 2 = .ok (.putfield 67, 3) := by decide +kernel
theorem dX12_round_5 : decode cX12_round 5 = .ok (.aload_n 0, 1) := by decide +kernel
theorem dX12_round_6 : decode cX12_round 6 = .ok (.iconst 0, 1) := by decide +kernel
theorem dX12_round_7 : decode cX12_round 7 = .ok (.putfield 70, 3) := by decide +kernel
theorem dX12_round_10 : decode cX12_round 10 = .ok (.aload_n 0, 1) := by decide +kernel
theorem dX12_round_11 : decode cX12_round 11 = .ok (.iload_n 1, 1) := by decide +kernel
theorem dX12_round_12 : decode cX12_round 12 = .ok (.invokevirtual 475, 3) := by decide +kernel
theorem dX12_round_15 : decode cX12_round 15 = .ok (.ifCond .ne 9, 3) := by decide +kernel
theorem dX12_round_18 : decode cX12_round 18 = .ok (.aload_n 0, 1) := by decide +kernel
theorem dX12_round_19 : decode cX12_round 19 = .ok (.iconst 5, 1) := by decide +kernel
theorem dX12_round_20 : decode cX12_round 20 = .ok (.invokevirtual 325, 3) := by decide +kernel
theorem dX12_round_23 : decode cX12_round 23 = .ok (.ireturn, 1) := by decide +kernel
theorem dX12_round_24 : decode cX12_round 24 = .ok (.aload_n 0, 1) := by decide +kernel
theorem dX12_round_25 : decode cX12_round 25 = .ok (.iload_n 1, 1) := by decide +kernel
theorem dX12_round_26 : decode cX12_round 26 = .ok (.invokevirtual 478, 3) := by decide +kernel
theorem dX12_round_29 : decode cX12_round 29 = .ok (.istore_n 2, 1) := by decide +kernel
theorem dX12_round_30 : decode cX12_round 30 = .ok (.iload_n 2, 1) := by decide +kernel
theorem dX12_round_31 : decode cX12_round 31 = .ok (.ifCond .ge 12, 3) := by decide +kernel
theorem dX12_round_34 : decode cX12_round 34 = .ok (.aload_n 0, 1) := by decide +kernel
theorem dX12_round_35 : decode cX12_round 35 = .ok (.bipush 8, 2) := by decide +kernel
theorem dX12_round_37 : decode cX12_round 37 = .ok (.invokevirtual 325, 3) := by decide +kernel
theorem dX12_round_40 : decode cX12_round 40 = .ok (.goto 4, 3) := by decide +kernel
theorem dX12_round_43 : decode cX12_round 43 = .ok (.iload_n 2, 1) := by decide +kernel
theorem dX12_round_44 : decode cX12_round 44 = .ok (.ireturn, 1) := by decide +kernel
theorem mw_X12_round : MW yX12_round cX12_round 3 0 1 false := ⟨tm 2263 (by decide +kernel) rfl, tm 249 (by decide +kernel) rfl, by decide, by decide, (by rw [if_neg (by decide)]; exact ⟨tm 2261 (by decide +kernel) rfl, tm 2262 (by decide +kernel) rfl⟩)⟩
theorem lk_RX12_475 : LK RX12 475 yX12_arePeople := Or.inl (tm 2264 (by decide +kernel) rfl)
theorem lk_RX12_478 : LK RX12 478 yX12_roundOf := Or.inl (tm 2268 (by decide +kernel) rfl)
def M_round (a1 : Int) (σ : Sg) : Rs := (nm (up_s σ 0 1 0) (fun s1 => (nm (up_s s1 0 0 0) (fun s2 => (bd (M_arePeople a1 s2) (fun r3 s4 => (if r3 = 0 then (bd (M_refuse 5 s4) (fun r5 s6 => (some (r5, s6)))) else (bd (M_roundOf a1 s4) (fun r7 s8 => (if r7 < 0 then (bd (M_refuse 8 s8) (fun r9 s10 => (some (r9, s10)))) else (some (r7, s8))))))))))))
theorem ok_M_round (a1 : Int) (σ : Sg) : MC l Km Pm yX12_round cX12_round 3 0 5 [.inr (.inr 0), .inl a1] σ (M_round a1 σ) := by
  refine mc_of (by decide) (Nat.le_of_ble_eq_true rfl) ?_
  change G l Km Pm RX12 cX12_round 3 0 5 0 [some (.inr (.inr 0)), some (.inl a1), none] [] σ (M_round a1 σ)
  unfold M_round
  refine g_aload_n dX12_round_0 rfl rfl ?_
  refine g_iconst dX12_round_1 (by decide) ?_
  refine g_puti fl_RX12_67 km_0 (by decide) dX12_round_2 ?_
  intro s1
  refine g_aload_n dX12_round_5 rfl rfl ?_
  refine g_iconst dX12_round_6 (by decide) ?_
  refine g_puti fl_RX12_70 km_0 (by decide) dX12_round_7 ?_
  intro s2
  refine g_aload_n dX12_round_10 rfl rfl ?_
  refine g_iload_n dX12_round_11 rfl rfl ?_
  refine g_callv3 (st := []) 10 mw_X12_arePeople lk_RX12_475 rfl km_0 (ok_M_arePeople a1 s2) (Nat.le_of_ble_eq_true rfl) rfl rfl (Nat.le_of_ble_eq_true rfl) dX12_round_12 ?_
  intro r3 s4
  refine g_ifne (tgt := 24) dX12_round_15 (by decide) ?_ ?_
  · refine g_aload_n dX12_round_18 rfl rfl ?_
    refine g_iconst dX12_round_19 (by decide) ?_
    refine g_callv0 (st := []) 10 mw_X12_refuse lk_RX12_325 rfl km_0 (ok_M_refuse 5 s4) (Nat.le_of_ble_eq_true rfl) rfl rfl (Nat.le_of_ble_eq_true rfl) dX12_round_20 ?_
    intro r5 s6
    exact g_iret dX12_round_23
  · refine g_aload_n dX12_round_24 rfl rfl ?_
    refine g_iload_n dX12_round_25 rfl rfl ?_
    refine g_callv0 (st := []) 10 mw_X12_roundOf lk_RX12_478 rfl km_0 (ok_M_roundOf a1 s4) (Nat.le_of_ble_eq_true rfl) rfl rfl (Nat.le_of_ble_eq_true rfl) dX12_round_26 ?_
    intro r7 s8
    refine g_istore_n (lv' := [some (.inr (.inr 0)), some (.inl a1), some (.inl r7)]) dX12_round_29 rfl (Nat.le_of_ble_eq_true rfl) rfl ?_
    refine g_iload_n dX12_round_30 rfl rfl ?_
    refine g_ifge (tgt := 43) dX12_round_31 (by decide) ?_ ?_
    · refine g_aload_n dX12_round_34 rfl rfl ?_
      refine g_bipush dX12_round_35 (by decide) ?_
      refine g_callv0 (st := []) 10 mw_X12_refuse lk_RX12_325 rfl km_0 (ok_M_refuse 8 s8) (Nat.le_of_ble_eq_true rfl) rfl rfl (Nat.le_of_ble_eq_true rfl) dX12_round_37 ?_
      intro r9 s10
      refine g_goto (tgt := 44) dX12_round_40 (by decide) ?_
      exact g_iret dX12_round_44
    · refine g_iload_n dX12_round_43 rfl rfl ?_
      exact g_iret dX12_round_44
theorem dX12_rule_0 : decode cX12_rule 0 = .ok (.aload_n 0, 1) := by decide +kernel
theorem dX12_rule_1 : decode cX12_rule 1 = .ok (.iconst 0, 1) := by decide +kernel
theorem dX12_rule_2 : decode cX12_rule 2 = .ok (.putfield 67, 3) := by decide +kernel
theorem dX12_rule_5 : decode cX12_rule 5 = .ok (.aload_n 0, 1) := by decide +kernel
theorem dX12_rule_6 : decode cX12_rule 6 = .ok (.iconst 0, 1) := by decide +kernel
theorem dX12_rule_7 : decode cX12_rule 7 = .ok (.putfield 70, 3) := by decide +kernel
theorem dX12_rule_10 : decode cX12_rule 10 = .ok (.iload_n 1, 1) := by decide +kernel
theorem dX12_rule_11 : decode cX12_rule 11 = .ok (.i2l, 1) := by decide +kernel
theorem dX12_rule_12 : decode cX12_rule 12 = .ok (.ldc2_w 337, 3) := by decide +kernel
theorem dX12_rule_15 : decode cX12_rule 15 = .ok (.ldc2_w 398, 3) := by decide +kernel
theorem dX12_rule_18 : decode cX12_rule 18 = .ok (.invokestatic 102, 3) := by decide +kernel
theorem dX12_rule_21 : decode cX12_rule 21 = .ok (.ifCond .eq 26, 3) := by decide +kernel
theorem dX12_rule_24 : decode cX12_rule 24 = .ok (.iload_n 2, 1) := by decide +kernel
theorem dX12_rule_25 : decode cX12_rule 25 = .ok (.i2l, 1) := by decide +kernel
theorem dX12_rule_26 : decode cX12_rule 26 = .ok (.lconst 0, 1) := by decide +kernel
theorem dX12_rule_27 : decode cX12_rule 27 = .ok (.iload_n 1, 1) := by decide +kernel
theorem dX12_rule_28 : decode cX12_rule 28 = .ok (.iconst 4, 1) := by decide +kernel
theorem dX12_rule_29 : decode cX12_rule 29 = .ok (.if_icmp .ne 9, 3) := by decide +kernel
theorem dX12_rule_32 : decode cX12_rule 32 = .ok (.ldc2_w 379, 3) := by decide +kernel
theorem dX12_rule_35 : decode cX12_rule 35 = .ok (.goto 6, 3) := by decide +kernel
theorem dX12_rule_38 : decode cX12_rule 38 = .ok (.ldc2_w 400, 3) := by decide +kernel
theorem dX12_rule_41 : decode cX12_rule 41 = .ok (.invokestatic 102, 3) := by decide +kernel
theorem dX12_rule_44 : decode cX12_rule 44 = .ok (.ifCond .ne 9, 3) := by decide +kernel
theorem dX12_rule_47 : decode cX12_rule 47 = .ok (.aload_n 0, 1) := by decide +kernel
theorem dX12_rule_48 : decode cX12_rule 48 = .ok (.iconst 5, 1) := by decide +kernel
theorem dX12_rule_49 : decode cX12_rule 49 = .ok (.invokevirtual 82, 3) := by decide +kernel
theorem dX12_rule_52 : decode cX12_rule 52 = .ok (.ireturn, 1) := by decide +kernel
theorem dX12_rule_53 : decode cX12_rule 53 = .ok (.aload_n 0, 1) := by decide +kernel
theorem dX12_rule_54 : decode cX12_rule 54 = .ok (.getfield 35, 3) := by decide +kernel
theorem dX12_rule_57 : decode cX12_rule 57 = .ok (.iload_n 1, 1) := by decide +kernel
theorem dX12_rule_58 : decode cX12_rule 58 = .ok (.iload_n 2, 1) := by decide +kernel
theorem dX12_rule_59 : decode cX12_rule 59 = .ok (.iastore, 1) := by decide +kernel
theorem dX12_rule_60 : decode cX12_rule 60 = .ok (.iconst 1, 1) := by decide +kernel
theorem dX12_rule_61 : decode cX12_rule 61 = .ok (.ireturn, 1) := by decide +kernel
theorem mw_X12_rule : MW yX12_rule cX12_rule 3 3 2 false := ⟨tm 2126 (by decide +kernel) rfl, tm 249 (by decide +kernel) rfl, by decide, by decide, (by rw [if_neg (by decide)]; exact ⟨tm 2124 (by decide +kernel) rfl, tm 2125 (by decide +kernel) rfl⟩)⟩
def M_rule_J41 (a1 : Int) (a2 : Int) (t0 t1 t2 : Int) (σ : Sg) : Rs := (bd (M_isIn t0 t1 t2 σ) (fun r7 s8 => (if r7 = 0 then (bd (M_no 5 s8) (fun r9 s10 => (zb r9 (some (r9, s10))))) else (wr 2235 a1 (up_s s8 5 (Int.toNat a1) a2) (fun s11 => (some (1, s11)))))))
theorem ok_M_rule_J41 (a1 : Int) (a2 : Int) : ∀ (t0 t1 t2 : Int) (σ : Sg), G l Km Pm RX12 cX12_rule 3 3 2 41 [some (.inr (.inr 0)), some (.inl a1), some (.inl a2)] [.inr (.inl t2), .inr (.inl t1), .inr (.inl t0)] σ (M_rule_J41 a1 a2 t0 t1 t2 σ) := by
  intro t0 t1 t2 σ
  unfold M_rule_J41
  refine g_calls3 (st := []) mw_X12_isIn lk_RX12_102 (ok_M_isIn t0 t1 t2 σ) (Nat.le_of_ble_eq_true rfl) rfl rfl (Nat.le_of_ble_eq_true rfl) dX12_rule_41 ?_
  intro r7 s8
  refine g_ifne (tgt := 53) dX12_rule_44 (by decide) ?_ ?_
  · refine g_aload_n dX12_rule_47 rfl rfl ?_
    refine g_iconst dX12_rule_48 (by decide) ?_
    refine g_callv3 (st := []) 10 mw_X12_no lk_RX12_82 rfl km_0 (ok_M_no 5 s8) (Nat.le_of_ble_eq_true rfl) rfl rfl (Nat.le_of_ble_eq_true rfl) dX12_rule_49 ?_
    intro r9 s10
    exact g_zret dX12_rule_52
  · refine g_aload_n dX12_rule_53 rfl rfl ?_
    refine g_getr' (q := 5) fl_RX12_35 km_0 (by decide) rfl dX12_rule_54 ?_
    refine g_iload_n dX12_rule_57 rfl rfl ?_
    refine g_iload_n dX12_rule_58 rfl rfl ?_
    refine g_iast km_5 dX12_rule_59 ?_
    intro s11
    refine g_iconst dX12_rule_60 (by decide) ?_
    exact g_zret1 dX12_rule_61
def M_rule (a1 : Int) (a2 : Int) (σ : Sg) : Rs := (nm (up_s σ 0 1 0) (fun s1 => (nm (up_s s1 0 0 0) (fun s2 => (bd (M_isIn a1 4 5 s2) (fun r3 s4 => (if r3 = 0 then (bd (M_no 5 s4) (fun r5 s6 => (zb r5 (some (r5, s6))))) else (if a1 = 4 then (M_rule_J41 a1 a2 a2 0 99 s4) else (M_rule_J41 a1 a2 a2 0 16 s4)))))))))
theorem ok_M_rule (a1 : Int) (a2 : Int) (σ : Sg) : MC l Km Pm yX12_rule cX12_rule 3 3 2 [.inr (.inr 0), .inl a1, .inl a2] σ (M_rule a1 a2 σ) := by
  refine mc_of (by decide) (Nat.le_of_ble_eq_true rfl) ?_
  change G l Km Pm RX12 cX12_rule 3 3 2 0 [some (.inr (.inr 0)), some (.inl a1), some (.inl a2)] [] σ (M_rule a1 a2 σ)
  unfold M_rule
  refine g_aload_n dX12_rule_0 rfl rfl ?_
  refine g_iconst dX12_rule_1 (by decide) ?_
  refine g_puti fl_RX12_67 km_0 (by decide) dX12_rule_2 ?_
  intro s1
  refine g_aload_n dX12_rule_5 rfl rfl ?_
  refine g_iconst dX12_rule_6 (by decide) ?_
  refine g_puti fl_RX12_70 km_0 (by decide) dX12_rule_7 ?_
  intro s2
  refine g_iload_n dX12_rule_10 rfl rfl ?_
  refine g_i2l dX12_rule_11 ?_
  refine g_ldc2 (n := 4) (tm 2009 (by decide +kernel) rfl) (by decide) dX12_rule_12 ?_
  refine g_ldc2 (n := 5) (tm 2127 (by decide +kernel) rfl) (by decide) dX12_rule_15 ?_
  refine g_calls3 (st := []) mw_X12_isIn lk_RX12_102 (ok_M_isIn a1 4 5 s2) (Nat.le_of_ble_eq_true rfl) rfl rfl (Nat.le_of_ble_eq_true rfl) dX12_rule_18 ?_
  intro r3 s4
  refine g_ifeq (tgt := 47) dX12_rule_21 (by decide) ?_ ?_
  · refine g_aload_n dX12_rule_47 rfl rfl ?_
    refine g_iconst dX12_rule_48 (by decide) ?_
    refine g_callv3 (st := []) 10 mw_X12_no lk_RX12_82 rfl km_0 (ok_M_no 5 s4) (Nat.le_of_ble_eq_true rfl) rfl rfl (Nat.le_of_ble_eq_true rfl) dX12_rule_49 ?_
    intro r5 s6
    exact g_zret dX12_rule_52
  · refine g_iload_n dX12_rule_24 rfl rfl ?_
    refine g_i2l dX12_rule_25 ?_
    refine g_lconst (v := 0) dX12_rule_26 (by decide) ?_
    refine g_iload_n dX12_rule_27 rfl rfl ?_
    refine g_iconst dX12_rule_28 (by decide) ?_
    refine g_icmpne (tgt := 38) dX12_rule_29 (by decide) ?_ ?_
    · refine g_ldc2 (n := 99) (tm 2061 (by decide +kernel) rfl) (by decide) dX12_rule_32 ?_
      refine g_goto (tgt := 41) dX12_rule_35 (by decide) ?_
      refine (ok_M_rule_J41 a1 a2 a2 0 99 s4)
    · refine g_ldc2 (n := 16) (tm 2128 (by decide +kernel) rfl) (by decide) dX12_rule_38 ?_
      refine (ok_M_rule_J41 a1 a2 a2 0 16 s4)
theorem dX12_rumour_0 : decode cX12_rumour 0 = .ok (.aload_n 0, 1) := by decide +kernel
theorem dX12_rumour_1 : decode cX12_rumour 1 = .ok (.iconst 0, 1) := by decide +kernel
theorem dX12_rumour_2 : decode cX12_rumour 2 = .ok (.putfield 67, 3) := by decide +kernel
theorem dX12_rumour_5 : decode cX12_rumour 5 = .ok (.aload_n 0, 1) := by decide +kernel
theorem dX12_rumour_6 : decode cX12_rumour 6 = .ok (.iconst 0, 1) := by decide +kernel
theorem dX12_rumour_7 : decode cX12_rumour 7 = .ok (.putfield 70, 3) := by decide +kernel
theorem dX12_rumour_10 : decode cX12_rumour 10 = .ok (.aload_n 0, 1) := by decide +kernel
theorem dX12_rumour_11 : decode cX12_rumour 11 = .ok (.iload_n 1, 1) := by decide +kernel
theorem dX12_rumour_12 : decode cX12_rumour 12 = .ok (.i2l, 1) := by decide +kernel
theorem dX12_rumour_13 : decode cX12_rumour 13 = .ok (.invokevirtual 334, 3) := by decide +kernel
theorem dX12_rumour_16 : decode cX12_rumour 16 = .ok (.ifCond .eq 11, 3) := by decide +kernel
theorem dX12_rumour_19 : decode cX12_rumour 19 = .ok (.aload_n 0, 1) := by decide +kernel
theorem dX12_rumour_20 : decode cX12_rumour 20 = .ok (.iload_n 2, 1) := by decide +kernel
theorem dX12_rumour_21 : decode cX12_rumour 21 = .ok (.invokevirtual 345, 3) := by decide +kernel
theorem dX12_rumour_24 : decode cX12_rumour 24 = .ok (.ifCond .ne 9, 3) := by decide +kernel
theorem dX12_rumour_27 : decode cX12_rumour 27 = .ok (.aload_n 0, 1) := by decide +kernel
theorem dX12_rumour_28 : decode cX12_rumour 28 = .ok (.iconst 2, 1) := by decide +kernel
theorem dX12_rumour_29 : decode cX12_rumour 29 = .ok (.invokevirtual 325, 3) := by decide +kernel
theorem dX12_rumour_32 : decode cX12_rumour 32 = .ok (.ireturn, 1) := by decide +kernel
theorem dX12_rumour_33 : decode cX12_rumour 33 = .ok (.aload_n 0, 1) := by decide +kernel
theorem dX12_rumour_34 : decode cX12_rumour 34 = .ok (.bipush 37, 2) := by decide +kernel
theorem dX12_rumour_36 : decode cX12_rumour 36 = .ok (.iload_n 1, 1) := by decide +kernel
theorem dX12_rumour_37 : decode cX12_rumour 37 = .ok (.invokevirtual 339, 3) := by decide +kernel
theorem dX12_rumour_40 : decode cX12_rumour 40 = .ok (.istore_n 3, 1) := by decide +kernel
theorem dX12_rumour_41 : decode cX12_rumour 41 = .ok (.iconst 0, 1) := by decide +kernel
theorem dX12_rumour_42 : decode cX12_rumour 42 = .ok (.istore 4, 2) := by decide +kernel
theorem dX12_rumour_44 : decode cX12_rumour 44 = .ok (.iload 4, 2) := by decide +kernel
theorem dX12_rumour_46 : decode cX12_rumour 46 = .ok (.bipush 6, 2) := by decide +kernel
theorem dX12_rumour_48 : decode cX12_rumour 48 = .ok (.if_icmp .gt 95, 3) := by decide +kernel
theorem dX12_rumour_51 : decode cX12_rumour 51 = .ok (.iload_n 3, 1) := by decide +kernel
theorem dX12_rumour_52 : decode cX12_rumour 52 = .ok (.iload_n 2, 1) := by decide +kernel
theorem dX12_rumour_53 : decode cX12_rumour 53 = .ok (.invokestatic 106, 3) := by decide +kernel
theorem dX12_rumour_56 : decode cX12_rumour 56 = .ok (.ifCond .eq 6, 3) := by decide +kernel
theorem dX12_rumour_59 : decode cX12_rumour 59 = .ok (.iload 4, 2) := by decide +kernel
theorem dX12_rumour_61 : decode cX12_rumour 61 = .ok (.ireturn, 1) := by decide +kernel
theorem dX12_rumour_62 : decode cX12_rumour 62 = .ok (.iload_n 3, 1) := by decide +kernel
theorem dX12_rumour_63 : decode cX12_rumour 63 = .ok (.istore 5, 2) := by decide +kernel
theorem dX12_rumour_65 : decode cX12_rumour 65 = .ok (.iconst 0, 1) := by decide +kernel
theorem dX12_rumour_66 : decode cX12_rumour 66 = .ok (.istore 6, 2) := by decide +kernel
theorem dX12_rumour_68 : decode cX12_rumour 68 = .ok (.iload 6, 2) := by decide +kernel
theorem dX12_rumour_70 : decode cX12_rumour 70 = .ok (.aload_n 0, 1) := by decide +kernel
theorem dX12_rumour_71 : decode cX12_rumour 71 = .ok (.getfield 35, 3) := by decide +kernel
theorem dX12_rumour_74 : decode cX12_rumour 74 = .ok (.iconst 1, 1) := by decide +kernel
theorem dX12_rumour_75 : decode cX12_rumour 75 = .ok (.iaload, 1) := by decide +kernel
theorem dX12_rumour_76 : decode cX12_rumour 76 = .ok (.if_icmp .ge 58, 3) := by decide +kernel
theorem dX12_rumour_79 : decode cX12_rumour 79 = .ok (.iconst 0, 1) := by decide +kernel
theorem dX12_rumour_80 : decode cX12_rumour 80 = .ok (.istore 7, 2) := by decide +kernel
theorem dX12_rumour_82 : decode cX12_rumour 82 = .ok (.iload 7, 2) := by decide +kernel
theorem dX12_rumour_84 : decode cX12_rumour 84 = .ok (.aload_n 0, 1) := by decide +kernel
theorem dX12_rumour_85 : decode cX12_rumour 85 = .ok (.getfield 35, 3) := by decide +kernel
theorem dX12_rumour_88 : decode cX12_rumour 88 = .ok (.iconst 1, 1) := by decide +kernel
theorem dX12_rumour_89 : decode cX12_rumour 89 = .ok (.iaload, 1) := by decide +kernel
theorem dX12_rumour_90 : decode cX12_rumour 90 = .ok (.if_icmp .ge 38, 3) := by decide +kernel
theorem dX12_rumour_93 : decode cX12_rumour 93 = .ok (.iload_n 3, 1) := by decide +kernel
theorem dX12_rumour_94 : decode cX12_rumour 94 = .ok (.iload 6, 2) := by decide +kernel
theorem dX12_rumour_96 : decode cX12_rumour 96 = .ok (.invokestatic 106, 3) := by decide +kernel
theorem dX12_rumour_99 : decode cX12_rumour 99 = .ok (.ifCond .eq 23, 3) := by decide +kernel
theorem dX12_rumour_102 : decode cX12_rumour 102 = .ok (.aload_n 0, 1) := by decide +kernel
theorem dX12_rumour_103 : decode cX12_rumour 103 = .ok (.iload 6, 2) := by decide +kernel
theorem dX12_rumour_105 : decode cX12_rumour 105 = .ok (.iload 7, 2) := by decide +kernel
theorem dX12_rumour_107 : decode cX12_rumour 107 = .ok (.invokevirtual 491, 3) := by decide +kernel
theorem dX12_rumour_110 : decode cX12_rumour 110 = .ok (.ifCond .eq 12, 3) := by decide +kernel
theorem dX12_rumour_113 : decode cX12_rumour 113 = .ok (.iload 5, 2) := by decide +kernel
theorem dX12_rumour_115 : decode cX12_rumour 115 = .ok (.iconst 1, 1) := by decide +kernel
theorem dX12_rumour_116 : decode cX12_rumour 116 = .ok (.iload 7, 2) := by decide +kernel
theorem dX12_rumour_118 : decode cX12_rumour 118 = .ok (.ishl, 1) := by decide +kernel
theorem dX12_rumour_119 : decode cX12_rumour 119 = .ok (.ior, 1) := by decide +kernel
theorem dX12_rumour_120 : decode cX12_rumour 120 = .ok (.istore 5, 2) := by decide +kernel
theorem dX12_rumour_122 : decode cX12_rumour 122 = .ok (.iinc 7 1, 3) := by decide +kernel
theorem dX12_rumour_125 : decode cX12_rumour 125 = .ok (.goto (-43), 3) := by decide +kernel
theorem dX12_rumour_128 : decode cX12_rumour 128 = .ok (.iinc 6 1, 3) := by decide +kernel
theorem dX12_rumour_131 : decode cX12_rumour 131 = .ok (.goto (-63), 3) := by decide +kernel
theorem dX12_rumour_134 : decode cX12_rumour 134 = .ok (.iload 5, 2) := by decide +kernel
theorem dX12_rumour_136 : decode cX12_rumour 136 = .ok (.istore_n 3, 1) := by decide +kernel
theorem dX12_rumour_137 : decode cX12_rumour 137 = .ok (.iinc 4 1, 3) := by decide +kernel
theorem dX12_rumour_140 : decode cX12_rumour 140 = .ok (.goto (-96), 3) := by decide +kernel
theorem dX12_rumour_143 : decode cX12_rumour 143 = .ok (.aload_n 0, 1) := by decide +kernel
theorem dX12_rumour_144 : decode cX12_rumour 144 = .ok (.bipush 8, 2) := by decide +kernel
theorem dX12_rumour_146 : decode cX12_rumour 146 = .ok (.invokevirtual 325, 3) := by decide +kernel
theorem dX12_rumour_149 : decode cX12_rumour 149 = .ok (.ireturn, 1) := by decide +kernel
theorem mw_X12_rumour : MW yX12_rumour cX12_rumour 8 0 2 false := ⟨tm 2315 (by decide +kernel) rfl, tm 249 (by decide +kernel) rfl, by decide, by decide, (by rw [if_neg (by decide)]; exact ⟨tm 2313 (by decide +kernel) rfl, tm 2314 (by decide +kernel) rfl⟩)⟩
theorem lk_RX12_491 : LK RX12 491 yX12_areDining := Or.inl (tm 2308 (by decide +kernel) rfl)
def M_rumour_L82 (a2 : Int) (v3 : Int) (v4 : Int) (v6 : Int) (k68 : Int → Int → Sg → Rs) : Nat → Int → Int → Sg → Rs
  | 0, _, _, _ => none
  | n + 1, v5, v7, σ => (rd 2235 1 (σ 5 (Int.toNat 1)) (fun x18 => (if v7 < x18 then (bd (M_has v3 v6 σ) (fun r19 s20 => (if r19 = 0 then (nm (w32 (v7 + 1)) (fun x21 => (M_rumour_L82 a2 v3 v4 v6 k68 n v5 x21 s20))) else (bd (M_areDining v6 v7 s20) (fun r22 s23 => (if r22 = 0 then (nm (w32 (v7 + 1)) (fun x24 => (M_rumour_L82 a2 v3 v4 v6 k68 n v5 x24 s23))) else (nm (or32 v5 (sl32 1 v7)) (fun x25 => (nm (w32 (v7 + 1)) (fun x26 => (M_rumour_L82 a2 v3 v4 v6 k68 n x25 x26 s23))))))))))) else (nm (w32 (v6 + 1)) (fun x27 => (k68 v5 x27 σ))))))
theorem ok_M_rumour_L82 (a2 : Int) (v3 : Int) (v4 : Int) (v6 : Int) (k68 : Int → Int → Sg → Rs) (hk68 : ∀ (y5 y6 : Int) (σ : Sg), G l Km Pm RX12 cX12_rumour 8 0 3 68 [some (.inr (.inr 0)), none, some (.inl a2), some (.inl v3), some (.inl v4), some (.inl y5), some (.inl y6), none] [] σ (k68 y5 y6 σ)) : ∀ (n : Nat) (v5 v7 : Int) (σ : Sg), G l Km Pm RX12 cX12_rumour 8 0 3 82 [some (.inr (.inr 0)), none, some (.inl a2), some (.inl v3), some (.inl v4), some (.inl v5), some (.inl v6), some (.inl v7)] [] σ (M_rumour_L82 a2 v3 v4 v6 k68 n v5 v7 σ) := by
  intro n
  induction n with
  | zero => intros; exact G.none_
  | succ n ih =>
    intro v5 v7 σ
    rw [M_rumour_L82]
    refine g_iload dX12_rumour_82 rfl ?_
    refine g_aload_n dX12_rumour_84 rfl rfl ?_
    refine g_getr' (q := 5) fl_RX12_35 km_0 (by decide) rfl dX12_rumour_85 ?_
    refine g_iconst dX12_rumour_88 (by decide) ?_
    refine g_iald km_5 dX12_rumour_89 ?_
    intro x18
    refine g_icmpge (tgt := 128) dX12_rumour_90 (by decide) ?_ ?_
    · refine g_iload_n dX12_rumour_93 rfl rfl ?_
      refine g_iload dX12_rumour_94 rfl ?_
      refine g_calls3 (st := []) mw_X12_has lk_RX12_106 (ok_M_has v3 v6 σ) (Nat.le_of_ble_eq_true rfl) rfl rfl (Nat.le_of_ble_eq_true rfl) dX12_rumour_96 ?_
      intro r19 s20
      refine g_ifeq (tgt := 122) dX12_rumour_99 (by decide) ?_ ?_
      · refine n_iinc (fun x21 => [some (.inr (.inr 0)), none, some (.inl a2), some (.inl v3), some (.inl v4), some (.inl v5), some (.inl v6), some (.inl x21)]) dX12_rumour_122 rfl (Nat.le_of_ble_eq_true rfl) (fun _ => rfl) ?_
        intro x21
        refine g_goto (tgt := 82) dX12_rumour_125 (by decide) ?_
        exact (ih v5 x21 s20)
      · refine g_aload_n dX12_rumour_102 rfl rfl ?_
        refine g_iload dX12_rumour_103 rfl ?_
        refine g_iload dX12_rumour_105 rfl ?_
        refine g_callv3 (st := []) 10 mw_X12_areDining lk_RX12_491 rfl km_0 (ok_M_areDining v6 v7 s20) (Nat.le_of_ble_eq_true rfl) rfl rfl (Nat.le_of_ble_eq_true rfl) dX12_rumour_107 ?_
        intro r22 s23
        refine g_ifeq (tgt := 122) dX12_rumour_110 (by decide) ?_ ?_
        · refine n_iinc (fun x24 => [some (.inr (.inr 0)), none, some (.inl a2), some (.inl v3), some (.inl v4), some (.inl v5), some (.inl v6), some (.inl x24)]) dX12_rumour_122 rfl (Nat.le_of_ble_eq_true rfl) (fun _ => rfl) ?_
          intro x24
          refine g_goto (tgt := 82) dX12_rumour_125 (by decide) ?_
          exact (ih v5 x24 s23)
        · refine g_iload dX12_rumour_113 rfl ?_
          refine g_iconst dX12_rumour_115 (by decide) ?_
          refine g_iload dX12_rumour_116 rfl ?_
          refine g_ishl dX12_rumour_118 ?_
          refine g_ior dX12_rumour_119 ?_
          refine n_istore (fun x25 => [some (.inr (.inr 0)), none, some (.inl a2), some (.inl v3), some (.inl v4), some (.inl x25), some (.inl v6), some (.inl v7)]) dX12_rumour_120 (Nat.le_of_ble_eq_true rfl) (fun _ => rfl) ?_
          intro x25
          refine n_iinc (fun x26 => [some (.inr (.inr 0)), none, some (.inl a2), some (.inl v3), some (.inl v4), some (.inl x25), some (.inl v6), some (.inl x26)]) dX12_rumour_122 rfl (Nat.le_of_ble_eq_true rfl) (fun _ => rfl) ?_
          intro x26
          refine g_goto (tgt := 82) dX12_rumour_125 (by decide) ?_
          exact (ih x25 x26 s23)
    · refine n_iinc (fun x27 => [some (.inr (.inr 0)), none, some (.inl a2), some (.inl v3), some (.inl v4), some (.inl v5), some (.inl x27), some (.inl v7)]) dX12_rumour_128 rfl (Nat.le_of_ble_eq_true rfl) (fun _ => rfl) ?_
      intro x27
      refine g_goto (tgt := 68) dX12_rumour_131 (by decide) ?_
      exact (g_weak [true, false, true, true, true, true, true, false] (hk68 v5 x27 σ))
def M_rumour_L68 (a2 : Int) (v3 : Int) (v4 : Int) (k44 : Int → Int → Sg → Rs) : Nat → Int → Int → Sg → Rs
  | 0, _, _, _ => none
  | n + 1, v5, v6, σ => (rd 2235 1 (σ 5 (Int.toNat 1)) (fun x17 => (if v6 < x17 then (M_rumour_L82 a2 v3 v4 v6 (fun x28 x29 s30 => (M_rumour_L68 a2 v3 v4 k44 n x28 x29 s30)) fu v5 0 σ) else (nm (w32 (v4 + 1)) (fun x31 => (k44 v5 x31 σ))))))
theorem ok_M_rumour_L68 (a2 : Int) (v3 : Int) (v4 : Int) (k44 : Int → Int → Sg → Rs) (hk44 : ∀ (y3 y4 : Int) (σ : Sg), G l Km Pm RX12 cX12_rumour 8 0 3 44 [some (.inr (.inr 0)), none, some (.inl a2), some (.inl y3), some (.inl y4), none, none, none] [] σ (k44 y3 y4 σ)) : ∀ (n : Nat) (v5 v6 : Int) (σ : Sg), G l Km Pm RX12 cX12_rumour 8 0 3 68 [some (.inr (.inr 0)), none, some (.inl a2), some (.inl v3), some (.inl v4), some (.inl v5), some (.inl v6), none] [] σ (M_rumour_L68 a2 v3 v4 k44 n v5 v6 σ) := by
  intro n
  induction n with
  | zero => intros; exact G.none_
  | succ n ih =>
    intro v5 v6 σ
    rw [M_rumour_L68]
    refine g_iload dX12_rumour_68 rfl ?_
    refine g_aload_n dX12_rumour_70 rfl rfl ?_
    refine g_getr' (q := 5) fl_RX12_35 km_0 (by decide) rfl dX12_rumour_71 ?_
    refine g_iconst dX12_rumour_74 (by decide) ?_
    refine g_iald km_5 dX12_rumour_75 ?_
    intro x17
    refine g_icmpge (tgt := 134) dX12_rumour_76 (by decide) ?_ ?_
    · refine g_iconst dX12_rumour_79 (by decide) ?_
      refine g_istore (lv' := [some (.inr (.inr 0)), none, some (.inl a2), some (.inl v3), some (.inl v4), some (.inl v5), some (.inl v6), some (.inl 0)]) dX12_rumour_80 (Nat.le_of_ble_eq_true rfl) rfl ?_
      refine (ok_M_rumour_L82 a2 v3 v4 v6 _ ?_ fu v5 0 σ)
      · intro x28 x29 s30
        exact (ih x28 x29 s30)
    · refine g_iload dX12_rumour_134 rfl ?_
      refine g_istore_n (lv' := [some (.inr (.inr 0)), none, some (.inl a2), some (.inl v5), some (.inl v4), some (.inl v5), some (.inl v6), none]) dX12_rumour_136 rfl (Nat.le_of_ble_eq_true rfl) rfl ?_
      refine n_iinc (fun x31 => [some (.inr (.inr 0)), none, some (.inl a2), some (.inl v5), some (.inl x31), some (.inl v5), some (.inl v6), none]) dX12_rumour_137 rfl (Nat.le_of_ble_eq_true rfl) (fun _ => rfl) ?_
      intro x31
      refine g_goto (tgt := 44) dX12_rumour_140 (by decide) ?_
      exact (g_weak [true, false, true, true, true, false, false, false] (hk44 v5 x31 σ))
def M_rumour_L44 (a2 : Int) : Nat → Int → Int → Sg → Rs
  | 0, _, _, _ => none
  | n + 1, v3, v4, σ => (if 6 < v4 then (bd (M_refuse 8 σ) (fun r13 s14 => (some (r13, s14)))) else (bd (M_has v3 a2 σ) (fun r15 s16 => (if r15 = 0 then (M_rumour_L68 a2 v3 v4 (fun x32 x33 s34 => (M_rumour_L44 a2 n x32 x33 s34)) fu v3 0 s16) else (some (v4, s16))))))
theorem ok_M_rumour_L44 (a2 : Int) : ∀ (n : Nat) (v3 v4 : Int) (σ : Sg), G l Km Pm RX12 cX12_rumour 8 0 3 44 [some (.inr (.inr 0)), none, some (.inl a2), some (.inl v3), some (.inl v4), none, none, none] [] σ (M_rumour_L44 a2 n v3 v4 σ) := by
  intro n
  induction n with
  | zero => intros; exact G.none_
  | succ n ih =>
    intro v3 v4 σ
    rw [M_rumour_L44]
    refine g_iload dX12_rumour_44 rfl ?_
    refine g_bipush dX12_rumour_46 (by decide) ?_
    refine g_icmpgt (tgt := 143) dX12_rumour_48 (by decide) ?_ ?_
    · refine g_aload_n dX12_rumour_143 rfl rfl ?_
      refine g_bipush dX12_rumour_144 (by decide) ?_
      refine g_callv0 (st := []) 10 mw_X12_refuse lk_RX12_325 rfl km_0 (ok_M_refuse 8 σ) (Nat.le_of_ble_eq_true rfl) rfl rfl (Nat.le_of_ble_eq_true rfl) dX12_rumour_146 ?_
      intro r13 s14
      exact g_iret dX12_rumour_149
    · refine g_iload_n dX12_rumour_51 rfl rfl ?_
      refine g_iload_n dX12_rumour_52 rfl rfl ?_
      refine g_calls3 (st := []) mw_X12_has lk_RX12_106 (ok_M_has v3 a2 σ) (Nat.le_of_ble_eq_true rfl) rfl rfl (Nat.le_of_ble_eq_true rfl) dX12_rumour_53 ?_
      intro r15 s16
      refine g_ifeq (tgt := 62) dX12_rumour_56 (by decide) ?_ ?_
      · refine g_iload_n dX12_rumour_62 rfl rfl ?_
        refine g_istore (lv' := [some (.inr (.inr 0)), none, some (.inl a2), some (.inl v3), some (.inl v4), some (.inl v3), none, none]) dX12_rumour_63 (Nat.le_of_ble_eq_true rfl) rfl ?_
        refine g_iconst dX12_rumour_65 (by decide) ?_
        refine g_istore (lv' := [some (.inr (.inr 0)), none, some (.inl a2), some (.inl v3), some (.inl v4), some (.inl v3), some (.inl 0), none]) dX12_rumour_66 (Nat.le_of_ble_eq_true rfl) rfl ?_
        refine (ok_M_rumour_L68 a2 v3 v4 _ ?_ fu v3 0 s16)
        · intro x32 x33 s34
          exact (ih x32 x33 s34)
      · refine g_iload dX12_rumour_59 rfl ?_
        exact g_iret dX12_rumour_61
def M_rumour (a1 : Int) (a2 : Int) (σ : Sg) : Rs := (nm (up_s σ 0 1 0) (fun s1 => (nm (up_s s1 0 0 0) (fun s2 => (bd (M_isWordAt a1 s2) (fun r3 s4 => (if r3 = 0 then (bd (M_refuse 2 s4) (fun r5 s6 => (some (r5, s6)))) else (bd (M_isPersonAt a2 s4) (fun r7 s8 => (if r7 = 0 then (bd (M_refuse 2 s8) (fun r9 s10 => (some (r9, s10)))) else (bd (M_peopleWith 37 a1 s8) (fun r11 s12 => (M_rumour_L44 a2 fu r11 0 s12)))))))))))))
theorem ok_M_rumour (a1 : Int) (a2 : Int) (σ : Sg) : MC l Km Pm yX12_rumour cX12_rumour 8 0 3 [.inr (.inr 0), .inl a1, .inl a2] σ (M_rumour a1 a2 σ) := by
  refine mc_of (by decide) (Nat.le_of_ble_eq_true rfl) ?_
  change G l Km Pm RX12 cX12_rumour 8 0 3 0 [some (.inr (.inr 0)), some (.inl a1), some (.inl a2), none, none, none, none, none] [] σ (M_rumour a1 a2 σ)
  unfold M_rumour
  refine g_aload_n dX12_rumour_0 rfl rfl ?_
  refine g_iconst dX12_rumour_1 (by decide) ?_
  refine g_puti fl_RX12_67 km_0 (by decide) dX12_rumour_2 ?_
  intro s1
  refine g_aload_n dX12_rumour_5 rfl rfl ?_
  refine g_iconst dX12_rumour_6 (by decide) ?_
  refine g_puti fl_RX12_70 km_0 (by decide) dX12_rumour_7 ?_
  intro s2
  refine g_aload_n dX12_rumour_10 rfl rfl ?_
  refine g_iload_n dX12_rumour_11 rfl rfl ?_
  refine g_i2l dX12_rumour_12 ?_
  refine g_callv3 (st := []) 10 mw_X12_isWordAt lk_RX12_334 rfl km_0 (ok_M_isWordAt a1 s2) (Nat.le_of_ble_eq_true rfl) rfl rfl (Nat.le_of_ble_eq_true rfl) dX12_rumour_13 ?_
  intro r3 s4
  refine g_ifeq (tgt := 27) dX12_rumour_16 (by decide) ?_ ?_
  · refine g_aload_n dX12_rumour_27 rfl rfl ?_
    refine g_iconst dX12_rumour_28 (by decide) ?_
    refine g_callv0 (st := []) 10 mw_X12_refuse lk_RX12_325 rfl km_0 (ok_M_refuse 2 s4) (Nat.le_of_ble_eq_true rfl) rfl rfl (Nat.le_of_ble_eq_true rfl) dX12_rumour_29 ?_
    intro r5 s6
    exact g_iret dX12_rumour_32
  · refine g_aload_n dX12_rumour_19 rfl rfl ?_
    refine g_iload_n dX12_rumour_20 rfl rfl ?_
    refine g_callv3 (st := []) 10 mw_X12_isPersonAt lk_RX12_345 rfl km_0 (ok_M_isPersonAt a2 s4) (Nat.le_of_ble_eq_true rfl) rfl rfl (Nat.le_of_ble_eq_true rfl) dX12_rumour_21 ?_
    intro r7 s8
    refine g_ifne (tgt := 33) dX12_rumour_24 (by decide) ?_ ?_
    · refine g_aload_n dX12_rumour_27 rfl rfl ?_
      refine g_iconst dX12_rumour_28 (by decide) ?_
      refine g_callv0 (st := []) 10 mw_X12_refuse lk_RX12_325 rfl km_0 (ok_M_refuse 2 s8) (Nat.le_of_ble_eq_true rfl) rfl rfl (Nat.le_of_ble_eq_true rfl) dX12_rumour_29 ?_
      intro r9 s10
      exact g_iret dX12_rumour_32
    · refine g_aload_n dX12_rumour_33 rfl rfl ?_
      refine g_bipush dX12_rumour_34 (by decide) ?_
      refine g_iload_n dX12_rumour_36 rfl rfl ?_
      refine g_callv0 (st := []) 10 mw_X12_peopleWith lk_RX12_339 rfl km_0 (ok_M_peopleWith 37 a1 s8) (Nat.le_of_ble_eq_true rfl) rfl rfl (Nat.le_of_ble_eq_true rfl) dX12_rumour_37 ?_
      intro r11 s12
      refine g_istore_n (lv' := [some (.inr (.inr 0)), some (.inl a1), some (.inl a2), some (.inl r11), none, none, none, none]) dX12_rumour_40 rfl (Nat.le_of_ble_eq_true rfl) rfl ?_
      refine g_iconst dX12_rumour_41 (by decide) ?_
      refine g_istore (lv' := [some (.inr (.inr 0)), some (.inl a1), some (.inl a2), some (.inl r11), some (.inl 0), none, none, none]) dX12_rumour_42 (Nat.le_of_ble_eq_true rfl) rfl ?_
      refine (g_weak [true, false, true, true, true, false, false, false] (ok_M_rumour_L44 a2 fu r11 0 s12))
theorem dX12_safe_0 : decode cX12_safe 0 = .ok (.aload_n 0, 1) := by decide +kernel
theorem dX12_safe_1 : decode cX12_safe 1 = .ok (.iconst 0, 1) := by decide +kernel
theorem dX12_safe_2 : decode cX12_safe 2 = .ok (.putfield 67, 3) := by decide +kernel
theorem dX12_safe_5 : decode cX12_safe 5 = .ok (.aload_n 0, 1) := by decide +kernel
theorem dX12_safe_6 : decode cX12_safe 6 = .ok (.iconst 0, 1) := by decide +kernel
theorem dX12_safe_7 : decode cX12_safe 7 = .ok (.putfield 70, 3) := by decide +kernel
theorem dX12_safe_10 : decode cX12_safe 10 = .ok (.aload_n 0, 1) := by decide +kernel
theorem dX12_safe_11 : decode cX12_safe 11 = .ok (.iload_n 1, 1) := by decide +kernel
theorem dX12_safe_12 : decode cX12_safe 12 = .ok (.i2l, 1) := by decide +kernel
theorem dX12_safe_13 : decode cX12_safe 13 = .ok (.invokevirtual 334, 3) := by decide +kernel
theorem dX12_safe_16 : decode cX12_safe 16 = .ok (.ifCond .ne 9, 3) := by decide +kernel
theorem dX12_safe_19 : decode cX12_safe 19 = .ok (.aload_n 0, 1) := by decide +kernel
theorem dX12_safe_20 : decode cX12_safe 20 = .ok (.iconst 2, 1) := by decide +kernel
theorem dX12_safe_21 : decode cX12_safe 21 = .ok (.invokevirtual 82, 3) := by decide +kernel
theorem dX12_safe_24 : decode cX12_safe 24 = .ok (.ireturn, 1) := by decide +kernel
theorem dX12_safe_25 : decode cX12_safe 25 = .ok (.iload_n 2, 1) := by decide +kernel
theorem dX12_safe_26 : decode cX12_safe 26 = .ok (.i2l, 1) := by decide +kernel
theorem dX12_safe_27 : decode cX12_safe 27 = .ok (.lconst 0, 1) := by decide +kernel
theorem dX12_safe_28 : decode cX12_safe 28 = .ok (.ldc2_w 351, 3) := by decide +kernel
theorem dX12_safe_31 : decode cX12_safe 31 = .ok (.invokestatic 102, 3) := by decide +kernel
theorem dX12_safe_34 : decode cX12_safe 34 = .ok (.ifCond .ne 9, 3) := by decide +kernel
theorem dX12_safe_37 : decode cX12_safe 37 = .ok (.aload_n 0, 1) := by decide +kernel
theorem dX12_safe_38 : decode cX12_safe 38 = .ok (.iconst 5, 1) := by decide +kernel
theorem dX12_safe_39 : decode cX12_safe 39 = .ok (.invokevirtual 82, 3) := by decide +kernel
theorem dX12_safe_42 : decode cX12_safe 42 = .ok (.ireturn, 1) := by decide +kernel
theorem dX12_safe_43 : decode cX12_safe 43 = .ok (.iload_n 2, 1) := by decide +kernel
theorem dX12_safe_44 : decode cX12_safe 44 = .ok (.aload_n 0, 1) := by decide +kernel
theorem dX12_safe_45 : decode cX12_safe 45 = .ok (.bipush 43, 2) := by decide +kernel
theorem dX12_safe_47 : decode cX12_safe 47 = .ok (.iload_n 1, 1) := by decide +kernel
theorem dX12_safe_48 : decode cX12_safe 48 = .ok (.invokevirtual 339, 3) := by decide +kernel
theorem dX12_safe_51 : decode cX12_safe 51 = .ok (.invokestatic 390, 3) := by decide +kernel
theorem dX12_safe_54 : decode cX12_safe 54 = .ok (.imul, 1) := by decide +kernel
theorem dX12_safe_55 : decode cX12_safe 55 = .ok (.istore_n 3, 1) := by decide +kernel
theorem dX12_safe_56 : decode cX12_safe 56 = .ok (.aload_n 0, 1) := by decide +kernel
theorem dX12_safe_57 : decode cX12_safe 57 = .ok (.aload_n 0, 1) := by decide +kernel
theorem dX12_safe_58 : decode cX12_safe 58 = .ok (.iload_n 3, 1) := by decide +kernel
theorem dX12_safe_59 : decode cX12_safe 59 = .ok (.iload_n 3, 1) := by decide +kernel
theorem dX12_safe_60 : decode cX12_safe 60 = .ok (.invokevirtual 510, 3) := by decide +kernel
theorem dX12_safe_63 : decode cX12_safe 63 = .ok (.aload_n 0, 1) := by decide +kernel
theorem dX12_safe_64 : decode cX12_safe 64 = .ok (.iconst 0, 1) := by decide +kernel
theorem dX12_safe_65 : decode cX12_safe 65 = .ok (.iload_n 3, 1) := by decide +kernel
theorem dX12_safe_66 : decode cX12_safe 66 = .ok (.invokevirtual 510, 3) := by decide +kernel
theorem dX12_safe_69 : decode cX12_safe 69 = .ok (.invokevirtual 513, 3) := by decide +kernel
theorem dX12_safe_72 : decode cX12_safe 72 = .ok (.ireturn, 1) := by decide +kernel
theorem mw_X12_safe : MW yX12_safe cX12_safe 4 3 2 false := ⟨tm 2343 (by decide +kernel) rfl, tm 249 (by decide +kernel) rfl, by decide, by decide, (by rw [if_neg (by decide)]; exact ⟨tm 2341 (by decide +kernel) rfl, tm 2342 (by decide +kernel) rfl⟩)⟩
def M_safe (a1 : Int) (a2 : Int) (σ : Sg) : Rs := (nm (up_s σ 0 1 0) (fun s1 => (nm (up_s s1 0 0 0) (fun s2 => (bd (M_isWordAt a1 s2) (fun r3 s4 => (if r3 = 0 then (bd (M_no 2 s4) (fun r5 s6 => (zb r5 (some (r5, s6))))) else (bd (M_isIn a2 0 2 s4) (fun r7 s8 => (if r7 = 0 then (bd (M_no 5 s8) (fun r9 s10 => (zb r9 (some (r9, s10))))) else (bd (M_peopleWith 43 a1 s8) (fun r11 s12 => (bd (M_sizeOf r11 s12) (fun r13 s14 => (nm (w32 (a2 * r13)) (fun x15 => (bd (M_safeBy x15 x15 s14) (fun r16 s17 => (bd (M_safeBy 0 x15 s17) (fun r18 s19 => (bd (M_fraction r16 r18 s19) (fun r20 s21 => (zb r20 (some (r20, s21)))))))))))))))))))))))))
theorem ok_M_safe (a1 : Int) (a2 : Int) (σ : Sg) : MC l Km Pm yX12_safe cX12_safe 4 3 3 [.inr (.inr 0), .inl a1, .inl a2] σ (M_safe a1 a2 σ) := by
  refine mc_of (by decide) (Nat.le_of_ble_eq_true rfl) ?_
  change G l Km Pm RX12 cX12_safe 4 3 3 0 [some (.inr (.inr 0)), some (.inl a1), some (.inl a2), none] [] σ (M_safe a1 a2 σ)
  unfold M_safe
  refine g_aload_n dX12_safe_0 rfl rfl ?_
  refine g_iconst dX12_safe_1 (by decide) ?_
  refine g_puti fl_RX12_67 km_0 (by decide) dX12_safe_2 ?_
  intro s1
  refine g_aload_n dX12_safe_5 rfl rfl ?_
  refine g_iconst dX12_safe_6 (by decide) ?_
  refine g_puti fl_RX12_70 km_0 (by decide) dX12_safe_7 ?_
  intro s2
  refine g_aload_n dX12_safe_10 rfl rfl ?_
  refine g_iload_n dX12_safe_11 rfl rfl ?_
  refine g_i2l dX12_safe_12 ?_
  refine g_callv3 (st := []) 10 mw_X12_isWordAt lk_RX12_334 rfl km_0 (ok_M_isWordAt a1 s2) (Nat.le_of_ble_eq_true rfl) rfl rfl (Nat.le_of_ble_eq_true rfl) dX12_safe_13 ?_
  intro r3 s4
  refine g_ifne (tgt := 25) dX12_safe_16 (by decide) ?_ ?_
  · refine g_aload_n dX12_safe_19 rfl rfl ?_
    refine g_iconst dX12_safe_20 (by decide) ?_
    refine g_callv3 (st := []) 10 mw_X12_no lk_RX12_82 rfl km_0 (ok_M_no 2 s4) (Nat.le_of_ble_eq_true rfl) rfl rfl (Nat.le_of_ble_eq_true rfl) dX12_safe_21 ?_
    intro r5 s6
    exact g_zret dX12_safe_24
  · refine g_iload_n dX12_safe_25 rfl rfl ?_
    refine g_i2l dX12_safe_26 ?_
    refine g_lconst (v := 0) dX12_safe_27 (by decide) ?_
    refine g_ldc2 (n := 2) (tm 2038 (by decide +kernel) rfl) (by decide) dX12_safe_28 ?_
    refine g_calls3 (st := []) mw_X12_isIn lk_RX12_102 (ok_M_isIn a2 0 2 s4) (Nat.le_of_ble_eq_true rfl) rfl rfl (Nat.le_of_ble_eq_true rfl) dX12_safe_31 ?_
    intro r7 s8
    refine g_ifne (tgt := 43) dX12_safe_34 (by decide) ?_ ?_
    · refine g_aload_n dX12_safe_37 rfl rfl ?_
      refine g_iconst dX12_safe_38 (by decide) ?_
      refine g_callv3 (st := []) 10 mw_X12_no lk_RX12_82 rfl km_0 (ok_M_no 5 s8) (Nat.le_of_ble_eq_true rfl) rfl rfl (Nat.le_of_ble_eq_true rfl) dX12_safe_39 ?_
      intro r9 s10
      exact g_zret dX12_safe_42
    · refine g_iload_n dX12_safe_43 rfl rfl ?_
      refine g_aload_n dX12_safe_44 rfl rfl ?_
      refine g_bipush dX12_safe_45 (by decide) ?_
      refine g_iload_n dX12_safe_47 rfl rfl ?_
      refine g_callv0 (st := [.inl a2]) 10 mw_X12_peopleWith lk_RX12_339 rfl km_0 (ok_M_peopleWith 43 a1 s8) (Nat.le_of_ble_eq_true rfl) rfl rfl (Nat.le_of_ble_eq_true rfl) dX12_safe_48 ?_
      intro r11 s12
      refine g_calls0 (st := [.inl a2]) mw_X12_sizeOf lk_RX12_390 (ok_M_sizeOf r11 s12) (Nat.le_of_ble_eq_true rfl) rfl rfl (Nat.le_of_ble_eq_true rfl) dX12_safe_51 ?_
      intro r13 s14
      refine g_imul dX12_safe_54 ?_
      refine n_istore_n (fun x15 => [some (.inr (.inr 0)), some (.inl a1), some (.inl a2), some (.inl x15)]) dX12_safe_55 rfl (Nat.le_of_ble_eq_true rfl) (fun _ => rfl) ?_
      intro x15
      refine g_aload_n dX12_safe_56 rfl rfl ?_
      refine g_aload_n dX12_safe_57 rfl rfl ?_
      refine g_iload_n dX12_safe_58 rfl rfl ?_
      refine g_iload_n dX12_safe_59 rfl rfl ?_
      refine g_callv1 (st := [.inr (.inr 0)]) 10 mw_X12_safeBy lk_RX12_510 rfl km_0 (ok_M_safeBy x15 x15 s14) (Nat.le_of_ble_eq_true rfl) rfl rfl (Nat.le_of_ble_eq_true rfl) dX12_safe_60 ?_
      intro r16 s17
      refine g_aload_n dX12_safe_63 rfl rfl ?_
      refine g_iconst dX12_safe_64 (by decide) ?_
      refine g_iload_n dX12_safe_65 rfl rfl ?_
      refine g_callv1 (st := [.inr (.inl r16), .inr (.inr 0)]) 10 mw_X12_safeBy lk_RX12_510 rfl km_0 (ok_M_safeBy 0 x15 s17) (Nat.le_of_ble_eq_true rfl) rfl rfl (Nat.le_of_ble_eq_true rfl) dX12_safe_66 ?_
      intro r18 s19
      refine g_callv3 (st := []) 10 mw_X12_fraction lk_RX12_513 rfl km_0 (ok_M_fraction r16 r18 s19) (Nat.le_of_ble_eq_true rfl) rfl rfl (Nat.le_of_ble_eq_true rfl) dX12_safe_69 ?_
      intro r20 s21
      exact g_zret dX12_safe_72
theorem dX12_say_0 : decode cX12_say 0 = .ok (.aload_n 0, 1) := by decide +kernel
theorem dX12_say_1 : decode cX12_say 1 = .ok (.iconst 0, 1) := by decide +kernel
theorem dX12_say_2 : decode cX12_say 2 = .ok (.putfield 67, 3) := by decide +kernel
theorem dX12_say_5 : decode cX12_say 5 = .ok (.aload_n 0, 1) := by decide +kernel
theorem dX12_say_6 : decode cX12_say 6 = .ok (.iconst 0, 1) := by decide +kernel
theorem dX12_say_7 : decode cX12_say 7 = .ok (.putfield 70, 3) := by decide +kernel
theorem dX12_say_10 : decode cX12_say 10 = .ok (.aload_n 0, 1) := by decide +kernel
theorem dX12_say_11 : decode cX12_say 11 = .ok (.iload_n 1, 1) := by decide +kernel
theorem dX12_say_12 : decode cX12_say 12 = .ok (.invokevirtual 345, 3) := by decide +kernel
theorem dX12_say_15 : decode cX12_say 15 = .ok (.ifCond .eq 20, 3) := by decide +kernel
theorem dX12_say_18 : decode cX12_say 18 = .ok (.aload_n 0, 1) := by decide +kernel
theorem dX12_say_19 : decode cX12_say 19 = .ok (.iload_n 2, 1) := by decide +kernel
theorem dX12_say_20 : decode cX12_say 20 = .ok (.i2l, 1) := by decide +kernel
theorem dX12_say_21 : decode cX12_say 21 = .ok (.invokevirtual 334, 3) := by decide +kernel
theorem dX12_say_24 : decode cX12_say 24 = .ok (.ifCond .eq 11, 3) := by decide +kernel
theorem dX12_say_27 : decode cX12_say 27 = .ok (.aload_n 0, 1) := by decide +kernel
theorem dX12_say_28 : decode cX12_say 28 = .ok (.iload_n 3, 1) := by decide +kernel
theorem dX12_say_29 : decode cX12_say 29 = .ok (.invokevirtual 345, 3) := by decide +kernel
theorem dX12_say_32 : decode cX12_say 32 = .ok (.ifCond .ne 9, 3) := by decide +kernel
theorem dX12_say_35 : decode cX12_say 35 = .ok (.aload_n 0, 1) := by decide +kernel
theorem dX12_say_36 : decode cX12_say 36 = .ok (.iconst 2, 1) := by decide +kernel
theorem dX12_say_37 : decode cX12_say 37 = .ok (.invokevirtual 325, 3) := by decide +kernel
theorem dX12_say_40 : decode cX12_say 40 = .ok (.ireturn, 1) := by decide +kernel
theorem dX12_say_41 : decode cX12_say 41 = .ok (.aload_n 0, 1) := by decide +kernel
theorem dX12_say_42 : decode cX12_say 42 = .ok (.iload_n 1, 1) := by decide +kernel
theorem dX12_say_43 : decode cX12_say 43 = .ok (.iload_n 2, 1) := by decide +kernel
theorem dX12_say_44 : decode cX12_say 44 = .ok (.iload_n 3, 1) := by decide +kernel
theorem dX12_say_45 : decode cX12_say 45 = .ok (.invokevirtual 369, 3) := by decide +kernel
theorem dX12_say_48 : decode cX12_say 48 = .ok (.ifCond .eq 11, 3) := by decide +kernel
theorem dX12_say_51 : decode cX12_say 51 = .ok (.aload_n 0, 1) := by decide +kernel
theorem dX12_say_52 : decode cX12_say 52 = .ok (.iload_n 1, 1) := by decide +kernel
theorem dX12_say_53 : decode cX12_say 53 = .ok (.invokevirtual 320, 3) := by decide +kernel
theorem dX12_say_56 : decode cX12_say 56 = .ok (.goto 9, 3) := by decide +kernel
theorem dX12_say_59 : decode cX12_say 59 = .ok (.aload_n 0, 1) := by decide +kernel
theorem dX12_say_60 : decode cX12_say 60 = .ok (.bipush 9, 2) := by decide +kernel
theorem dX12_say_62 : decode cX12_say 62 = .ok (.invokevirtual 325, 3) := by decide +kernel
theorem dX12_say_65 : decode cX12_say 65 = .ok (.ireturn, 1) := by decide +kernel
theorem mw_X12_say : MW yX12_say cX12_say 4 0 3 false := ⟨tm 2086 (by decide +kernel) rfl, tm 249 (by decide +kernel) rfl, by decide, by decide, (by rw [if_neg (by decide)]; exact ⟨tm 2084 (by decide +kernel) rfl, tm 2085 (by decide +kernel) rfl⟩)⟩
def M_say (a1 : Int) (a2 : Int) (a3 : Int) (σ : Sg) : Rs := (nm (up_s σ 0 1 0) (fun s1 => (nm (up_s s1 0 0 0) (fun s2 => (bd (M_isPersonAt a1 s2) (fun r3 s4 => (if r3 = 0 then (bd (M_refuse 2 s4) (fun r5 s6 => (some (r5, s6)))) else (bd (M_isWordAt a2 s4) (fun r7 s8 => (if r7 = 0 then (bd (M_refuse 2 s8) (fun r9 s10 => (some (r9, s10)))) else (bd (M_isPersonAt a3 s8) (fun r11 s12 => (if r11 = 0 then (bd (M_refuse 2 s12) (fun r13 s14 => (some (r13, s14)))) else (bd (M_says a1 a2 a3 s12) (fun r15 s16 => (if r15 = 0 then (bd (M_refuse 9 s16) (fun r17 s18 => (some (r17, s18)))) else (bd (M_hairOf a1 s16) (fun r19 s20 => (some (r19, s20))))))))))))))))))))
theorem ok_M_say (a1 : Int) (a2 : Int) (a3 : Int) (σ : Sg) : MC l Km Pm yX12_say cX12_say 4 0 4 [.inr (.inr 0), .inl a1, .inl a2, .inl a3] σ (M_say a1 a2 a3 σ) := by
  refine mc_of (by decide) (Nat.le_of_ble_eq_true rfl) ?_
  change G l Km Pm RX12 cX12_say 4 0 4 0 [some (.inr (.inr 0)), some (.inl a1), some (.inl a2), some (.inl a3)] [] σ (M_say a1 a2 a3 σ)
  unfold M_say
  refine g_aload_n dX12_say_0 rfl rfl ?_
  refine g_iconst dX12_say_1 (by decide) ?_
  refine g_puti fl_RX12_67 km_0 (by decide) dX12_say_2 ?_
  intro s1
  refine g_aload_n dX12_say_5 rfl rfl ?_
  refine g_iconst dX12_say_6 (by decide) ?_
  refine g_puti fl_RX12_70 km_0 (by decide) dX12_say_7 ?_
  intro s2
  refine g_aload_n dX12_say_10 rfl rfl ?_
  refine g_iload_n dX12_say_11 rfl rfl ?_
  refine g_callv3 (st := []) 10 mw_X12_isPersonAt lk_RX12_345 rfl km_0 (ok_M_isPersonAt a1 s2) (Nat.le_of_ble_eq_true rfl) rfl rfl (Nat.le_of_ble_eq_true rfl) dX12_say_12 ?_
  intro r3 s4
  refine g_ifeq (tgt := 35) dX12_say_15 (by decide) ?_ ?_
  · refine g_aload_n dX12_say_35 rfl rfl ?_
    refine g_iconst dX12_say_36 (by decide) ?_
    refine g_callv0 (st := []) 10 mw_X12_refuse lk_RX12_325 rfl km_0 (ok_M_refuse 2 s4) (Nat.le_of_ble_eq_true rfl) rfl rfl (Nat.le_of_ble_eq_true rfl) dX12_say_37 ?_
    intro r5 s6
    exact g_iret dX12_say_40
  · refine g_aload_n dX12_say_18 rfl rfl ?_
    refine g_iload_n dX12_say_19 rfl rfl ?_
    refine g_i2l dX12_say_20 ?_
    refine g_callv3 (st := []) 10 mw_X12_isWordAt lk_RX12_334 rfl km_0 (ok_M_isWordAt a2 s4) (Nat.le_of_ble_eq_true rfl) rfl rfl (Nat.le_of_ble_eq_true rfl) dX12_say_21 ?_
    intro r7 s8
    refine g_ifeq (tgt := 35) dX12_say_24 (by decide) ?_ ?_
    · refine g_aload_n dX12_say_35 rfl rfl ?_
      refine g_iconst dX12_say_36 (by decide) ?_
      refine g_callv0 (st := []) 10 mw_X12_refuse lk_RX12_325 rfl km_0 (ok_M_refuse 2 s8) (Nat.le_of_ble_eq_true rfl) rfl rfl (Nat.le_of_ble_eq_true rfl) dX12_say_37 ?_
      intro r9 s10
      exact g_iret dX12_say_40
    · refine g_aload_n dX12_say_27 rfl rfl ?_
      refine g_iload_n dX12_say_28 rfl rfl ?_
      refine g_callv3 (st := []) 10 mw_X12_isPersonAt lk_RX12_345 rfl km_0 (ok_M_isPersonAt a3 s8) (Nat.le_of_ble_eq_true rfl) rfl rfl (Nat.le_of_ble_eq_true rfl) dX12_say_29 ?_
      intro r11 s12
      refine g_ifne (tgt := 41) dX12_say_32 (by decide) ?_ ?_
      · refine g_aload_n dX12_say_35 rfl rfl ?_
        refine g_iconst dX12_say_36 (by decide) ?_
        refine g_callv0 (st := []) 10 mw_X12_refuse lk_RX12_325 rfl km_0 (ok_M_refuse 2 s12) (Nat.le_of_ble_eq_true rfl) rfl rfl (Nat.le_of_ble_eq_true rfl) dX12_say_37 ?_
        intro r13 s14
        exact g_iret dX12_say_40
      · refine g_aload_n dX12_say_41 rfl rfl ?_
        refine g_iload_n dX12_say_42 rfl rfl ?_
        refine g_iload_n dX12_say_43 rfl rfl ?_
        refine g_iload_n dX12_say_44 rfl rfl ?_
        refine g_callv3 (st := []) 10 mw_X12_says lk_RX12_369 rfl km_0 (ok_M_says a1 a2 a3 s12) (Nat.le_of_ble_eq_true rfl) rfl rfl (Nat.le_of_ble_eq_true rfl) dX12_say_45 ?_
        intro r15 s16
        refine g_ifeq (tgt := 59) dX12_say_48 (by decide) ?_ ?_
        · refine g_aload_n dX12_say_59 rfl rfl ?_
          refine g_bipush dX12_say_60 (by decide) ?_
          refine g_callv0 (st := []) 10 mw_X12_refuse lk_RX12_325 rfl km_0 (ok_M_refuse 9 s16) (Nat.le_of_ble_eq_true rfl) rfl rfl (Nat.le_of_ble_eq_true rfl) dX12_say_62 ?_
          intro r17 s18
          exact g_iret dX12_say_65
        · refine g_aload_n dX12_say_51 rfl rfl ?_
          refine g_iload_n dX12_say_52 rfl rfl ?_
          refine g_callv0 (st := []) 10 mw_X12_hairOf lk_RX12_320 rfl km_0 (ok_M_hairOf a1 s16) (Nat.le_of_ble_eq_true rfl) rfl rfl (Nat.le_of_ble_eq_true rfl) dX12_say_53 ?_
          intro r19 s20
          refine g_goto (tgt := 65) dX12_say_56 (by decide) ?_
          exact g_iret dX12_say_65
theorem dX12_status_0 : decode cX12_status 0 = .ok (.aload_n 0, 1) := by decide +kernel
theorem dX12_status_1 : decode cX12_status 1 = .ok (.iconst 0, 1) := by decide +kernel
theorem dX12_status_2 : decode cX12_status 2 = .ok (.putfield 67, 3) := by decide +kernel
theorem dX12_status_5 : decode cX12_status 5 = .ok (.aload_n 0, 1) := by decide +kernel
theorem dX12_status_6 : decode cX12_status 6 = .ok (.getfield 70, 3) := by decide +kernel
theorem dX12_status_9 : decode cX12_status 9 = .ok (.ireturn, 1) := by decide +kernel
theorem mw_X12_status : MW yX12_status cX12_status 1 0 0 false := ⟨tm 1705 (by decide +kernel) rfl, tm 249 (by decide +kernel) rfl, by decide, by decide, (by rw [if_neg (by decide)]; exact ⟨tm 1703 (by decide +kernel) rfl, tm 1704 (by decide +kernel) rfl⟩)⟩
def M_status  (σ : Sg) : Rs := (nm (up_s σ 0 1 0) (fun s1 => (some ((s1 0 0), s1))))
theorem ok_M_status (σ : Sg) : MC l Km Pm yX12_status cX12_status 1 0 1 [.inr (.inr 0)] σ (M_status σ) := by
  refine mc_of (by decide) (Nat.le_of_ble_eq_true rfl) ?_
  change G l Km Pm RX12 cX12_status 1 0 1 0 [some (.inr (.inr 0))] [] σ (M_status  σ)
  unfold M_status
  refine g_aload_n dX12_status_0 rfl rfl ?_
  refine g_iconst dX12_status_1 (by decide) ?_
  refine g_puti fl_RX12_67 km_0 (by decide) dX12_status_2 ?_
  intro s1
  refine g_aload_n dX12_status_5 rfl rfl ?_
  refine g_geti fl_RX12_70 km_0 (by decide) dX12_status_6 ?_
  exact g_iret dX12_status_9
theorem dX12_strand_0 : decode cX12_strand 0 = .ok (.aload_n 0, 1) := by decide +kernel
theorem dX12_strand_1 : decode cX12_strand 1 = .ok (.iconst 0, 1) := by decide +kernel
theorem dX12_strand_2 : decode cX12_strand 2 = .ok (.putfield 67, 3) := by decide +kernel
theorem dX12_strand_5 : decode cX12_strand 5 = .ok (.aload_n 0, 1) := by decide +kernel
theorem dX12_strand_6 : decode cX12_strand 6 = .ok (.iconst 0, 1) := by decide +kernel
theorem dX12_strand_7 : decode cX12_strand 7 = .ok (.putfield 70, 3) := by decide +kernel
theorem dX12_strand_10 : decode cX12_strand 10 = .ok (.aload_n 0, 1) := by decide +kernel
theorem dX12_strand_11 : decode cX12_strand 11 = .ok (.iload_n 1, 1) := by decide +kernel
theorem dX12_strand_12 : decode cX12_strand 12 = .ok (.invokevirtual 345, 3) := by decide +kernel
theorem dX12_strand_15 : decode cX12_strand 15 = .ok (.ifCond .eq 12, 3) := by decide +kernel
theorem dX12_strand_18 : decode cX12_strand 18 = .ok (.aload_n 0, 1) := by decide +kernel
theorem dX12_strand_19 : decode cX12_strand 19 = .ok (.iload_n 2, 1) := by decide +kernel
theorem dX12_strand_20 : decode cX12_strand 20 = .ok (.i2l, 1) := by decide +kernel
theorem dX12_strand_21 : decode cX12_strand 21 = .ok (.invokevirtual 334, 3) := by decide +kernel
theorem dX12_strand_24 : decode cX12_strand 24 = .ok (.ifCond .ne 9, 3) := by decide +kernel
theorem dX12_strand_27 : decode cX12_strand 27 = .ok (.aload_n 0, 1) := by decide +kernel
theorem dX12_strand_28 : decode cX12_strand 28 = .ok (.iconst 2, 1) := by decide +kernel
theorem dX12_strand_29 : decode cX12_strand 29 = .ok (.invokevirtual 325, 3) := by decide +kernel
theorem dX12_strand_32 : decode cX12_strand 32 = .ok (.ireturn, 1) := by decide +kernel
theorem dX12_strand_33 : decode cX12_strand 33 = .ok (.iload_n 3, 1) := by decide +kernel
theorem dX12_strand_34 : decode cX12_strand 34 = .ok (.i2l, 1) := by decide +kernel
theorem dX12_strand_35 : decode cX12_strand 35 = .ok (.lconst 0, 1) := by decide +kernel
theorem dX12_strand_36 : decode cX12_strand 36 = .ok (.lconst 1, 1) := by decide +kernel
theorem dX12_strand_37 : decode cX12_strand 37 = .ok (.invokestatic 102, 3) := by decide +kernel
theorem dX12_strand_40 : decode cX12_strand 40 = .ok (.ifCond .ne 9, 3) := by decide +kernel
theorem dX12_strand_43 : decode cX12_strand 43 = .ok (.aload_n 0, 1) := by decide +kernel
theorem dX12_strand_44 : decode cX12_strand 44 = .ok (.iconst 5, 1) := by decide +kernel
theorem dX12_strand_45 : decode cX12_strand 45 = .ok (.invokevirtual 325, 3) := by decide +kernel
theorem dX12_strand_48 : decode cX12_strand 48 = .ok (.ireturn, 1) := by decide +kernel
theorem dX12_strand_49 : decode cX12_strand 49 = .ok (.aload_n 0, 1) := by decide +kernel
theorem dX12_strand_50 : decode cX12_strand 50 = .ok (.iload_n 1, 1) := by decide +kernel
theorem dX12_strand_51 : decode cX12_strand 51 = .ok (.iload_n 2, 1) := by decide +kernel
theorem dX12_strand_52 : decode cX12_strand 52 = .ok (.invokevirtual 317, 3) := by decide +kernel
theorem dX12_strand_55 : decode cX12_strand 55 = .ok (.ifCond .eq 29, 3) := by decide +kernel
theorem dX12_strand_58 : decode cX12_strand 58 = .ok (.aload_n 0, 1) := by decide +kernel
theorem dX12_strand_59 : decode cX12_strand 59 = .ok (.getfield 35, 3) := by decide +kernel
theorem dX12_strand_62 : decode cX12_strand 62 = .ok (.iload_n 3, 1) := by decide +kernel
theorem dX12_strand_63 : decode cX12_strand 63 = .ok (.ifCond .ne 8, 3) := by decide +kernel
theorem dX12_strand_66 : decode cX12_strand 66 = .ok (.bipush 49, 2) := by decide +kernel
theorem dX12_strand_68 : decode cX12_strand 68 = .ok (.goto 5, 3) := by decide +kernel
theorem dX12_strand_71 : decode cX12_strand 71 = .ok (.bipush 97, 2) := by decide +kernel
theorem dX12_strand_73 : decode cX12_strand 73 = .ok (.bipush 8, 2) := by decide +kernel
theorem dX12_strand_75 : decode cX12_strand 75 = .ok (.iload_n 1, 1) := by decide +kernel
theorem dX12_strand_76 : decode cX12_strand 76 = .ok (.imul, 1) := by decide +kernel
theorem dX12_strand_77 : decode cX12_strand 77 = .ok (.iadd, 1) := by decide +kernel
theorem dX12_strand_78 : decode cX12_strand 78 = .ok (.iload_n 2, 1) := by decide +kernel
theorem dX12_strand_79 : decode cX12_strand 79 = .ok (.iadd, 1) := by decide +kernel
theorem dX12_strand_80 : decode cX12_strand 80 = .ok (.iaload, 1) := by decide +kernel
theorem dX12_strand_81 : decode cX12_strand 81 = .ok (.goto 9, 3) := by decide +kernel
theorem dX12_strand_84 : decode cX12_strand 84 = .ok (.aload_n 0, 1) := by decide +kernel
theorem dX12_strand_85 : decode cX12_strand 85 = .ok (.bipush 8, 2) := by decide +kernel
theorem dX12_strand_87 : decode cX12_strand 87 = .ok (.invokevirtual 325, 3) := by decide +kernel
theorem dX12_strand_90 : decode cX12_strand 90 = .ok (.ireturn, 1) := by decide +kernel
theorem mw_X12_strand : MW yX12_strand cX12_strand 4 0 3 false := ⟨tm 2029 (by decide +kernel) rfl, tm 249 (by decide +kernel) rfl, by decide, by decide, (by rw [if_neg (by decide)]; exact ⟨tm 2027 (by decide +kernel) rfl, tm 2028 (by decide +kernel) rfl⟩)⟩
def M_strand (a1 : Int) (a2 : Int) (a3 : Int) (σ : Sg) : Rs := (nm (up_s σ 0 1 0) (fun s1 => (nm (up_s s1 0 0 0) (fun s2 => (bd (M_isPersonAt a1 s2) (fun r3 s4 => (if r3 = 0 then (bd (M_refuse 2 s4) (fun r5 s6 => (some (r5, s6)))) else (bd (M_isWordAt a2 s4) (fun r7 s8 => (if r7 = 0 then (bd (M_refuse 2 s8) (fun r9 s10 => (some (r9, s10)))) else (bd (M_isIn a3 0 1 s8) (fun r11 s12 => (if r11 = 0 then (bd (M_refuse 5 s12) (fun r13 s14 => (some (r13, s14)))) else (bd (M_keeps a1 a2 s12) (fun r15 s16 => (if r15 = 0 then (bd (M_refuse 8 s16) (fun r17 s18 => (some (r17, s18)))) else (if a3 = 0 then (rd 2235 (w32 ((w32 (49 + (w32 (8 * a1)))) + a2)) (s16 5 (Int.toNat (w32 ((w32 (49 + (w32 (8 * a1)))) + a2)))) (fun x19 => (some (x19, s16)))) else (rd 2235 (w32 ((w32 (97 + (w32 (8 * a1)))) + a2)) (s16 5 (Int.toNat (w32 ((w32 (97 + (w32 (8 * a1)))) + a2)))) (fun x20 => (some (x20, s16)))))))))))))))))))))
theorem ok_M_strand (a1 : Int) (a2 : Int) (a3 : Int) (σ : Sg) : MC l Km Pm yX12_strand cX12_strand 4 0 3 [.inr (.inr 0), .inl a1, .inl a2, .inl a3] σ (M_strand a1 a2 a3 σ) := by
  refine mc_of (by decide) (Nat.le_of_ble_eq_true rfl) ?_
  change G l Km Pm RX12 cX12_strand 4 0 3 0 [some (.inr (.inr 0)), some (.inl a1), some (.inl a2), some (.inl a3)] [] σ (M_strand a1 a2 a3 σ)
  unfold M_strand
  refine g_aload_n dX12_strand_0 rfl rfl ?_
  refine g_iconst dX12_strand_1 (by decide) ?_
  refine g_puti fl_RX12_67 km_0 (by decide) dX12_strand_2 ?_
  intro s1
  refine g_aload_n dX12_strand_5 rfl rfl ?_
  refine g_iconst dX12_strand_6 (by decide) ?_
  refine g_puti fl_RX12_70 km_0 (by decide) dX12_strand_7 ?_
  intro s2
  refine g_aload_n dX12_strand_10 rfl rfl ?_
  refine g_iload_n dX12_strand_11 rfl rfl ?_
  refine g_callv3 (st := []) 10 mw_X12_isPersonAt lk_RX12_345 rfl km_0 (ok_M_isPersonAt a1 s2) (Nat.le_of_ble_eq_true rfl) rfl rfl (Nat.le_of_ble_eq_true rfl) dX12_strand_12 ?_
  intro r3 s4
  refine g_ifeq (tgt := 27) dX12_strand_15 (by decide) ?_ ?_
  · refine g_aload_n dX12_strand_27 rfl rfl ?_
    refine g_iconst dX12_strand_28 (by decide) ?_
    refine g_callv0 (st := []) 10 mw_X12_refuse lk_RX12_325 rfl km_0 (ok_M_refuse 2 s4) (Nat.le_of_ble_eq_true rfl) rfl rfl (Nat.le_of_ble_eq_true rfl) dX12_strand_29 ?_
    intro r5 s6
    exact g_iret dX12_strand_32
  · refine g_aload_n dX12_strand_18 rfl rfl ?_
    refine g_iload_n dX12_strand_19 rfl rfl ?_
    refine g_i2l dX12_strand_20 ?_
    refine g_callv3 (st := []) 10 mw_X12_isWordAt lk_RX12_334 rfl km_0 (ok_M_isWordAt a2 s4) (Nat.le_of_ble_eq_true rfl) rfl rfl (Nat.le_of_ble_eq_true rfl) dX12_strand_21 ?_
    intro r7 s8
    refine g_ifne (tgt := 33) dX12_strand_24 (by decide) ?_ ?_
    · refine g_aload_n dX12_strand_27 rfl rfl ?_
      refine g_iconst dX12_strand_28 (by decide) ?_
      refine g_callv0 (st := []) 10 mw_X12_refuse lk_RX12_325 rfl km_0 (ok_M_refuse 2 s8) (Nat.le_of_ble_eq_true rfl) rfl rfl (Nat.le_of_ble_eq_true rfl) dX12_strand_29 ?_
      intro r9 s10
      exact g_iret dX12_strand_32
    · refine g_iload_n dX12_strand_33 rfl rfl ?_
      refine g_i2l dX12_strand_34 ?_
      refine g_lconst (v := 0) dX12_strand_35 (by decide) ?_
      refine g_lconst (v := 1) dX12_strand_36 (by decide) ?_
      refine g_calls3 (st := []) mw_X12_isIn lk_RX12_102 (ok_M_isIn a3 0 1 s8) (Nat.le_of_ble_eq_true rfl) rfl rfl (Nat.le_of_ble_eq_true rfl) dX12_strand_37 ?_
      intro r11 s12
      refine g_ifne (tgt := 49) dX12_strand_40 (by decide) ?_ ?_
      · refine g_aload_n dX12_strand_43 rfl rfl ?_
        refine g_iconst dX12_strand_44 (by decide) ?_
        refine g_callv0 (st := []) 10 mw_X12_refuse lk_RX12_325 rfl km_0 (ok_M_refuse 5 s12) (Nat.le_of_ble_eq_true rfl) rfl rfl (Nat.le_of_ble_eq_true rfl) dX12_strand_45 ?_
        intro r13 s14
        exact g_iret dX12_strand_48
      · refine g_aload_n dX12_strand_49 rfl rfl ?_
        refine g_iload_n dX12_strand_50 rfl rfl ?_
        refine g_iload_n dX12_strand_51 rfl rfl ?_
        refine g_callv3 (st := []) 10 mw_X12_keeps lk_RX12_317 rfl km_0 (ok_M_keeps a1 a2 s12) (Nat.le_of_ble_eq_true rfl) rfl rfl (Nat.le_of_ble_eq_true rfl) dX12_strand_52 ?_
        intro r15 s16
        refine g_ifeq (tgt := 84) dX12_strand_55 (by decide) ?_ ?_
        · refine g_aload_n dX12_strand_84 rfl rfl ?_
          refine g_bipush dX12_strand_85 (by decide) ?_
          refine g_callv0 (st := []) 10 mw_X12_refuse lk_RX12_325 rfl km_0 (ok_M_refuse 8 s16) (Nat.le_of_ble_eq_true rfl) rfl rfl (Nat.le_of_ble_eq_true rfl) dX12_strand_87 ?_
          intro r17 s18
          exact g_iret dX12_strand_90
        · refine g_aload_n dX12_strand_58 rfl rfl ?_
          refine g_getr' (q := 5) fl_RX12_35 km_0 (by decide) rfl dX12_strand_59 ?_
          refine g_iload_n dX12_strand_62 rfl rfl ?_
          refine g_ifne (tgt := 71) dX12_strand_63 (by decide) ?_ ?_
          · refine g_bipush dX12_strand_66 (by decide) ?_
            refine g_goto (tgt := 73) dX12_strand_68 (by decide) ?_
            refine g_bipush dX12_strand_73 (by decide) ?_
            refine g_iload_n dX12_strand_75 rfl rfl ?_
            refine g_imul dX12_strand_76 ?_
            refine g_iadd dX12_strand_77 ?_
            refine g_iload_n dX12_strand_78 rfl rfl ?_
            refine g_iadd dX12_strand_79 ?_
            refine g_iald km_5 dX12_strand_80 ?_
            intro x19
            refine g_goto (tgt := 90) dX12_strand_81 (by decide) ?_
            exact g_iret dX12_strand_90
          · refine g_bipush dX12_strand_71 (by decide) ?_
            refine g_bipush dX12_strand_73 (by decide) ?_
            refine g_iload_n dX12_strand_75 rfl rfl ?_
            refine g_imul dX12_strand_76 ?_
            refine g_iadd dX12_strand_77 ?_
            refine g_iload_n dX12_strand_78 rfl rfl ?_
            refine g_iadd dX12_strand_79 ?_
            refine g_iald km_5 dX12_strand_80 ?_
            intro x20
            refine g_goto (tgt := 90) dX12_strand_81 (by decide) ?_
            exact g_iret dX12_strand_90
theorem dX12_sure_0 : decode cX12_sure 0 = .ok (.aload_n 0, 1) := by decide +kernel
theorem dX12_sure_1 : decode cX12_sure 1 = .ok (.iconst 0, 1) := by decide +kernel
theorem dX12_sure_2 : decode cX12_sure 2 = .ok (.putfield 67, 3) := by decide +kernel
theorem dX12_sure_5 : decode cX12_sure 5 = .ok (.aload_n 0, 1) := by decide +kernel
theorem dX12_sure_6 : decode cX12_sure 6 = .ok (.aload_n 0, 1) := by decide +kernel
theorem dX12_sure_7 : decode cX12_sure 7 = .ok (.iload_n 1, 1) := by decide +kernel
theorem dX12_sure_8 : decode cX12_sure 8 = .ok (.iload_n 2, 1) := by decide +kernel
theorem dX12_sure_9 : decode cX12_sure 9 = .ok (.invokevirtual 455, 3) := by decide +kernel
theorem dX12_sure_12 : decode cX12_sure 12 = .ok (.putfield 70, 3) := by decide +kernel
theorem dX12_sure_15 : decode cX12_sure 15 = .ok (.aload_n 0, 1) := by decide +kernel
theorem dX12_sure_16 : decode cX12_sure 16 = .ok (.getfield 70, 3) := by decide +kernel
theorem dX12_sure_19 : decode cX12_sure 19 = .ok (.ifCond .le 5, 3) := by decide +kernel
theorem dX12_sure_22 : decode cX12_sure 22 = .ok (.iconst (-1), 1) := by decide +kernel
theorem dX12_sure_23 : decode cX12_sure 23 = .ok (.ireturn, 1) := by decide +kernel
theorem dX12_sure_24 : decode cX12_sure 24 = .ok (.aload_n 0, 1) := by decide +kernel
theorem dX12_sure_25 : decode cX12_sure 25 = .ok (.iload_n 1, 1) := by decide +kernel
theorem dX12_sure_26 : decode cX12_sure 26 = .ok (.iload_n 2, 1) := by decide +kernel
theorem dX12_sure_27 : decode cX12_sure 27 = .ok (.invokevirtual 458, 3) := by decide +kernel
theorem dX12_sure_30 : decode cX12_sure 30 = .ok (.aload_n 0, 1) := by decide +kernel
theorem dX12_sure_31 : decode cX12_sure 31 = .ok (.getfield 446, 3) := by decide +kernel
theorem dX12_sure_34 : decode cX12_sure 34 = .ok (.ifCond .ne 12, 3) := by decide +kernel
theorem dX12_sure_37 : decode cX12_sure 37 = .ok (.aload_n 0, 1) := by decide +kernel
theorem dX12_sure_38 : decode cX12_sure 38 = .ok (.bipush 8, 2) := by decide +kernel
theorem dX12_sure_40 : decode cX12_sure 40 = .ok (.invokevirtual 325, 3) := by decide +kernel
theorem dX12_sure_43 : decode cX12_sure 43 = .ok (.goto 7, 3) := by decide +kernel
theorem dX12_sure_46 : decode cX12_sure 46 = .ok (.aload_n 0, 1) := by decide +kernel
theorem dX12_sure_47 : decode cX12_sure 47 = .ok (.getfield 449, 3) := by decide +kernel
theorem dX12_sure_50 : decode cX12_sure 50 = .ok (.ireturn, 1) := by decide +kernel
theorem mw_X12_sure : MW yX12_sure cX12_sure 3 0 2 false := ⟨tm 2238 (by decide +kernel) rfl, tm 249 (by decide +kernel) rfl, by decide, by decide, (by rw [if_neg (by decide)]; exact ⟨tm 2236 (by decide +kernel) rfl, tm 2237 (by decide +kernel) rfl⟩)⟩
def M_sure (a1 : Int) (a2 : Int) (σ : Sg) : Rs := (nm (up_s σ 0 1 0) (fun s1 => (bd (M_whyNotUnsaid a1 a2 s1) (fun r2 s3 => (nm (up_s s3 0 0 r2) (fun s4 => (if 0 < (s4 0 0) then (some ((-1), s4)) else (bd (M_laysUnsaid a1 a2 s4) (fun r5 s6 => (if (s6 0 27) = 0 then (bd (M_refuse 8 s6) (fun r7 s8 => (some (r7, s8)))) else (some ((s6 0 28), s6))))))))))))
theorem ok_M_sure (a1 : Int) (a2 : Int) (σ : Sg) : MC l Km Pm yX12_sure cX12_sure 3 0 5 [.inr (.inr 0), .inl a1, .inl a2] σ (M_sure a1 a2 σ) := by
  refine mc_of (by decide) (Nat.le_of_ble_eq_true rfl) ?_
  change G l Km Pm RX12 cX12_sure 3 0 5 0 [some (.inr (.inr 0)), some (.inl a1), some (.inl a2)] [] σ (M_sure a1 a2 σ)
  unfold M_sure
  refine g_aload_n dX12_sure_0 rfl rfl ?_
  refine g_iconst dX12_sure_1 (by decide) ?_
  refine g_puti fl_RX12_67 km_0 (by decide) dX12_sure_2 ?_
  intro s1
  refine g_aload_n dX12_sure_5 rfl rfl ?_
  refine g_aload_n dX12_sure_6 rfl rfl ?_
  refine g_iload_n dX12_sure_7 rfl rfl ?_
  refine g_iload_n dX12_sure_8 rfl rfl ?_
  refine g_callv0 (st := [.inr (.inr 0)]) 10 mw_X12_whyNotUnsaid lk_RX12_455 rfl km_0 (ok_M_whyNotUnsaid a1 a2 s1) (Nat.le_of_ble_eq_true rfl) rfl rfl (Nat.le_of_ble_eq_true rfl) dX12_sure_9 ?_
  intro r2 s3
  refine g_puti fl_RX12_70 km_0 (by decide) dX12_sure_12 ?_
  intro s4
  refine g_aload_n dX12_sure_15 rfl rfl ?_
  refine g_geti fl_RX12_70 km_0 (by decide) dX12_sure_16 ?_
  refine g_ifle (tgt := 24) dX12_sure_19 (by decide) ?_ ?_
  · refine g_iconst dX12_sure_22 (by decide) ?_
    exact g_iret dX12_sure_23
  · refine g_aload_n dX12_sure_24 rfl rfl ?_
    refine g_iload_n dX12_sure_25 rfl rfl ?_
    refine g_iload_n dX12_sure_26 rfl rfl ?_
    refine g_callv2 (st := []) 10 mw_X12_laysUnsaid lk_RX12_458 rfl km_0 (ok_M_laysUnsaid a1 a2 s4) (Nat.le_of_ble_eq_true rfl) rfl rfl (Nat.le_of_ble_eq_true rfl) dX12_sure_27 ?_
    intro r5 s6
    refine g_aload_n dX12_sure_30 rfl rfl ?_
    refine g_geti fl_RX12_446 km_0 (by decide) dX12_sure_31 ?_
    refine g_ifne (tgt := 46) dX12_sure_34 (by decide) ?_ ?_
    · refine g_aload_n dX12_sure_37 rfl rfl ?_
      refine g_bipush dX12_sure_38 (by decide) ?_
      refine g_callv0 (st := []) 10 mw_X12_refuse lk_RX12_325 rfl km_0 (ok_M_refuse 8 s6) (Nat.le_of_ble_eq_true rfl) rfl rfl (Nat.le_of_ble_eq_true rfl) dX12_sure_40 ?_
      intro r7 s8
      refine g_goto (tgt := 50) dX12_sure_43 (by decide) ?_
      exact g_iret dX12_sure_50
    · refine g_aload_n dX12_sure_46 rfl rfl ?_
      refine g_geti fl_RX12_449 km_0 (by decide) dX12_sure_47 ?_
      exact g_iret dX12_sure_50
theorem dX12_tellers_0 : decode cX12_tellers 0 = .ok (.aload_n 0, 1) := by decide +kernel
theorem dX12_tellers_1 : decode cX12_tellers 1 = .ok (.iconst 0, 1) := by decide +kernel
theorem dX12_tellers_2 : decode cX12_tellers 2 = .ok (.putfield 67, 3) := by decide +kernel
theorem dX12_tellers_5 : decode cX12_tellers 5 = .ok (.aload_n 0, 1) := by decide +kernel
theorem dX12_tellers_6 : decode cX12_tellers 6 = .ok (.iconst 0, 1) := by decide +kernel
theorem dX12_tellers_7 : decode cX12_tellers 7 = .ok (.putfield 70, 3) := by decide +kernel
theorem dX12_tellers_10 : decode cX12_tellers 10 = .ok (.aload_n 0, 1) := by decide +kernel
theorem dX12_tellers_11 : decode cX12_tellers 11 = .ok (.iload_n 1, 1) := by decide +kernel
theorem dX12_tellers_12 : decode cX12_tellers 12 = .ok (.i2l, 1) := by decide +kernel
theorem dX12_tellers_13 : decode cX12_tellers 13 = .ok (.invokevirtual 334, 3) := by decide +kernel
theorem dX12_tellers_16 : decode cX12_tellers 16 = .ok (.ifCond .eq 11, 3) := by decide +kernel
theorem dX12_tellers_19 : decode cX12_tellers 19 = .ok (.aload_n 0, 1) := by decide +kernel
theorem dX12_tellers_20 : decode cX12_tellers 20 = .ok (.iload_n 2, 1) := by decide +kernel
theorem dX12_tellers_21 : decode cX12_tellers 21 = .ok (.invokevirtual 345, 3) := by decide +kernel
theorem dX12_tellers_24 : decode cX12_tellers 24 = .ok (.ifCond .ne 9, 3) := by decide +kernel
theorem dX12_tellers_27 : decode cX12_tellers 27 = .ok (.aload_n 0, 1) := by decide +kernel
theorem dX12_tellers_28 : decode cX12_tellers 28 = .ok (.iconst 2, 1) := by decide +kernel
theorem dX12_tellers_29 : decode cX12_tellers 29 = .ok (.invokevirtual 325, 3) := by decide +kernel
theorem dX12_tellers_32 : decode cX12_tellers 32 = .ok (.ireturn, 1) := by decide +kernel
theorem dX12_tellers_33 : decode cX12_tellers 33 = .ok (.iconst 0, 1) := by decide +kernel
theorem dX12_tellers_34 : decode cX12_tellers 34 = .ok (.istore_n 3, 1) := by decide +kernel
theorem dX12_tellers_35 : decode cX12_tellers 35 = .ok (.iconst 0, 1) := by decide +kernel
theorem dX12_tellers_36 : decode cX12_tellers 36 = .ok (.istore 4, 2) := by decide +kernel
theorem dX12_tellers_38 : decode cX12_tellers 38 = .ok (.iload 4, 2) := by decide +kernel
theorem dX12_tellers_40 : decode cX12_tellers 40 = .ok (.aload_n 0, 1) := by decide +kernel
theorem dX12_tellers_41 : decode cX12_tellers 41 = .ok (.getfield 35, 3) := by decide +kernel
theorem dX12_tellers_44 : decode cX12_tellers 44 = .ok (.iconst 1, 1) := by decide +kernel
theorem dX12_tellers_45 : decode cX12_tellers 45 = .ok (.iaload, 1) := by decide +kernel
theorem dX12_tellers_46 : decode cX12_tellers 46 = .ok (.if_icmp .ge 40, 3) := by decide +kernel
theorem dX12_tellers_49 : decode cX12_tellers 49 = .ok (.iload_n 3, 1) := by decide +kernel
theorem dX12_tellers_50 : decode cX12_tellers 50 = .ok (.aload_n 0, 1) := by decide +kernel
theorem dX12_tellers_51 : decode cX12_tellers 51 = .ok (.iload 4, 2) := by decide +kernel
theorem dX12_tellers_53 : decode cX12_tellers 53 = .ok (.iload_n 1, 1) := by decide +kernel
theorem dX12_tellers_54 : decode cX12_tellers 54 = .ok (.invokevirtual 366, 3) := by decide +kernel
theorem dX12_tellers_57 : decode cX12_tellers 57 = .ok (.ifCond .eq 20, 3) := by decide +kernel
theorem dX12_tellers_60 : decode cX12_tellers 60 = .ok (.aload_n 0, 1) := by decide +kernel
theorem dX12_tellers_61 : decode cX12_tellers 61 = .ok (.iload_n 2, 1) := by decide +kernel
theorem dX12_tellers_62 : decode cX12_tellers 62 = .ok (.iload 4, 2) := by decide +kernel
theorem dX12_tellers_64 : decode cX12_tellers 64 = .ok (.invokevirtual 491, 3) := by decide +kernel
theorem dX12_tellers_67 : decode cX12_tellers 67 = .ok (.ifCond .eq 10, 3) := by decide +kernel
theorem dX12_tellers_70 : decode cX12_tellers 70 = .ok (.iconst 1, 1) := by decide +kernel
theorem dX12_tellers_71 : decode cX12_tellers 71 = .ok (.iload 4, 2) := by decide +kernel
theorem dX12_tellers_73 : decode cX12_tellers 73 = .ok (.ishl, 1) := by decide +kernel
theorem dX12_tellers_74 : decode cX12_tellers 74 = .ok (.goto 4, 3) := by decide +kernel
theorem dX12_tellers_77 : decode cX12_tellers 77 = .ok (.iconst 0, 1) := by decide +kernel
theorem dX12_tellers_78 : decode cX12_tellers 78 = .ok (.ior, 1) := by decide +kernel
theorem dX12_tellers_79 : decode cX12_tellers 79 = .ok (.istore_n 3, 1) := by decide +kernel
theorem dX12_tellers_80 : decode cX12_tellers 80 = .ok (.iinc 4 1, 3) := by decide +kernel
theorem dX12_tellers_83 : decode cX12_tellers 83 = .ok (.goto (-45), 3) := by decide +kernel
theorem dX12_tellers_86 : decode cX12_tellers 86 = .ok (.iload_n 3, 1) := by decide +kernel
theorem dX12_tellers_87 : decode cX12_tellers 87 = .ok (.ireturn, 1) := by decide +kernel
theorem mw_X12_tellers : MW yX12_tellers cX12_tellers 5 0 2 false := ⟨tm 2307 (by decide +kernel) rfl, tm 249 (by decide +kernel) rfl, by decide, by decide, (by rw [if_neg (by decide)]; exact ⟨tm 2305 (by decide +kernel) rfl, tm 2306 (by decide +kernel) rfl⟩)⟩
def M_tellers_L38 (a1 : Int) (a2 : Int) : Nat → Int → Int → Sg → Rs
  | 0, _, _, _ => none
  | n + 1, v3, v4, σ => (rd 2235 1 (σ 5 (Int.toNat 1)) (fun x11 => (if v4 < x11 then (bd (M_knows v4 a1 σ) (fun r12 s13 => (if r12 = 0 then (nm (or32 v3 0) (fun x14 => (nm (w32 (v4 + 1)) (fun x15 => (M_tellers_L38 a1 a2 n x14 x15 s13))))) else (bd (M_areDining a2 v4 s13) (fun r16 s17 => (if r16 = 0 then (nm (or32 v3 0) (fun x18 => (nm (w32 (v4 + 1)) (fun x19 => (M_tellers_L38 a1 a2 n x18 x19 s17))))) else (nm (or32 v3 (sl32 1 v4)) (fun x20 => (nm (w32 (v4 + 1)) (fun x21 => (M_tellers_L38 a1 a2 n x20 x21 s17))))))))))) else (some (v3, σ)))))
theorem ok_M_tellers_L38 (a1 : Int) (a2 : Int) : ∀ (n : Nat) (v3 v4 : Int) (σ : Sg), G l Km Pm RX12 cX12_tellers 5 0 3 38 [some (.inr (.inr 0)), some (.inl a1), some (.inl a2), some (.inl v3), some (.inl v4)] [] σ (M_tellers_L38 a1 a2 n v3 v4 σ) := by
  intro n
  induction n with
  | zero => intros; exact G.none_
  | succ n ih =>
    intro v3 v4 σ
    rw [M_tellers_L38]
    refine g_iload dX12_tellers_38 rfl ?_
    refine g_aload_n dX12_tellers_40 rfl rfl ?_
    refine g_getr' (q := 5) fl_RX12_35 km_0 (by decide) rfl dX12_tellers_41 ?_
    refine g_iconst dX12_tellers_44 (by decide) ?_
    refine g_iald km_5 dX12_tellers_45 ?_
    intro x11
    refine g_icmpge (tgt := 86) dX12_tellers_46 (by decide) ?_ ?_
    · refine g_iload_n dX12_tellers_49 rfl rfl ?_
      refine g_aload_n dX12_tellers_50 rfl rfl ?_
      refine g_iload dX12_tellers_51 rfl ?_
      refine g_iload_n dX12_tellers_53 rfl rfl ?_
      refine g_callv3 (st := [.inl v3]) 10 mw_X12_knows lk_RX12_366 rfl km_0 (ok_M_knows v4 a1 σ) (Nat.le_of_ble_eq_true rfl) rfl rfl (Nat.le_of_ble_eq_true rfl) dX12_tellers_54 ?_
      intro r12 s13
      refine g_ifeq (tgt := 77) dX12_tellers_57 (by decide) ?_ ?_
      · refine g_iconst dX12_tellers_77 (by decide) ?_
        refine g_ior dX12_tellers_78 ?_
        refine n_istore_n (fun x14 => [some (.inr (.inr 0)), some (.inl a1), some (.inl a2), some (.inl x14), some (.inl v4)]) dX12_tellers_79 rfl (Nat.le_of_ble_eq_true rfl) (fun _ => rfl) ?_
        intro x14
        refine n_iinc (fun x15 => [some (.inr (.inr 0)), some (.inl a1), some (.inl a2), some (.inl x14), some (.inl x15)]) dX12_tellers_80 rfl (Nat.le_of_ble_eq_true rfl) (fun _ => rfl) ?_
        intro x15
        refine g_goto (tgt := 38) dX12_tellers_83 (by decide) ?_
        exact (ih x14 x15 s13)
      · refine g_aload_n dX12_tellers_60 rfl rfl ?_
        refine g_iload_n dX12_tellers_61 rfl rfl ?_
        refine g_iload dX12_tellers_62 rfl ?_
        refine g_callv3 (st := [.inl v3]) 10 mw_X12_areDining lk_RX12_491 rfl km_0 (ok_M_areDining a2 v4 s13) (Nat.le_of_ble_eq_true rfl) rfl rfl (Nat.le_of_ble_eq_true rfl) dX12_tellers_64 ?_
        intro r16 s17
        refine g_ifeq (tgt := 77) dX12_tellers_67 (by decide) ?_ ?_
        · refine g_iconst dX12_tellers_77 (by decide) ?_
          refine g_ior dX12_tellers_78 ?_
          refine n_istore_n (fun x18 => [some (.inr (.inr 0)), some (.inl a1), some (.inl a2), some (.inl x18), some (.inl v4)]) dX12_tellers_79 rfl (Nat.le_of_ble_eq_true rfl) (fun _ => rfl) ?_
          intro x18
          refine n_iinc (fun x19 => [some (.inr (.inr 0)), some (.inl a1), some (.inl a2), some (.inl x18), some (.inl x19)]) dX12_tellers_80 rfl (Nat.le_of_ble_eq_true rfl) (fun _ => rfl) ?_
          intro x19
          refine g_goto (tgt := 38) dX12_tellers_83 (by decide) ?_
          exact (ih x18 x19 s17)
        · refine g_iconst dX12_tellers_70 (by decide) ?_
          refine g_iload dX12_tellers_71 rfl ?_
          refine g_ishl dX12_tellers_73 ?_
          refine g_goto (tgt := 78) dX12_tellers_74 (by decide) ?_
          refine g_ior dX12_tellers_78 ?_
          refine n_istore_n (fun x20 => [some (.inr (.inr 0)), some (.inl a1), some (.inl a2), some (.inl x20), some (.inl v4)]) dX12_tellers_79 rfl (Nat.le_of_ble_eq_true rfl) (fun _ => rfl) ?_
          intro x20
          refine n_iinc (fun x21 => [some (.inr (.inr 0)), some (.inl a1), some (.inl a2), some (.inl x20), some (.inl x21)]) dX12_tellers_80 rfl (Nat.le_of_ble_eq_true rfl) (fun _ => rfl) ?_
          intro x21
          refine g_goto (tgt := 38) dX12_tellers_83 (by decide) ?_
          exact (ih x20 x21 s17)
    · refine g_iload_n dX12_tellers_86 rfl rfl ?_
      exact g_iret dX12_tellers_87
def M_tellers (a1 : Int) (a2 : Int) (σ : Sg) : Rs := (nm (up_s σ 0 1 0) (fun s1 => (nm (up_s s1 0 0 0) (fun s2 => (bd (M_isWordAt a1 s2) (fun r3 s4 => (if r3 = 0 then (bd (M_refuse 2 s4) (fun r5 s6 => (some (r5, s6)))) else (bd (M_isPersonAt a2 s4) (fun r7 s8 => (if r7 = 0 then (bd (M_refuse 2 s8) (fun r9 s10 => (some (r9, s10)))) else (M_tellers_L38 a1 a2 fu 0 0 s8)))))))))))
theorem ok_M_tellers (a1 : Int) (a2 : Int) (σ : Sg) : MC l Km Pm yX12_tellers cX12_tellers 5 0 3 [.inr (.inr 0), .inl a1, .inl a2] σ (M_tellers a1 a2 σ) := by
  refine mc_of (by decide) (Nat.le_of_ble_eq_true rfl) ?_
  change G l Km Pm RX12 cX12_tellers 5 0 3 0 [some (.inr (.inr 0)), some (.inl a1), some (.inl a2), none, none] [] σ (M_tellers a1 a2 σ)
  unfold M_tellers
  refine g_aload_n dX12_tellers_0 rfl rfl ?_
  refine g_iconst dX12_tellers_1 (by decide) ?_
  refine g_puti fl_RX12_67 km_0 (by decide) dX12_tellers_2 ?_
  intro s1
  refine g_aload_n dX12_tellers_5 rfl rfl ?_
  refine g_iconst dX12_tellers_6 (by decide) ?_
  refine g_puti fl_RX12_70 km_0 (by decide) dX12_tellers_7 ?_
  intro s2
  refine g_aload_n dX12_tellers_10 rfl rfl ?_
  refine g_iload_n dX12_tellers_11 rfl rfl ?_
  refine g_i2l dX12_tellers_12 ?_
  refine g_callv3 (st := []) 10 mw_X12_isWordAt lk_RX12_334 rfl km_0 (ok_M_isWordAt a1 s2) (Nat.le_of_ble_eq_true rfl) rfl rfl (Nat.le_of_ble_eq_true rfl) dX12_tellers_13 ?_
  intro r3 s4
  refine g_ifeq (tgt := 27) dX12_tellers_16 (by decide) ?_ ?_
  · refine g_aload_n dX12_tellers_27 rfl rfl ?_
    refine g_iconst dX12_tellers_28 (by decide) ?_
    refine g_callv0 (st := []) 10 mw_X12_refuse lk_RX12_325 rfl km_0 (ok_M_refuse 2 s4) (Nat.le_of_ble_eq_true rfl) rfl rfl (Nat.le_of_ble_eq_true rfl) dX12_tellers_29 ?_
    intro r5 s6
    exact g_iret dX12_tellers_32
  · refine g_aload_n dX12_tellers_19 rfl rfl ?_
    refine g_iload_n dX12_tellers_20 rfl rfl ?_
    refine g_callv3 (st := []) 10 mw_X12_isPersonAt lk_RX12_345 rfl km_0 (ok_M_isPersonAt a2 s4) (Nat.le_of_ble_eq_true rfl) rfl rfl (Nat.le_of_ble_eq_true rfl) dX12_tellers_21 ?_
    intro r7 s8
    refine g_ifne (tgt := 33) dX12_tellers_24 (by decide) ?_ ?_
    · refine g_aload_n dX12_tellers_27 rfl rfl ?_
      refine g_iconst dX12_tellers_28 (by decide) ?_
      refine g_callv0 (st := []) 10 mw_X12_refuse lk_RX12_325 rfl km_0 (ok_M_refuse 2 s8) (Nat.le_of_ble_eq_true rfl) rfl rfl (Nat.le_of_ble_eq_true rfl) dX12_tellers_29 ?_
      intro r9 s10
      exact g_iret dX12_tellers_32
    · refine g_iconst dX12_tellers_33 (by decide) ?_
      refine g_istore_n (lv' := [some (.inr (.inr 0)), some (.inl a1), some (.inl a2), some (.inl 0), none]) dX12_tellers_34 rfl (Nat.le_of_ble_eq_true rfl) rfl ?_
      refine g_iconst dX12_tellers_35 (by decide) ?_
      refine g_istore (lv' := [some (.inr (.inr 0)), some (.inl a1), some (.inl a2), some (.inl 0), some (.inl 0)]) dX12_tellers_36 (Nat.le_of_ble_eq_true rfl) rfl ?_
      refine (ok_M_tellers_L38 a1 a2 fu 0 0 s8)
theorem dX12_top_0 : decode cX12_top 0 = .ok (.aload_n 0, 1) := by decide +kernel
theorem dX12_top_1 : decode cX12_top 1 = .ok (.iconst 0, 1) := by decide +kernel
theorem dX12_top_2 : decode cX12_top 2 = .ok (.putfield 67, 3) := by decide +kernel
theorem dX12_top_5 : decode cX12_top 5 = .ok (.aload_n 0, 1) := by decide +kernel
theorem dX12_top_6 : decode cX12_top 6 = .ok (.getfield 73, 3) := by decide +kernel
theorem dX12_top_9 : decode cX12_top 9 = .ok (.lreturn, 1) := by decide +kernel
theorem mw_X12_top : MW yX12_top cX12_top 1 1 0 false := ⟨tm 1709 (by decide +kernel) rfl, tm 249 (by decide +kernel) rfl, by decide, by decide, (by rw [if_neg (by decide)]; exact ⟨tm 1707 (by decide +kernel) rfl, tm 1708 (by decide +kernel) rfl⟩)⟩
def M_top  (σ : Sg) : Rs := (nm (up_s σ 0 1 0) (fun s1 => (some ((s1 0 2), s1))))
theorem ok_M_top (σ : Sg) : MC l Km Pm yX12_top cX12_top 1 1 1 [.inr (.inr 0)] σ (M_top σ) := by
  refine mc_of (by decide) (Nat.le_of_ble_eq_true rfl) ?_
  change G l Km Pm RX12 cX12_top 1 1 1 0 [some (.inr (.inr 0))] [] σ (M_top  σ)
  unfold M_top
  refine g_aload_n dX12_top_0 rfl rfl ?_
  refine g_iconst dX12_top_1 (by decide) ?_
  refine g_puti fl_RX12_67 km_0 (by decide) dX12_top_2 ?_
  intro s1
  refine g_aload_n dX12_top_5 rfl rfl ?_
  refine g_getl fl_RX12_73 km_0 (by decide) dX12_top_6 ?_
  exact g_lret dX12_top_9
end WK
