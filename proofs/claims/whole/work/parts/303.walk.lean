section WK
variable {l : Launch}
theorem dX12_doOne_0 : decode cX12_doOne 0 = .ok (.aload_n 0, 1) := by decide +kernel
theorem dX12_doOne_1 : decode cX12_doOne 1 = .ok (.getfield 545, 3) := by decide +kernel
theorem dX12_doOne_4 : decode cX12_doOne 4 = .ok (.sipush 300, 3) := by decide +kernel
theorem dX12_doOne_7 : decode cX12_doOne 7 = .ok (.if_icmp .ne 14, 3) := by decide +kernel
theorem dX12_doOne_10 : decode cX12_doOne 10 = .ok (.aload_n 0, 1) := by decide +kernel
theorem dX12_doOne_11 : decode cX12_doOne 11 = .ok (.iconst 1, 1) := by decide +kernel
theorem dX12_doOne_12 : decode cX12_doOne 12 = .ok (.putfield 548, 3) := by decide +kernel
theorem dX12_doOne_15 : decode cX12_doOne 15 = .ok (.aload_n 0, 1) := by decide +kernel
theorem dX12_doOne_16 : decode cX12_doOne 16 = .ok (.iconst 1, 1) := by decide +kernel
theorem dX12_doOne_17 : decode cX12_doOne 17 = .ok (.putfield 552, 3) := by decide +kernel
theorem dX12_doOne_20 : decode cX12_doOne 20 = .ok (.return_, 1) := by decide +kernel
theorem dX12_doOne_21 : decode cX12_doOne 21 = .ok (.aload_n 0, 1) := by decide +kernel
theorem dX12_doOne_22 : decode cX12_doOne 22 = .ok (.dup, 1) := by decide +kernel
theorem dX12_doOne_23 : decode cX12_doOne 23 = .ok (.getfield 545, 3) := by decide +kernel
theorem dX12_doOne_26 : decode cX12_doOne 26 = .ok (.iconst 1, 1) := by decide +kernel
theorem dX12_doOne_27 : decode cX12_doOne 27 = .ok (.iadd, 1) := by decide +kernel
theorem dX12_doOne_28 : decode cX12_doOne 28 = .ok (.putfield 545, 3) := by decide +kernel
theorem dX12_doOne_31 : decode cX12_doOne 31 = .ok (.sipush 177, 3) := by decide +kernel
theorem dX12_doOne_34 : decode cX12_doOne 34 = .ok (.bipush 9, 2) := by decide +kernel
theorem dX12_doOne_36 : decode cX12_doOne 36 = .ok (.iload_n 1, 1) := by decide +kernel
theorem dX12_doOne_37 : decode cX12_doOne 37 = .ok (.imul, 1) := by decide +kernel
theorem dX12_doOne_38 : decode cX12_doOne 38 = .ok (.iadd, 1) := by decide +kernel
theorem dX12_doOne_39 : decode cX12_doOne 39 = .ok (.istore_n 2, 1) := by decide +kernel
theorem dX12_doOne_40 : decode cX12_doOne 40 = .ok (.aload_n 0, 1) := by decide +kernel
theorem dX12_doOne_41 : decode cX12_doOne 41 = .ok (.getfield 35, 3) := by decide +kernel
theorem dX12_doOne_44 : decode cX12_doOne 44 = .ok (.iload_n 2, 1) := by decide +kernel
theorem dX12_doOne_45 : decode cX12_doOne 45 = .ok (.iaload, 1) := by decide +kernel
theorem dX12_doOne_46 : decode cX12_doOne 46 = .ok (.istore_n 3, 1) := by decide +kernel
theorem dX12_doOne_47 : decode cX12_doOne 47 = .ok (.iload_n 3, 1) := by decide +kernel
theorem dX12_doOne_48 : decode cX12_doOne 48 = .ok (.iconst 5, 1) := by decide +kernel
theorem dX12_doOne_49 : decode cX12_doOne 49 = .ok (.if_icmp .ge 28, 3) := by decide +kernel
theorem dX12_doOne_52 : decode cX12_doOne 52 = .ok (.aload_n 0, 1) := by decide +kernel
theorem dX12_doOne_53 : decode cX12_doOne 53 = .ok (.dup, 1) := by decide +kernel
theorem dX12_doOne_54 : decode cX12_doOne 54 = .ok (.getfield 555, 3) := by decide +kernel
theorem dX12_doOne_57 : decode cX12_doOne 57 = .ok (.aload_n 0, 1) := by decide +kernel
theorem dX12_doOne_58 : decode cX12_doOne 58 = .ok (.iload_n 2, 1) := by decide +kernel
theorem dX12_doOne_59 : decode cX12_doOne 59 = .ok (.invokevirtual 558, 3) := by decide +kernel
theorem dX12_doOne_62 : decode cX12_doOne 62 = .ok (.ifCond .eq 7, 3) := by decide +kernel
theorem dX12_doOne_65 : decode cX12_doOne 65 = .ok (.iconst 0, 1) := by decide +kernel
theorem dX12_doOne_66 : decode cX12_doOne 66 = .ok (.goto 4, 3) := by decide +kernel
theorem dX12_doOne_69 : decode cX12_doOne 69 = .ok (.iconst 1, 1) := by decide +kernel
theorem dX12_doOne_70 : decode cX12_doOne 70 = .ok (.iadd, 1) := by decide +kernel
theorem dX12_doOne_71 : decode cX12_doOne 71 = .ok (.putfield 555, 3) := by decide +kernel
theorem dX12_doOne_74 : decode cX12_doOne 74 = .ok (.goto 100, 3) := by decide +kernel
theorem dX12_doOne_77 : decode cX12_doOne 77 = .ok (.iload_n 3, 1) := by decide +kernel
theorem dX12_doOne_78 : decode cX12_doOne 78 = .ok (.iconst 5, 1) := by decide +kernel
theorem dX12_doOne_79 : decode cX12_doOne 79 = .ok (.if_icmp .ne 30, 3) := by decide +kernel
theorem dX12_doOne_82 : decode cX12_doOne 82 = .ok (.aload_n 0, 1) := by decide +kernel
theorem dX12_doOne_83 : decode cX12_doOne 83 = .ok (.iload_n 2, 1) := by decide +kernel
theorem dX12_doOne_84 : decode cX12_doOne 84 = .ok (.invokevirtual 561, 3) := by decide +kernel
theorem dX12_doOne_87 : decode cX12_doOne 87 = .ok (.ifCond .eq 22, 3) := by decide +kernel
theorem dX12_doOne_90 : decode cX12_doOne 90 = .ok (.aload_n 0, 1) := by decide +kernel
theorem dX12_doOne_91 : decode cX12_doOne 91 = .ok (.iload_n 1, 1) := by decide +kernel
theorem dX12_doOne_92 : decode cX12_doOne 92 = .ok (.iconst 1, 1) := by decide +kernel
theorem dX12_doOne_93 : decode cX12_doOne 93 = .ok (.iadd, 1) := by decide +kernel
theorem dX12_doOne_94 : decode cX12_doOne 94 = .ok (.aload_n 0, 1) := by decide +kernel
theorem dX12_doOne_95 : decode cX12_doOne 95 = .ok (.getfield 35, 3) := by decide +kernel
theorem dX12_doOne_98 : decode cX12_doOne 98 = .ok (.iload_n 2, 1) := by decide +kernel
theorem dX12_doOne_99 : decode cX12_doOne 99 = .ok (.bipush 8, 2) := by decide +kernel
theorem dX12_doOne_101 : decode cX12_doOne 101 = .ok (.iadd, 1) := by decide +kernel
theorem dX12_doOne_102 : decode cX12_doOne 102 = .ok (.iaload, 1) := by decide +kernel
theorem dX12_doOne_103 : decode cX12_doOne 103 = .ok (.invokevirtual 564, 3) := by decide +kernel
theorem dX12_doOne_106 : decode cX12_doOne 106 = .ok (.goto 68, 3) := by decide +kernel
theorem dX12_doOne_109 : decode cX12_doOne 109 = .ok (.iload_n 3, 1) := by decide +kernel
theorem dX12_doOne_110 : decode cX12_doOne 110 = .ok (.bipush 6, 2) := by decide +kernel
theorem dX12_doOne_112 : decode cX12_doOne 112 = .ok (.if_icmp .ne 51, 3) := by decide +kernel
theorem dX12_doOne_115 : decode cX12_doOne 115 = .ok (.iconst 0, 1) := by decide +kernel
theorem dX12_doOne_116 : decode cX12_doOne 116 = .ok (.istore 4, 2) := by decide +kernel
theorem dX12_doOne_118 : decode cX12_doOne 118 = .ok (.iload 4, 2) := by decide +kernel
theorem dX12_doOne_120 : decode cX12_doOne 120 = .ok (.aload_n 0, 1) := by decide +kernel
theorem dX12_doOne_121 : decode cX12_doOne 121 = .ok (.getfield 35, 3) := by decide +kernel
theorem dX12_doOne_124 : decode cX12_doOne 124 = .ok (.iload_n 2, 1) := by decide +kernel
theorem dX12_doOne_125 : decode cX12_doOne 125 = .ok (.iconst 1, 1) := by decide +kernel
theorem dX12_doOne_126 : decode cX12_doOne 126 = .ok (.iadd, 1) := by decide +kernel
theorem dX12_doOne_127 : decode cX12_doOne 127 = .ok (.iaload, 1) := by decide +kernel
theorem dX12_doOne_128 : decode cX12_doOne 128 = .ok (.if_icmp .ge 32, 3) := by decide +kernel
theorem dX12_doOne_131 : decode cX12_doOne 131 = .ok (.aload_n 0, 1) := by decide +kernel
theorem dX12_doOne_132 : decode cX12_doOne 132 = .ok (.getfield 548, 3) := by decide +kernel
theorem dX12_doOne_135 : decode cX12_doOne 135 = .ok (.ifCond .ne 25, 3) := by decide +kernel
theorem dX12_doOne_138 : decode cX12_doOne 138 = .ok (.aload_n 0, 1) := by decide +kernel
theorem dX12_doOne_139 : decode cX12_doOne 139 = .ok (.iload_n 1, 1) := by decide +kernel
theorem dX12_doOne_140 : decode cX12_doOne 140 = .ok (.iconst 1, 1) := by decide +kernel
theorem dX12_doOne_141 : decode cX12_doOne 141 = .ok (.iadd, 1) := by decide +kernel
theorem dX12_doOne_142 : decode cX12_doOne 142 = .ok (.aload_n 0, 1) := by decide +kernel
theorem dX12_doOne_143 : decode cX12_doOne 143 = .ok (.getfield 35, 3) := by decide +kernel
theorem dX12_doOne_146 : decode cX12_doOne 146 = .ok (.iload_n 2, 1) := by decide +kernel
theorem dX12_doOne_147 : decode cX12_doOne 147 = .ok (.bipush 8, 2) := by decide +kernel
theorem dX12_doOne_149 : decode cX12_doOne 149 = .ok (.iadd, 1) := by decide +kernel
theorem dX12_doOne_150 : decode cX12_doOne 150 = .ok (.iaload, 1) := by decide +kernel
theorem dX12_doOne_151 : decode cX12_doOne 151 = .ok (.invokevirtual 564, 3) := by decide +kernel
theorem dX12_doOne_154 : decode cX12_doOne 154 = .ok (.iinc 4 1, 3) := by decide +kernel
theorem dX12_doOne_157 : decode cX12_doOne 157 = .ok (.goto (-39), 3) := by decide +kernel
theorem dX12_doOne_160 : decode cX12_doOne 160 = .ok (.goto 14, 3) := by decide +kernel
theorem dX12_doOne_163 : decode cX12_doOne 163 = .ok (.iload_n 3, 1) := by decide +kernel
theorem dX12_doOne_164 : decode cX12_doOne 164 = .ok (.bipush 6, 2) := by decide +kernel
theorem dX12_doOne_166 : decode cX12_doOne 166 = .ok (.if_icmp .le 8, 3) := by decide +kernel
theorem dX12_doOne_169 : decode cX12_doOne 169 = .ok (.aload_n 0, 1) := by decide +kernel
theorem dX12_doOne_170 : decode cX12_doOne 170 = .ok (.iconst 1, 1) := by decide +kernel
theorem dX12_doOne_171 : decode cX12_doOne 171 = .ok (.putfield 548, 3) := by decide +kernel
theorem dX12_doOne_174 : decode cX12_doOne 174 = .ok (.return_, 1) := by decide +kernel
theorem mw_X12_doOne : MW yX12_doOne cX12_doOne 5 2 1 false := ⟨tm 2374 (by decide +kernel) rfl, tm 249 (by decide +kernel) rfl, by decide, by decide, (by rw [if_neg (by decide)]; exact ⟨tm 2373 (by decide +kernel) rfl, tm 226 (by decide +kernel) rfl⟩)⟩
theorem mw_X12_doAll : MW yX12_doAll cX12_doAll 4 2 2 false := ⟨tm 2370 (by decide +kernel) rfl, tm 249 (by decide +kernel) rfl, by decide, by decide, (by rw [if_neg (by decide)]; exact ⟨tm 2369 (by decide +kernel) rfl, tm 225 (by decide +kernel) rfl⟩)⟩
theorem lk_RX12_558 : LK RX12 558 yX12_does := Or.inl (tm 2375 (by decide +kernel) rfl)
theorem lk_RX12_561 : LK RX12 561 yX12_isSo := Or.inl (tm 2400 (by decide +kernel) rfl)
theorem lk_RX12_564 : LK RX12 564 yX12_doAll := Or.inl (tm 2367 (by decide +kernel) rfl)
theorem fl_RX12_545 : FL RX12 545 10 38 := ⟨_, _, _, _, cw_10, by decide, Or.inl (by decide), Or.inr (by decide), Or.inl (tm 1606 (by decide +kernel) rfl)⟩
theorem fl_RX12_548 : FL RX12 548 10 36 := ⟨_, _, _, _, cw_10, by decide, Or.inr (Or.inr (Or.inl (by decide))), Or.inr (by decide), Or.inl (tm 1604 (by decide +kernel) rfl)⟩
theorem fl_RX12_552 : FL RX12 552 10 43 := ⟨_, _, _, _, cw_10, by decide, Or.inl (by decide), Or.inr (by decide), Or.inl (tm 1611 (by decide +kernel) rfl)⟩
theorem fl_RX12_555 : FL RX12 555 10 39 := ⟨_, _, _, _, cw_10, by decide, Or.inl (by decide), Or.inr (by decide), Or.inl (tm 1607 (by decide +kernel) rfl)⟩
def M_doOne_L118 (rc : Int → Int → Sg → Rs) (a1 : Int) (v2 : Int) : Nat → Int → Sg → Rs
  | 0, _, _ => none
  | n + 1, v4, σ => (rd 2235 (w32 (v2 + 1)) (σ 5 (Int.toNat (w32 (v2 + 1)))) (fun x12 => (if v4 < x12 then (if (σ 0 36) = 0 then (rd 2235 (w32 (v2 + 8)) (σ 5 (Int.toNat (w32 (v2 + 8)))) (fun x13 => (bd (rc (w32 (a1 + 1)) x13 σ) (fun r14 s15 => (nm (w32 (v4 + 1)) (fun x16 => (M_doOne_L118 rc a1 v2 n x16 s15))))))) else (some (0, σ))) else (some (0, σ)))))
theorem ok_M_doOne_L118 (rc : Int → Int → Sg → Rs) (dr dd : Nat) (hrc : ∀ (a1 : Int) (a2 : Int) (σ : Sg), MC l Km Pm yX12_doAll cX12_doAll 4 2 dr [.inr (.inr 0), .inl a1, .inl a2] σ (rc a1 a2 σ)) (hd : dr < dd) (hB : 8 ≤ dd) (a1 : Int) (v2 : Int) : ∀ (n : Nat) (v4 : Int) (σ : Sg), G l Km Pm RX12 cX12_doOne 5 2 dd 118 [some (.inr (.inr 0)), some (.inl a1), some (.inl v2), none, some (.inl v4)] [] σ (M_doOne_L118 rc a1 v2 n v4 σ) := by
  intro n
  induction n with
  | zero => intros; exact G.none_
  | succ n ih =>
    intro v4 σ
    rw [M_doOne_L118]
    refine g_iload dX12_doOne_118 rfl ?_
    refine g_aload_n dX12_doOne_120 rfl rfl ?_
    refine g_getr' (q := 5) fl_RX12_35 km_0 (by decide) rfl dX12_doOne_121 ?_
    refine g_iload_n dX12_doOne_124 rfl rfl ?_
    refine g_iconst dX12_doOne_125 (by decide) ?_
    refine g_iadd dX12_doOne_126 ?_
    refine g_iald km_5 dX12_doOne_127 ?_
    intro x12
    refine g_icmpge (tgt := 160) dX12_doOne_128 (by decide) ?_ ?_
    · refine g_aload_n dX12_doOne_131 rfl rfl ?_
      refine g_getz fl_RX12_548 km_0 (by decide) dX12_doOne_132 ?_
      refine g_ifne (tgt := 160) dX12_doOne_135 (by decide) ?_ ?_
      · refine g_aload_n dX12_doOne_138 rfl rfl ?_
        refine g_iload_n dX12_doOne_139 rfl rfl ?_
        refine g_iconst dX12_doOne_140 (by decide) ?_
        refine g_iadd dX12_doOne_141 ?_
        refine g_aload_n dX12_doOne_142 rfl rfl ?_
        refine g_getr' (q := 5) fl_RX12_35 km_0 (by decide) rfl dX12_doOne_143 ?_
        refine g_iload_n dX12_doOne_146 rfl rfl ?_
        refine g_bipush dX12_doOne_147 (by decide) ?_
        refine g_iadd dX12_doOne_149 ?_
        refine g_iald km_5 dX12_doOne_150 ?_
        intro x13
        refine g_callv2 (st := []) 10 mw_X12_doAll lk_RX12_564 rfl km_0 (hrc (w32 (a1 + 1)) x13 σ) hd rfl rfl (Nat.le_of_ble_eq_true rfl) dX12_doOne_151 ?_
        intro r14 s15
        refine n_iinc (fun x16 => [some (.inr (.inr 0)), some (.inl a1), some (.inl v2), none, some (.inl x16)]) dX12_doOne_154 rfl (Nat.le_of_ble_eq_true rfl) (fun _ => rfl) ?_
        intro x16
        refine g_goto (tgt := 118) dX12_doOne_157 (by decide) ?_
        exact (ih x16 s15)
      · refine g_goto (tgt := 174) dX12_doOne_160 (by decide) ?_
        exact g_vret dX12_doOne_174
    · refine g_goto (tgt := 174) dX12_doOne_160 (by decide) ?_
      exact g_vret dX12_doOne_174
def M_doOne_J109 (rc : Int → Int → Sg → Rs) (a1 : Int) (v2 : Int) (v3 : Int) (σ : Sg) : Rs := (if v3 = 6 then (M_doOne_L118 rc a1 v2 fu 0 σ) else (if 6 < v3 then (zb 1 (nm (up_s σ 0 36 1) (fun s17 => (some (0, s17))))) else (some (0, σ))))
theorem ok_M_doOne_J109 (rc : Int → Int → Sg → Rs) (dr dd : Nat) (hrc : ∀ (a1 : Int) (a2 : Int) (σ : Sg), MC l Km Pm yX12_doAll cX12_doAll 4 2 dr [.inr (.inr 0), .inl a1, .inl a2] σ (rc a1 a2 σ)) (hd : dr < dd) (hB : 8 ≤ dd) (a1 : Int) (v2 : Int) (v3 : Int) : ∀ (σ : Sg), G l Km Pm RX12 cX12_doOne 5 2 dd 109 [some (.inr (.inr 0)), some (.inl a1), some (.inl v2), some (.inl v3), none] [] σ (M_doOne_J109 rc a1 v2 v3  σ) := by
  intro σ
  unfold M_doOne_J109
  refine g_iload_n dX12_doOne_109 rfl rfl ?_
  refine g_bipush dX12_doOne_110 (by decide) ?_
  refine g_icmpne (tgt := 163) dX12_doOne_112 (by decide) ?_ ?_
  · refine g_iconst dX12_doOne_115 (by decide) ?_
    refine g_istore (lv' := [some (.inr (.inr 0)), some (.inl a1), some (.inl v2), some (.inl v3), some (.inl 0)]) dX12_doOne_116 (Nat.le_of_ble_eq_true rfl) rfl ?_
    refine (g_weak [true, true, true, false, true] (ok_M_doOne_L118 rc dr dd hrc hd hB a1 v2 fu 0 σ))
  · refine g_iload_n dX12_doOne_163 rfl rfl ?_
    refine g_bipush dX12_doOne_164 (by decide) ?_
    refine g_icmple (tgt := 174) dX12_doOne_166 (by decide) ?_ ?_
    · refine g_aload_n dX12_doOne_169 rfl rfl ?_
      refine g_iconst dX12_doOne_170 (by decide) ?_
      refine g_putz fl_RX12_548 km_0 (by decide) dX12_doOne_171 ?_
      intro s17
      exact g_vret dX12_doOne_174
    · exact g_vret dX12_doOne_174
def M_doOne (rc : Int → Int → Sg → Rs) (a1 : Int) (σ : Sg) : Rs := (if (σ 0 38) = 300 then (zb 1 (nm (up_s σ 0 36 1) (fun s1 => (nm (up_s s1 0 43 1) (fun s2 => (some (0, s2))))))) else (nm (up_s σ 0 38 (w32 ((σ 0 38) + 1))) (fun s3 => (nm (w32 (177 + (w32 (9 * a1)))) (fun x4 => (rd 2235 x4 (s3 5 (Int.toNat x4)) (fun x5 => (if x5 < 5 then (bd (M_does x4 s3) (fun r6 s7 => (if r6 = 0 then (nm (up_s s7 0 39 (w32 ((s3 0 39) + 1))) (fun s8 => (some (0, s8)))) else (nm (up_s s7 0 39 (w32 ((s3 0 39) + 0))) (fun s9 => (some (0, s9))))))) else (if x5 = 5 then (bd (M_isSo x4 s3) (fun r10 s11 => (if r10 = 0 then (M_doOne_J109 rc a1 x4 x5 s11) else (rd 2235 (w32 (x4 + 8)) (s11 5 (Int.toNat (w32 (x4 + 8)))) (fun x18 => (bd (rc (w32 (a1 + 1)) x18 s11) (fun r19 s20 => (some (0, s20))))))))) else (M_doOne_J109 rc a1 x4 x5 s3))))))))))
theorem ok_M_doOne (rc : Int → Int → Sg → Rs) (dr dd : Nat) (hrc : ∀ (a1 : Int) (a2 : Int) (σ : Sg), MC l Km Pm yX12_doAll cX12_doAll 4 2 dr [.inr (.inr 0), .inl a1, .inl a2] σ (rc a1 a2 σ)) (hd : dr < dd) (hB : 8 ≤ dd) (a1 : Int) (σ : Sg) : MC l Km Pm yX12_doOne cX12_doOne 5 2 dd [.inr (.inr 0), .inl a1] σ (M_doOne rc a1 σ) := by
  refine mc_of (by decide) (Nat.le_of_ble_eq_true rfl) ?_
  change G l Km Pm RX12 cX12_doOne 5 2 dd 0 [some (.inr (.inr 0)), some (.inl a1), none, none, none] [] σ (M_doOne rc a1 σ)
  unfold M_doOne
  refine g_aload_n dX12_doOne_0 rfl rfl ?_
  refine g_geti fl_RX12_545 km_0 (by decide) dX12_doOne_1 ?_
  refine g_sipush dX12_doOne_4 (by decide) ?_
  refine g_icmpne (tgt := 21) dX12_doOne_7 (by decide) ?_ ?_
  · refine g_aload_n dX12_doOne_10 rfl rfl ?_
    refine g_iconst dX12_doOne_11 (by decide) ?_
    refine g_putz fl_RX12_548 km_0 (by decide) dX12_doOne_12 ?_
    intro s1
    refine g_aload_n dX12_doOne_15 rfl rfl ?_
    refine g_iconst dX12_doOne_16 (by decide) ?_
    refine g_puti fl_RX12_552 km_0 (by decide) dX12_doOne_17 ?_
    intro s2
    exact g_vret dX12_doOne_20
  · refine g_aload_n dX12_doOne_21 rfl rfl ?_
    refine g_dup dX12_doOne_22 rfl ?_
    refine g_geti fl_RX12_545 km_0 (by decide) dX12_doOne_23 ?_
    refine g_iconst dX12_doOne_26 (by decide) ?_
    refine g_iadd dX12_doOne_27 ?_
    refine g_puti fl_RX12_545 km_0 (by decide) dX12_doOne_28 ?_
    intro s3
    refine g_sipush dX12_doOne_31 (by decide) ?_
    refine g_bipush dX12_doOne_34 (by decide) ?_
    refine g_iload_n dX12_doOne_36 rfl rfl ?_
    refine g_imul dX12_doOne_37 ?_
    refine g_iadd dX12_doOne_38 ?_
    refine n_istore_n (fun x4 => [some (.inr (.inr 0)), some (.inl a1), some (.inl x4), none, none]) dX12_doOne_39 rfl (Nat.le_of_ble_eq_true rfl) (fun _ => rfl) ?_
    intro x4
    refine g_aload_n dX12_doOne_40 rfl rfl ?_
    refine g_getr' (q := 5) fl_RX12_35 km_0 (by decide) rfl dX12_doOne_41 ?_
    refine g_iload_n dX12_doOne_44 rfl rfl ?_
    refine g_iald km_5 dX12_doOne_45 ?_
    intro x5
    refine g_istore_n (lv' := [some (.inr (.inr 0)), some (.inl a1), some (.inl x4), some (.inl x5), none]) dX12_doOne_46 rfl (Nat.le_of_ble_eq_true rfl) rfl ?_
    refine g_iload_n dX12_doOne_47 rfl rfl ?_
    refine g_iconst dX12_doOne_48 (by decide) ?_
    refine g_icmpge (tgt := 77) dX12_doOne_49 (by decide) ?_ ?_
    · refine g_aload_n dX12_doOne_52 rfl rfl ?_
      refine g_dup dX12_doOne_53 rfl ?_
      refine g_geti fl_RX12_555 km_0 (by decide) dX12_doOne_54 ?_
      refine g_aload_n dX12_doOne_57 rfl rfl ?_
      refine g_iload_n dX12_doOne_58 rfl rfl ?_
      refine g_callv3 (st := [.inl (s3 0 39), .inr (.inr 0)]) 10 mw_X12_does lk_RX12_558 rfl km_0 (ok_M_does x4 s3) (Nat.lt_of_lt_of_le (Nat.le_of_ble_eq_true rfl) hB) rfl rfl (Nat.le_of_ble_eq_true rfl) dX12_doOne_59 ?_
      intro r6 s7
      refine g_ifeq (tgt := 69) dX12_doOne_62 (by decide) ?_ ?_
      · refine g_iconst dX12_doOne_69 (by decide) ?_
        refine g_iadd dX12_doOne_70 ?_
        refine g_puti fl_RX12_555 km_0 (by decide) dX12_doOne_71 ?_
        intro s8
        refine g_goto (tgt := 174) dX12_doOne_74 (by decide) ?_
        exact g_vret dX12_doOne_174
      · refine g_iconst dX12_doOne_65 (by decide) ?_
        refine g_goto (tgt := 70) dX12_doOne_66 (by decide) ?_
        refine g_iadd dX12_doOne_70 ?_
        refine g_puti fl_RX12_555 km_0 (by decide) dX12_doOne_71 ?_
        intro s9
        refine g_goto (tgt := 174) dX12_doOne_74 (by decide) ?_
        exact g_vret dX12_doOne_174
    · refine g_iload_n dX12_doOne_77 rfl rfl ?_
      refine g_iconst dX12_doOne_78 (by decide) ?_
      refine g_icmpne (tgt := 109) dX12_doOne_79 (by decide) ?_ ?_
      · refine g_aload_n dX12_doOne_82 rfl rfl ?_
        refine g_iload_n dX12_doOne_83 rfl rfl ?_
        refine g_callv3 (st := []) 10 mw_X12_isSo lk_RX12_561 rfl km_0 (ok_M_isSo x4 s3) (Nat.lt_of_lt_of_le (Nat.le_of_ble_eq_true rfl) hB) rfl rfl (Nat.le_of_ble_eq_true rfl) dX12_doOne_84 ?_
        intro r10 s11
        refine g_ifeq (tgt := 109) dX12_doOne_87 (by decide) ?_ ?_
        · refine (ok_M_doOne_J109 rc dr dd hrc hd hB a1 x4 x5 s11)
        · refine g_aload_n dX12_doOne_90 rfl rfl ?_
          refine g_iload_n dX12_doOne_91 rfl rfl ?_
          refine g_iconst dX12_doOne_92 (by decide) ?_
          refine g_iadd dX12_doOne_93 ?_
          refine g_aload_n dX12_doOne_94 rfl rfl ?_
          refine g_getr' (q := 5) fl_RX12_35 km_0 (by decide) rfl dX12_doOne_95 ?_
          refine g_iload_n dX12_doOne_98 rfl rfl ?_
          refine g_bipush dX12_doOne_99 (by decide) ?_
          refine g_iadd dX12_doOne_101 ?_
          refine g_iald km_5 dX12_doOne_102 ?_
          intro x18
          refine g_callv2 (st := []) 10 mw_X12_doAll lk_RX12_564 rfl km_0 (hrc (w32 (a1 + 1)) x18 s11) hd rfl rfl (Nat.le_of_ble_eq_true rfl) dX12_doOne_103 ?_
          intro r19 s20
          refine g_goto (tgt := 174) dX12_doOne_106 (by decide) ?_
          exact g_vret dX12_doOne_174
      · refine (ok_M_doOne_J109 rc dr dd hrc hd hB a1 x4 x5 s3)
theorem dX12_doAll_0 : decode cX12_doAll 0 = .ok (.iload_n 1, 1) := by decide +kernel
theorem dX12_doAll_1 : decode cX12_doAll 1 = .ok (.istore_n 3, 1) := by decide +kernel
theorem dX12_doAll_2 : decode cX12_doAll 2 = .ok (.iload_n 3, 1) := by decide +kernel
theorem dX12_doAll_3 : decode cX12_doAll 3 = .ok (.iload_n 2, 1) := by decide +kernel
theorem dX12_doAll_4 : decode cX12_doAll 4 = .ok (.if_icmp .ge 35, 3) := by decide +kernel
theorem dX12_doAll_7 : decode cX12_doAll 7 = .ok (.aload_n 0, 1) := by decide +kernel
theorem dX12_doAll_8 : decode cX12_doAll 8 = .ok (.getfield 548, 3) := by decide +kernel
theorem dX12_doAll_11 : decode cX12_doAll 11 = .ok (.ifCond .ne 28, 3) := by decide +kernel
theorem dX12_doAll_14 : decode cX12_doAll 14 = .ok (.aload_n 0, 1) := by decide +kernel
theorem dX12_doAll_15 : decode cX12_doAll 15 = .ok (.iload_n 3, 1) := by decide +kernel
theorem dX12_doAll_16 : decode cX12_doAll 16 = .ok (.invokevirtual 567, 3) := by decide +kernel
theorem dX12_doAll_19 : decode cX12_doAll 19 = .ok (.aload_n 0, 1) := by decide +kernel
theorem dX12_doAll_20 : decode cX12_doAll 20 = .ok (.getfield 35, 3) := by decide +kernel
theorem dX12_doAll_23 : decode cX12_doAll 23 = .ok (.sipush 177, 3) := by decide +kernel
theorem dX12_doAll_26 : decode cX12_doAll 26 = .ok (.bipush 9, 2) := by decide +kernel
theorem dX12_doAll_28 : decode cX12_doAll 28 = .ok (.iload_n 3, 1) := by decide +kernel
theorem dX12_doAll_29 : decode cX12_doAll 29 = .ok (.imul, 1) := by decide +kernel
theorem dX12_doAll_30 : decode cX12_doAll 30 = .ok (.iadd, 1) := by decide +kernel
theorem dX12_doAll_31 : decode cX12_doAll 31 = .ok (.bipush 8, 2) := by decide +kernel
theorem dX12_doAll_33 : decode cX12_doAll 33 = .ok (.iadd, 1) := by decide +kernel
theorem dX12_doAll_34 : decode cX12_doAll 34 = .ok (.iaload, 1) := by decide +kernel
theorem dX12_doAll_35 : decode cX12_doAll 35 = .ok (.istore_n 3, 1) := by decide +kernel
theorem dX12_doAll_36 : decode cX12_doAll 36 = .ok (.goto (-34), 3) := by decide +kernel
theorem dX12_doAll_39 : decode cX12_doAll 39 = .ok (.return_, 1) := by decide +kernel
theorem lk_RX12_567 : LK RX12 567 yX12_doOne := Or.inl (tm 2371 (by decide +kernel) rfl)
def M_doAll_L2 (rc : Int → Int → Sg → Rs) (a2 : Int) : Nat → Int → Sg → Rs
  | 0, _, _ => none
  | n + 1, v3, σ => (if v3 < a2 then (if (σ 0 36) = 0 then (bd (M_doOne rc v3 σ) (fun r1 s2 => (rd 2235 (w32 ((w32 (177 + (w32 (9 * v3)))) + 8)) (s2 5 (Int.toNat (w32 ((w32 (177 + (w32 (9 * v3)))) + 8)))) (fun x3 => (M_doAll_L2 rc a2 n x3 s2))))) else (some (0, σ))) else (some (0, σ)))
theorem ok_M_doAll_L2 (rc : Int → Int → Sg → Rs) (dr dd : Nat) (hrc : ∀ (a1 : Int) (a2 : Int) (σ : Sg), MC l Km Pm yX12_doAll cX12_doAll 4 2 dr [.inr (.inr 0), .inl a1, .inl a2] σ (rc a1 a2 σ)) (hd : dr < dd) (hB : 10 ≤ dd) (hd1 : dr + 1 < dd) (hB1 : 8 ≤ dr) (a2 : Int) : ∀ (n : Nat) (v3 : Int) (σ : Sg), G l Km Pm RX12 cX12_doAll 4 2 dd 2 [some (.inr (.inr 0)), none, some (.inl a2), some (.inl v3)] [] σ (M_doAll_L2 rc a2 n v3 σ) := by
  intro n
  induction n with
  | zero => intros; exact G.none_
  | succ n ih =>
    intro v3 σ
    rw [M_doAll_L2]
    refine g_iload_n dX12_doAll_2 rfl rfl ?_
    refine g_iload_n dX12_doAll_3 rfl rfl ?_
    refine g_icmpge (tgt := 39) dX12_doAll_4 (by decide) ?_ ?_
    · refine g_aload_n dX12_doAll_7 rfl rfl ?_
      refine g_getz fl_RX12_548 km_0 (by decide) dX12_doAll_8 ?_
      refine g_ifne (tgt := 39) dX12_doAll_11 (by decide) ?_ ?_
      · refine g_aload_n dX12_doAll_14 rfl rfl ?_
        refine g_iload_n dX12_doAll_15 rfl rfl ?_
        refine g_callv2 (st := []) 10 mw_X12_doOne lk_RX12_567 rfl km_0 (ok_M_doOne rc dr (dr + 1) hrc (Nat.lt_succ_self _) (Nat.le_succ_of_le hB1) v3 σ) hd1 rfl rfl (Nat.le_of_ble_eq_true rfl) dX12_doAll_16 ?_
        intro r1 s2
        refine g_aload_n dX12_doAll_19 rfl rfl ?_
        refine g_getr' (q := 5) fl_RX12_35 km_0 (by decide) rfl dX12_doAll_20 ?_
        refine g_sipush dX12_doAll_23 (by decide) ?_
        refine g_bipush dX12_doAll_26 (by decide) ?_
        refine g_iload_n dX12_doAll_28 rfl rfl ?_
        refine g_imul dX12_doAll_29 ?_
        refine g_iadd dX12_doAll_30 ?_
        refine g_bipush dX12_doAll_31 (by decide) ?_
        refine g_iadd dX12_doAll_33 ?_
        refine g_iald km_5 dX12_doAll_34 ?_
        intro x3
        refine g_istore_n (lv' := [some (.inr (.inr 0)), none, some (.inl a2), some (.inl x3)]) dX12_doAll_35 rfl (Nat.le_of_ble_eq_true rfl) rfl ?_
        refine g_goto (tgt := 2) dX12_doAll_36 (by decide) ?_
        exact (ih x3 s2)
      · exact g_vret dX12_doAll_39
    · exact g_vret dX12_doAll_39
def M_doAll_B (rc : Int → Int → Sg → Rs) (a1 : Int) (a2 : Int) (σ : Sg) : Rs := (M_doAll_L2 rc a2 fu a1 σ)
theorem ok_M_doAll_B (rc : Int → Int → Sg → Rs) (dr dd : Nat) (hrc : ∀ (a1 : Int) (a2 : Int) (σ : Sg), MC l Km Pm yX12_doAll cX12_doAll 4 2 dr [.inr (.inr 0), .inl a1, .inl a2] σ (rc a1 a2 σ)) (hd : dr < dd) (hB : 10 ≤ dd) (hd1 : dr + 1 < dd) (hB1 : 8 ≤ dr) (a1 : Int) (a2 : Int) (σ : Sg) : MC l Km Pm yX12_doAll cX12_doAll 4 2 dd [.inr (.inr 0), .inl a1, .inl a2] σ (M_doAll_B rc a1 a2 σ) := by
  refine mc_of (by decide) (Nat.le_of_ble_eq_true rfl) ?_
  change G l Km Pm RX12 cX12_doAll 4 2 dd 0 [some (.inr (.inr 0)), some (.inl a1), some (.inl a2), none] [] σ (M_doAll_B rc a1 a2 σ)
  unfold M_doAll_B
  refine g_iload_n dX12_doAll_0 rfl rfl ?_
  refine g_istore_n (lv' := [some (.inr (.inr 0)), some (.inl a1), some (.inl a2), some (.inl a1)]) dX12_doAll_1 rfl (Nat.le_of_ble_eq_true rfl) rfl ?_
  refine (g_weak [true, false, true, true] (ok_M_doAll_L2 rc dr dd hrc hd hB hd1 hB1 a2 fu a1 σ))
def M_doAll : Nat → Int → Int → Sg → Rs
  | 0 => fun _ _ _ => none
  | n + 1 => M_doAll_B (M_doAll n)
theorem ok_M_doAll : ∀ (n : Nat) (a1 : Int) (a2 : Int)  (σ : Sg), MC l Km Pm yX12_doAll cX12_doAll 4 2 (2 * n + 10) [.inr (.inr 0), .inl a1, .inl a2] σ (M_doAll n a1 a2 σ) := by
  intro n
  induction n with
  | zero => intros; exact mc_none
  | succ n ih =>
    intro a1 a2 σ
    exact ok_M_doAll_B (M_doAll n) (2 * n + 10) (2 * (n + 1) + 10) ih (by omega) (by omega) (by omega) (by omega) a1 a2 σ
theorem dX12_empties_0 : decode cX12_empties 0 = .ok (.sipush 447, 3) := by decide +kernel
theorem dX12_empties_3 : decode cX12_empties 3 = .ok (.iload_n 1, 1) := by decide +kernel
theorem dX12_empties_4 : decode cX12_empties 4 = .ok (.imul, 1) := by decide +kernel
theorem dX12_empties_5 : decode cX12_empties 5 = .ok (.istore_n 2, 1) := by decide +kernel
theorem dX12_empties_6 : decode cX12_empties 6 = .ok (.iconst 0, 1) := by decide +kernel
theorem dX12_empties_7 : decode cX12_empties 7 = .ok (.istore_n 3, 1) := by decide +kernel
theorem dX12_empties_8 : decode cX12_empties 8 = .ok (.iload_n 3, 1) := by decide +kernel
theorem dX12_empties_9 : decode cX12_empties 9 = .ok (.sipush 447, 3) := by decide +kernel
theorem dX12_empties_12 : decode cX12_empties 12 = .ok (.if_icmp .ge 18, 3) := by decide +kernel
theorem dX12_empties_15 : decode cX12_empties 15 = .ok (.aload_n 0, 1) := by decide +kernel
theorem dX12_empties_16 : decode cX12_empties 16 = .ok (.getfield 35, 3) := by decide +kernel
theorem dX12_empties_19 : decode cX12_empties 19 = .ok (.iload_n 2, 1) := by decide +kernel
theorem dX12_empties_20 : decode cX12_empties 20 = .ok (.iload_n 3, 1) := by decide +kernel
theorem dX12_empties_21 : decode cX12_empties 21 = .ok (.iadd, 1) := by decide +kernel
theorem dX12_empties_22 : decode cX12_empties 22 = .ok (.iconst 0, 1) := by decide +kernel
theorem dX12_empties_23 : decode cX12_empties 23 = .ok (.iastore, 1) := by decide +kernel
theorem dX12_empties_24 : decode cX12_empties 24 = .ok (.iinc 3 1, 3) := by decide +kernel
theorem dX12_empties_27 : decode cX12_empties 27 = .ok (.goto (-19), 3) := by decide +kernel
theorem dX12_empties_30 : decode cX12_empties 30 = .ok (.aload_n 0, 1) := by decide +kernel
theorem dX12_empties_31 : decode cX12_empties 31 = .ok (.getfield 35, 3) := by decide +kernel
theorem dX12_empties_34 : decode cX12_empties 34 = .ok (.iload_n 2, 1) := by decide +kernel
theorem dX12_empties_35 : decode cX12_empties 35 = .ok (.iconst 4, 1) := by decide +kernel
theorem dX12_empties_36 : decode cX12_empties 36 = .ok (.iadd, 1) := by decide +kernel
theorem dX12_empties_37 : decode cX12_empties 37 = .ok (.iconst 3, 1) := by decide +kernel
theorem dX12_empties_38 : decode cX12_empties 38 = .ok (.iastore, 1) := by decide +kernel
theorem dX12_empties_39 : decode cX12_empties 39 = .ok (.aload_n 0, 1) := by decide +kernel
theorem dX12_empties_40 : decode cX12_empties 40 = .ok (.getfield 35, 3) := by decide +kernel
theorem dX12_empties_43 : decode cX12_empties 43 = .ok (.iload_n 2, 1) := by decide +kernel
theorem dX12_empties_44 : decode cX12_empties 44 = .ok (.iconst 5, 1) := by decide +kernel
theorem dX12_empties_45 : decode cX12_empties 45 = .ok (.iadd, 1) := by decide +kernel
theorem dX12_empties_46 : decode cX12_empties 46 = .ok (.iconst 1, 1) := by decide +kernel
theorem dX12_empties_47 : decode cX12_empties 47 = .ok (.iastore, 1) := by decide +kernel
theorem dX12_empties_48 : decode cX12_empties 48 = .ok (.return_, 1) := by decide +kernel
theorem mw_X12_empties : MW yX12_empties cX12_empties 4 2 1 false := ⟨tm 1567 (by decide +kernel) rfl, tm 249 (by decide +kernel) rfl, by decide, by decide, (by rw [if_neg (by decide)]; exact ⟨tm 1566 (by decide +kernel) rfl, tm 121 (by decide +kernel) rfl⟩)⟩
def M_empties_L8 (v2 : Int) (k30 : Int → Sg → Rs) : Nat → Int → Sg → Rs
  | 0, _, _ => none
  | n + 1, v3, σ => (if v3 < 447 then (wr 2235 (w32 (v2 + v3)) (up_s σ 5 (Int.toNat (w32 (v2 + v3))) 0) (fun s2 => (nm (w32 (v3 + 1)) (fun x3 => (M_empties_L8 v2 k30 n x3 s2))))) else (k30 v2 σ))
theorem ok_M_empties_L8 (v2 : Int) (k30 : Int → Sg → Rs) (hk30 : ∀ (y2 : Int) (σ : Sg), G l Km Pm RX12 cX12_empties 4 2 1 30 [some (.inr (.inr 0)), none, some (.inl y2), none] [] σ (k30 y2 σ)) : ∀ (n : Nat) (v3 : Int) (σ : Sg), G l Km Pm RX12 cX12_empties 4 2 1 8 [some (.inr (.inr 0)), none, some (.inl v2), some (.inl v3)] [] σ (M_empties_L8 v2 k30 n v3 σ) := by
  intro n
  induction n with
  | zero => intros; exact G.none_
  | succ n ih =>
    intro v3 σ
    rw [M_empties_L8]
    refine g_iload_n dX12_empties_8 rfl rfl ?_
    refine g_sipush dX12_empties_9 (by decide) ?_
    refine g_icmpge (tgt := 30) dX12_empties_12 (by decide) ?_ ?_
    · refine g_aload_n dX12_empties_15 rfl rfl ?_
      refine g_getr' (q := 5) fl_RX12_35 km_0 (by decide) rfl dX12_empties_16 ?_
      refine g_iload_n dX12_empties_19 rfl rfl ?_
      refine g_iload_n dX12_empties_20 rfl rfl ?_
      refine g_iadd dX12_empties_21 ?_
      refine g_iconst dX12_empties_22 (by decide) ?_
      refine g_iast km_5 dX12_empties_23 ?_
      intro s2
      refine n_iinc (fun x3 => [some (.inr (.inr 0)), none, some (.inl v2), some (.inl x3)]) dX12_empties_24 rfl (Nat.le_of_ble_eq_true rfl) (fun _ => rfl) ?_
      intro x3
      refine g_goto (tgt := 8) dX12_empties_27 (by decide) ?_
      exact (ih x3 s2)
    · exact (g_weak [true, false, true, false] (hk30 v2 σ))
def M_empties_J30 (v2 : Int) (σ : Sg) : Rs := (wr 2235 (w32 (v2 + 4)) (up_s σ 5 (Int.toNat (w32 (v2 + 4))) 3) (fun s6 => (wr 2235 (w32 (v2 + 5)) (up_s s6 5 (Int.toNat (w32 (v2 + 5))) 1) (fun s7 => (some (0, s7))))))
theorem ok_M_empties_J30 (v2 : Int) : ∀ (σ : Sg), G l Km Pm RX12 cX12_empties 4 2 1 30 [some (.inr (.inr 0)), none, some (.inl v2), none] [] σ (M_empties_J30 v2  σ) := by
  intro σ
  unfold M_empties_J30
  refine g_aload_n dX12_empties_30 rfl rfl ?_
  refine g_getr' (q := 5) fl_RX12_35 km_0 (by decide) rfl dX12_empties_31 ?_
  refine g_iload_n dX12_empties_34 rfl rfl ?_
  refine g_iconst dX12_empties_35 (by decide) ?_
  refine g_iadd dX12_empties_36 ?_
  refine g_iconst dX12_empties_37 (by decide) ?_
  refine g_iast km_5 dX12_empties_38 ?_
  intro s6
  refine g_aload_n dX12_empties_39 rfl rfl ?_
  refine g_getr' (q := 5) fl_RX12_35 km_0 (by decide) rfl dX12_empties_40 ?_
  refine g_iload_n dX12_empties_43 rfl rfl ?_
  refine g_iconst dX12_empties_44 (by decide) ?_
  refine g_iadd dX12_empties_45 ?_
  refine g_iconst dX12_empties_46 (by decide) ?_
  refine g_iast km_5 dX12_empties_47 ?_
  intro s7
  exact g_vret dX12_empties_48
def M_empties (a1 : Int) (σ : Sg) : Rs := (nm (w32 (447 * a1)) (fun x1 => (M_empties_L8 x1 (fun x4 s5 => (M_empties_J30 x4 s5)) fu 0 σ)))
theorem ok_M_empties (a1 : Int) (σ : Sg) : MC l Km Pm yX12_empties cX12_empties 4 2 1 [.inr (.inr 0), .inl a1] σ (M_empties a1 σ) := by
  refine mc_of (by decide) (Nat.le_of_ble_eq_true rfl) ?_
  change G l Km Pm RX12 cX12_empties 4 2 1 0 [some (.inr (.inr 0)), some (.inl a1), none, none] [] σ (M_empties a1 σ)
  unfold M_empties
  refine g_sipush dX12_empties_0 (by decide) ?_
  refine g_iload_n dX12_empties_3 rfl rfl ?_
  refine g_imul dX12_empties_4 ?_
  refine n_istore_n (fun x1 => [some (.inr (.inr 0)), some (.inl a1), some (.inl x1), none]) dX12_empties_5 rfl (Nat.le_of_ble_eq_true rfl) (fun _ => rfl) ?_
  intro x1
  refine g_iconst dX12_empties_6 (by decide) ?_
  refine g_istore_n (lv' := [some (.inr (.inr 0)), some (.inl a1), some (.inl x1), some (.inl 0)]) dX12_empties_7 rfl (Nat.le_of_ble_eq_true rfl) rfl ?_
  refine (g_weak [true, false, true, true] (ok_M_empties_L8 x1 _ ?_ fu 0 σ))
  · intro x4 s5
    refine (ok_M_empties_J30 x4 s5)
theorem dX12_fault_0 : decode cX12_fault 0 = .ok (.aload_n 0, 1) := by decide +kernel
theorem dX12_fault_1 : decode cX12_fault 1 = .ok (.iconst 0, 1) := by decide +kernel
theorem dX12_fault_2 : decode cX12_fault 2 = .ok (.putfield 67, 3) := by decide +kernel
theorem dX12_fault_5 : decode cX12_fault 5 = .ok (.iload_n 1, 1) := by decide +kernel
theorem dX12_fault_6 : decode cX12_fault 6 = .ok (.ifCond .ne 10, 3) := by decide +kernel
theorem dX12_fault_9 : decode cX12_fault 9 = .ok (.aload_n 0, 1) := by decide +kernel
theorem dX12_fault_10 : decode cX12_fault 10 = .ok (.getfield 28, 3) := by decide +kernel
theorem dX12_fault_13 : decode cX12_fault 13 = .ok (.goto 16, 3) := by decide +kernel
theorem dX12_fault_16 : decode cX12_fault 16 = .ok (.iload_n 1, 1) := by decide +kernel
theorem dX12_fault_17 : decode cX12_fault 17 = .ok (.iconst 1, 1) := by decide +kernel
theorem dX12_fault_18 : decode cX12_fault 18 = .ok (.if_icmp .ne 10, 3) := by decide +kernel
theorem dX12_fault_21 : decode cX12_fault 21 = .ok (.aload_n 0, 1) := by decide +kernel
theorem dX12_fault_22 : decode cX12_fault 22 = .ok (.getfield 32, 3) := by decide +kernel
theorem dX12_fault_25 : decode cX12_fault 25 = .ok (.goto 4, 3) := by decide +kernel
theorem dX12_fault_28 : decode cX12_fault 28 = .ok (.iconst (-1), 1) := by decide +kernel
theorem dX12_fault_29 : decode cX12_fault 29 = .ok (.ireturn, 1) := by decide +kernel
theorem mw_X12_fault : MW yX12_fault cX12_fault 2 0 1 false := ⟨tm 1757 (by decide +kernel) rfl, tm 249 (by decide +kernel) rfl, by decide, by decide, (by rw [if_neg (by decide)]; exact ⟨tm 1755 (by decide +kernel) rfl, tm 1756 (by decide +kernel) rfl⟩)⟩
theorem fl_RX12_28 : FL RX12 28 10 10 := ⟨_, _, _, _, cw_10, by decide, Or.inl (by decide), Or.inr (by decide), Or.inl (tm 1578 (by decide +kernel) rfl)⟩
theorem fl_RX12_32 : FL RX12 32 10 11 := ⟨_, _, _, _, cw_10, by decide, Or.inl (by decide), Or.inr (by decide), Or.inl (tm 1579 (by decide +kernel) rfl)⟩
def M_fault (a1 : Int) (σ : Sg) : Rs := (nm (up_s σ 0 1 0) (fun s1 => (if a1 = 0 then (some ((s1 0 10), s1)) else (if a1 = 1 then (some ((s1 0 11), s1)) else (some ((-1), s1))))))
theorem ok_M_fault (a1 : Int) (σ : Sg) : MC l Km Pm yX12_fault cX12_fault 2 0 1 [.inr (.inr 0), .inl a1] σ (M_fault a1 σ) := by
  refine mc_of (by decide) (Nat.le_of_ble_eq_true rfl) ?_
  change G l Km Pm RX12 cX12_fault 2 0 1 0 [some (.inr (.inr 0)), some (.inl a1)] [] σ (M_fault a1 σ)
  unfold M_fault
  refine g_aload_n dX12_fault_0 rfl rfl ?_
  refine g_iconst dX12_fault_1 (by decide) ?_
  refine g_puti fl_RX12_67 km_0 (by decide) dX12_fault_2 ?_
  intro s1
  refine g_iload_n dX12_fault_5 rfl rfl ?_
  refine g_ifne (tgt := 16) dX12_fault_6 (by decide) ?_ ?_
  · refine g_aload_n dX12_fault_9 rfl rfl ?_
    refine g_geti fl_RX12_28 km_0 (by decide) dX12_fault_10 ?_
    refine g_goto (tgt := 29) dX12_fault_13 (by decide) ?_
    exact g_iret dX12_fault_29
  · refine g_iload_n dX12_fault_16 rfl rfl ?_
    refine g_iconst dX12_fault_17 (by decide) ?_
    refine g_icmpne (tgt := 28) dX12_fault_18 (by decide) ?_ ?_
    · refine g_aload_n dX12_fault_21 rfl rfl ?_
      refine g_geti fl_RX12_32 km_0 (by decide) dX12_fault_22 ?_
      refine g_goto (tgt := 29) dX12_fault_25 (by decide) ?_
      exact g_iret dX12_fault_29
    · refine g_iconst dX12_fault_28 (by decide) ?_
      exact g_iret dX12_fault_29
theorem dX12_lay_0 : decode cX12_lay 0 = .ok (.iconst 3, 1) := by decide +kernel
theorem dX12_lay_1 : decode cX12_lay 1 = .ok (.istore_n 2, 1) := by decide +kernel
theorem dX12_lay_2 : decode cX12_lay 2 = .ok (.iload_n 2, 1) := by decide +kernel
theorem dX12_lay_3 : decode cX12_lay 3 = .ok (.ifCond .lt 35, 3) := by decide +kernel
theorem dX12_lay_6 : decode cX12_lay 6 = .ok (.aload_n 0, 1) := by decide +kernel
theorem dX12_lay_7 : decode cX12_lay 7 = .ok (.getfield 24, 3) := by decide +kernel
theorem dX12_lay_10 : decode cX12_lay 10 = .ok (.aload_n 0, 1) := by decide +kernel
theorem dX12_lay_11 : decode cX12_lay 11 = .ok (.getfield 234, 3) := by decide +kernel
theorem dX12_lay_14 : decode cX12_lay 14 = .ok (.iload_n 1, 1) := by decide +kernel
theorem dX12_lay_15 : decode cX12_lay 15 = .ok (.bipush 8, 2) := by decide +kernel
theorem dX12_lay_17 : decode cX12_lay 17 = .ok (.iload_n 2, 1) := by decide +kernel
theorem dX12_lay_18 : decode cX12_lay 18 = .ok (.imul, 1) := by decide +kernel
theorem dX12_lay_19 : decode cX12_lay 19 = .ok (.ishr, 1) := by decide +kernel
theorem dX12_lay_20 : decode cX12_lay 20 = .ok (.i2b, 1) := by decide +kernel
theorem dX12_lay_21 : decode cX12_lay 21 = .ok (.bastore, 1) := by decide +kernel
theorem dX12_lay_22 : decode cX12_lay 22 = .ok (.aload_n 0, 1) := by decide +kernel
theorem dX12_lay_23 : decode cX12_lay 23 = .ok (.dup, 1) := by decide +kernel
theorem dX12_lay_24 : decode cX12_lay 24 = .ok (.getfield 234, 3) := by decide +kernel
theorem dX12_lay_27 : decode cX12_lay 27 = .ok (.iconst 1, 1) := by decide +kernel
theorem dX12_lay_28 : decode cX12_lay 28 = .ok (.iadd, 1) := by decide +kernel
theorem dX12_lay_29 : decode cX12_lay 29 = .ok (.putfield 234, 3) := by decide +kernel
theorem dX12_lay_32 : decode cX12_lay 32 = .ok (.iinc 2 (-1), 3) := by decide +kernel
theorem dX12_lay_35 : decode cX12_lay 35 = .ok (.goto (-33), 3) := by decide +kernel
theorem dX12_lay_38 : decode cX12_lay 38 = .ok (.return_, 1) := by decide +kernel
theorem mw_X12_lay : MW yX12_lay cX12_lay 3 2 1 false := ⟨tm 1753 (by decide +kernel) rfl, tm 249 (by decide +kernel) rfl, by decide, by decide, (by rw [if_neg (by decide)]; exact ⟨tm 1752 (by decide +kernel) rfl, tm 125 (by decide +kernel) rfl⟩)⟩
theorem fl_RX12_234 : FL RX12 234 10 8 := ⟨_, _, _, _, cw_10, by decide, Or.inl (by decide), Or.inr (by decide), Or.inl (tm 1576 (by decide +kernel) rfl)⟩
def M_lay_L2 (a1 : Int) : Nat → Int → Sg → Rs
  | 0, _, _ => none
  | n + 1, v2, σ => (if v2 < 0 then (some (0, σ)) else (wr 900 (σ 0 8) (up_s σ 4 (Int.toNat (σ 0 8)) (b32 (b32 (sr32 a1 (w32 (8 * v2)))))) (fun s1 => (nm (up_s s1 0 8 (w32 ((s1 0 8) + 1))) (fun s2 => (nm (w32 (v2 + (-1))) (fun x3 => (M_lay_L2 a1 n x3 s2))))))))
theorem ok_M_lay_L2 (a1 : Int) : ∀ (n : Nat) (v2 : Int) (σ : Sg), G l Km Pm RX12 cX12_lay 3 2 1 2 [some (.inr (.inr 0)), some (.inl a1), some (.inl v2)] [] σ (M_lay_L2 a1 n v2 σ) := by
  intro n
  induction n with
  | zero => intros; exact G.none_
  | succ n ih =>
    intro v2 σ
    rw [M_lay_L2]
    refine g_iload_n dX12_lay_2 rfl rfl ?_
    refine g_iflt (tgt := 38) dX12_lay_3 (by decide) ?_ ?_
    · exact g_vret dX12_lay_38
    · refine g_aload_n dX12_lay_6 rfl rfl ?_
      refine g_getr' (q := 4) fl_RX12_24 km_0 (by decide) rfl dX12_lay_7 ?_
      refine g_aload_n dX12_lay_10 rfl rfl ?_
      refine g_geti fl_RX12_234 km_0 (by decide) dX12_lay_11 ?_
      refine g_iload_n dX12_lay_14 rfl rfl ?_
      refine g_bipush dX12_lay_15 (by decide) ?_
      refine g_iload_n dX12_lay_17 rfl rfl ?_
      refine g_imul dX12_lay_18 ?_
      refine g_ishr dX12_lay_19 ?_
      refine g_i2b dX12_lay_20 ?_
      refine g_bast km_4 dX12_lay_21 ?_
      intro s1
      refine g_aload_n dX12_lay_22 rfl rfl ?_
      refine g_dup dX12_lay_23 rfl ?_
      refine g_geti fl_RX12_234 km_0 (by decide) dX12_lay_24 ?_
      refine g_iconst dX12_lay_27 (by decide) ?_
      refine g_iadd dX12_lay_28 ?_
      refine g_puti fl_RX12_234 km_0 (by decide) dX12_lay_29 ?_
      intro s2
      refine n_iinc (fun x3 => [some (.inr (.inr 0)), some (.inl a1), some (.inl x3)]) dX12_lay_32 rfl (Nat.le_of_ble_eq_true rfl) (fun _ => rfl) ?_
      intro x3
      refine g_goto (tgt := 2) dX12_lay_35 (by decide) ?_
      exact (ih x3 s2)
def M_lay (a1 : Int) (σ : Sg) : Rs := (M_lay_L2 a1 fu 3 σ)
theorem ok_M_lay (a1 : Int) (σ : Sg) : MC l Km Pm yX12_lay cX12_lay 3 2 1 [.inr (.inr 0), .inl a1] σ (M_lay a1 σ) := by
  refine mc_of (by decide) (Nat.le_of_ble_eq_true rfl) ?_
  change G l Km Pm RX12 cX12_lay 3 2 1 0 [some (.inr (.inr 0)), some (.inl a1), none] [] σ (M_lay a1 σ)
  unfold M_lay
  refine g_iconst dX12_lay_0 (by decide) ?_
  refine g_istore_n (lv' := [some (.inr (.inr 0)), some (.inl a1), some (.inl 3)]) dX12_lay_1 rfl (Nat.le_of_ble_eq_true rfl) rfl ?_
  refine (ok_M_lay_L2 a1 fu 3 σ)
theorem dX12_feed_0 : decode cX12_feed 0 = .ok (.aload_n 0, 1) := by decide +kernel
theorem dX12_feed_1 : decode cX12_feed 1 = .ok (.iconst 0, 1) := by decide +kernel
theorem dX12_feed_2 : decode cX12_feed 2 = .ok (.putfield 67, 3) := by decide +kernel
theorem dX12_feed_5 : decode cX12_feed 5 = .ok (.aload_n 0, 1) := by decide +kernel
theorem dX12_feed_6 : decode cX12_feed 6 = .ok (.getfield 234, 3) := by decide +kernel
theorem dX12_feed_9 : decode cX12_feed 9 = .ok (.bipush 20, 2) := by decide +kernel
theorem dX12_feed_11 : decode cX12_feed 11 = .ok (.iadd, 1) := by decide +kernel
theorem dX12_feed_12 : decode cX12_feed 12 = .ok (.sipush 900, 3) := by decide +kernel
theorem dX12_feed_15 : decode cX12_feed 15 = .ok (.if_icmp .le 5, 3) := by decide +kernel
theorem dX12_feed_18 : decode cX12_feed 18 = .ok (.iconst (-1), 1) := by decide +kernel
theorem dX12_feed_19 : decode cX12_feed 19 = .ok (.ireturn, 1) := by decide +kernel
theorem dX12_feed_20 : decode cX12_feed 20 = .ok (.aload_n 0, 1) := by decide +kernel
theorem dX12_feed_21 : decode cX12_feed 21 = .ok (.iload_n 1, 1) := by decide +kernel
theorem dX12_feed_22 : decode cX12_feed 22 = .ok (.invokevirtual 237, 3) := by decide +kernel
theorem dX12_feed_25 : decode cX12_feed 25 = .ok (.aload_n 0, 1) := by decide +kernel
theorem dX12_feed_26 : decode cX12_feed 26 = .ok (.iload_n 2, 1) := by decide +kernel
theorem dX12_feed_27 : decode cX12_feed 27 = .ok (.invokevirtual 237, 3) := by decide +kernel
theorem dX12_feed_30 : decode cX12_feed 30 = .ok (.aload_n 0, 1) := by decide +kernel
theorem dX12_feed_31 : decode cX12_feed 31 = .ok (.iload_n 3, 1) := by decide +kernel
theorem dX12_feed_32 : decode cX12_feed 32 = .ok (.invokevirtual 237, 3) := by decide +kernel
theorem dX12_feed_35 : decode cX12_feed 35 = .ok (.aload_n 0, 1) := by decide +kernel
theorem dX12_feed_36 : decode cX12_feed 36 = .ok (.iload 4, 2) := by decide +kernel
theorem dX12_feed_38 : decode cX12_feed 38 = .ok (.invokevirtual 237, 3) := by decide +kernel
theorem dX12_feed_41 : decode cX12_feed 41 = .ok (.aload_n 0, 1) := by decide +kernel
theorem dX12_feed_42 : decode cX12_feed 42 = .ok (.iload 5, 2) := by decide +kernel
theorem dX12_feed_44 : decode cX12_feed 44 = .ok (.invokevirtual 237, 3) := by decide +kernel
theorem dX12_feed_47 : decode cX12_feed 47 = .ok (.aload_n 0, 1) := by decide +kernel
theorem dX12_feed_48 : decode cX12_feed 48 = .ok (.getfield 234, 3) := by decide +kernel
theorem dX12_feed_51 : decode cX12_feed 51 = .ok (.ireturn, 1) := by decide +kernel
theorem mw_X12_feed : MW yX12_feed cX12_feed 6 0 5 false := ⟨tm 1749 (by decide +kernel) rfl, tm 249 (by decide +kernel) rfl, by decide, by decide, (by rw [if_neg (by decide)]; exact ⟨tm 1747 (by decide +kernel) rfl, tm 1748 (by decide +kernel) rfl⟩)⟩
theorem lk_RX12_237 : LK RX12 237 yX12_lay := Or.inl (tm 1750 (by decide +kernel) rfl)
def M_feed (a1 : Int) (a2 : Int) (a3 : Int) (a4 : Int) (a5 : Int) (σ : Sg) : Rs := (nm (up_s σ 0 1 0) (fun s1 => (if 900 < (w32 ((s1 0 8) + 20)) then (some ((-1), s1)) else (bd (M_lay a1 s1) (fun r2 s3 => (bd (M_lay a2 s3) (fun r4 s5 => (bd (M_lay a3 s5) (fun r6 s7 => (bd (M_lay a4 s7) (fun r8 s9 => (bd (M_lay a5 s9) (fun r10 s11 => (some ((s11 0 8), s11)))))))))))))))
theorem ok_M_feed (a1 : Int) (a2 : Int) (a3 : Int) (a4 : Int) (a5 : Int) (σ : Sg) : MC l Km Pm yX12_feed cX12_feed 6 0 2 [.inr (.inr 0), .inl a1, .inl a2, .inl a3, .inl a4, .inl a5] σ (M_feed a1 a2 a3 a4 a5 σ) := by
  refine mc_of (by decide) (Nat.le_of_ble_eq_true rfl) ?_
  change G l Km Pm RX12 cX12_feed 6 0 2 0 [some (.inr (.inr 0)), some (.inl a1), some (.inl a2), some (.inl a3), some (.inl a4), some (.inl a5)] [] σ (M_feed a1 a2 a3 a4 a5 σ)
  unfold M_feed
  refine g_aload_n dX12_feed_0 rfl rfl ?_
  refine g_iconst dX12_feed_1 (by decide) ?_
  refine g_puti fl_RX12_67 km_0 (by decide) dX12_feed_2 ?_
  intro s1
  refine g_aload_n dX12_feed_5 rfl rfl ?_
  refine g_geti fl_RX12_234 km_0 (by decide) dX12_feed_6 ?_
  refine g_bipush dX12_feed_9 (by decide) ?_
  refine g_iadd dX12_feed_11 ?_
  refine g_sipush dX12_feed_12 (by decide) ?_
  refine g_icmple (tgt := 20) dX12_feed_15 (by decide) ?_ ?_
  · refine g_iconst dX12_feed_18 (by decide) ?_
    exact g_iret dX12_feed_19
  · refine g_aload_n dX12_feed_20 rfl rfl ?_
    refine g_iload_n dX12_feed_21 rfl rfl ?_
    refine g_callv2 (st := []) 10 mw_X12_lay lk_RX12_237 rfl km_0 (ok_M_lay a1 s1) (Nat.le_of_ble_eq_true rfl) rfl rfl (Nat.le_of_ble_eq_true rfl) dX12_feed_22 ?_
    intro r2 s3
    refine g_aload_n dX12_feed_25 rfl rfl ?_
    refine g_iload_n dX12_feed_26 rfl rfl ?_
    refine g_callv2 (st := []) 10 mw_X12_lay lk_RX12_237 rfl km_0 (ok_M_lay a2 s3) (Nat.le_of_ble_eq_true rfl) rfl rfl (Nat.le_of_ble_eq_true rfl) dX12_feed_27 ?_
    intro r4 s5
    refine g_aload_n dX12_feed_30 rfl rfl ?_
    refine g_iload_n dX12_feed_31 rfl rfl ?_
    refine g_callv2 (st := []) 10 mw_X12_lay lk_RX12_237 rfl km_0 (ok_M_lay a3 s5) (Nat.le_of_ble_eq_true rfl) rfl rfl (Nat.le_of_ble_eq_true rfl) dX12_feed_32 ?_
    intro r6 s7
    refine g_aload_n dX12_feed_35 rfl rfl ?_
    refine g_iload dX12_feed_36 rfl ?_
    refine g_callv2 (st := []) 10 mw_X12_lay lk_RX12_237 rfl km_0 (ok_M_lay a4 s7) (Nat.le_of_ble_eq_true rfl) rfl rfl (Nat.le_of_ble_eq_true rfl) dX12_feed_38 ?_
    intro r8 s9
    refine g_aload_n dX12_feed_41 rfl rfl ?_
    refine g_iload dX12_feed_42 rfl ?_
    refine g_callv2 (st := []) 10 mw_X12_lay lk_RX12_237 rfl km_0 (ok_M_lay a5 s9) (Nat.le_of_ble_eq_true rfl) rfl rfl (Nat.le_of_ble_eq_true rfl) dX12_feed_44 ?_
    intro r10 s11
    refine g_aload_n dX12_feed_47 rfl rfl ?_
    refine g_geti fl_RX12_234 km_0 (by decide) dX12_feed_48 ?_
    exact g_iret dX12_feed_51
theorem dX12_fraction_0 : decode cX12_fraction 0 = .ok (.lload_n 1, 1) := by decide +kernel
theorem dX12_fraction_1 : decode cX12_fraction 1 = .ok (.invokestatic 76, 3) := by decide +kernel
theorem dX12_fraction_4 : decode cX12_fraction 4 = .ok (.lstore 5, 2) := by decide +kernel
theorem dX12_fraction_6 : decode cX12_fraction 6 = .ok (.lload_n 3, 1) := by decide +kernel
theorem dX12_fraction_7 : decode cX12_fraction 7 = .ok (.lstore 7, 2) := by decide +kernel
theorem dX12_fraction_9 : decode cX12_fraction 9 = .ok (.lload 7, 2) := by decide +kernel
theorem dX12_fraction_11 : decode cX12_fraction 11 = .ok (.lconst 0, 1) := by decide +kernel
theorem dX12_fraction_12 : decode cX12_fraction 12 = .ok (.lcmp, 1) := by decide +kernel
theorem dX12_fraction_13 : decode cX12_fraction 13 = .ok (.ifCond .eq 21, 3) := by decide +kernel
theorem dX12_fraction_16 : decode cX12_fraction 16 = .ok (.lload 5, 2) := by decide +kernel
theorem dX12_fraction_18 : decode cX12_fraction 18 = .ok (.lload 7, 2) := by decide +kernel
theorem dX12_fraction_20 : decode cX12_fraction 20 = .ok (.lrem, 1) := by decide +kernel
theorem dX12_fraction_21 : decode cX12_fraction 21 = .ok (.lstore 9, 2) := by decide +kernel
theorem dX12_fraction_23 : decode cX12_fraction 23 = .ok (.lload 7, 2) := by decide +kernel
theorem dX12_fraction_25 : decode cX12_fraction 25 = .ok (.lstore 5, 2) := by decide +kernel
theorem dX12_fraction_27 : decode cX12_fraction 27 = .ok (.lload 9, 2) := by decide +kernel
theorem dX12_fraction_29 : decode cX12_fraction 29 = .ok (.lstore 7, 2) := by decide +kernel
theorem dX12_fraction_31 : decode cX12_fraction 31 = .ok (.goto (-22), 3) := by decide +kernel
theorem dX12_fraction_34 : decode cX12_fraction 34 = .ok (.aload_n 0, 1) := by decide +kernel
theorem dX12_fraction_35 : decode cX12_fraction 35 = .ok (.lload_n 1, 1) := by decide +kernel
theorem dX12_fraction_36 : decode cX12_fraction 36 = .ok (.lload 5, 2) := by decide +kernel
theorem dX12_fraction_38 : decode cX12_fraction 38 = .ok (.ldiv, 1) := by decide +kernel
theorem dX12_fraction_39 : decode cX12_fraction 39 = .ok (.putfield 73, 3) := by decide +kernel
theorem dX12_fraction_42 : decode cX12_fraction 42 = .ok (.aload_n 0, 1) := by decide +kernel
theorem dX12_fraction_43 : decode cX12_fraction 43 = .ok (.lload_n 3, 1) := by decide +kernel
theorem dX12_fraction_44 : decode cX12_fraction 44 = .ok (.lload 5, 2) := by decide +kernel
theorem dX12_fraction_46 : decode cX12_fraction 46 = .ok (.ldiv, 1) := by decide +kernel
theorem dX12_fraction_47 : decode cX12_fraction 47 = .ok (.putfield 7, 3) := by decide +kernel
theorem dX12_fraction_50 : decode cX12_fraction 50 = .ok (.iconst 1, 1) := by decide +kernel
theorem dX12_fraction_51 : decode cX12_fraction 51 = .ok (.ireturn, 1) := by decide +kernel
theorem mw_X12_fraction : MW yX12_fraction cX12_fraction 11 3 2 false := ⟨tm 2351 (by decide +kernel) rfl, tm 249 (by decide +kernel) rfl, by decide, by decide, (by rw [if_neg (by decide)]; exact ⟨tm 2350 (by decide +kernel) rfl, tm 223 (by decide +kernel) rfl⟩)⟩
theorem fl_RX12_73 : FL RX12 73 10 2 := ⟨_, _, _, _, cw_10, by decide, Or.inr (Or.inl (by decide)), Or.inr (by decide), Or.inl (tm 1570 (by decide +kernel) rfl)⟩
theorem mx_RX12_76 : MX RX12 76 Lib.MathLoose.abs_long.x Lib.MathLoose.abs_long.code 2 (some .long) := ⟨tm 2352 (by decide +kernel) rfl, tm 2353 (by decide +kernel) rfl, tm 251 (by decide +kernel) rfl, tm 2354 (by decide +kernel) rfl⟩
def M_fraction_L9 (a1 : Int) (a3 : Int) : Nat → Int → Int → Sg → Rs
  | 0, _, _, _ => none
  | n + 1, v5, v7, σ => (if v7 = 0 then (dv v5 (dv64 a1 v5) (fun x2 => (nm (up_s σ 0 2 x2) (fun s3 => (dv v5 (dv64 a3 v5) (fun x4 => (nm (up_s s3 0 3 x4) (fun s5 => (some (1, s5)))))))))) else (dv v7 (rm64 v5 v7) (fun x6 => (M_fraction_L9 a1 a3 n v7 x6 σ))))
theorem ok_M_fraction_L9 (a1 : Int) (a3 : Int) : ∀ (n : Nat) (v5 v7 : Int) (σ : Sg), G l Km Pm RX12 cX12_fraction 11 3 2 9 [some (.inr (.inr 0)), some (.inr (.inl a1)), none, some (.inr (.inl a3)), none, some (.inr (.inl v5)), none, some (.inr (.inl v7)), none, none, none] [] σ (M_fraction_L9 a1 a3 n v5 v7 σ) := by
  intro n
  induction n with
  | zero => intros; exact G.none_
  | succ n ih =>
    intro v5 v7 σ
    rw [M_fraction_L9]
    refine g_lload dX12_fraction_9 rfl ?_
    refine g_lconst (v := 0) dX12_fraction_11 (by decide) ?_
    refine g_lcmpeq (tgt := 34) dX12_fraction_12 dX12_fraction_13 (by decide) ?_ ?_
    · refine g_aload_n dX12_fraction_34 rfl rfl ?_
      refine g_lload_n dX12_fraction_35 rfl rfl ?_
      refine g_lload dX12_fraction_36 rfl ?_
      refine g_ldiv dX12_fraction_38 ?_
      intro x2
      refine g_putl fl_RX12_73 km_0 (by decide) dX12_fraction_39 ?_
      intro s3
      refine g_aload_n dX12_fraction_42 rfl rfl ?_
      refine g_lload_n dX12_fraction_43 rfl rfl ?_
      refine g_lload dX12_fraction_44 rfl ?_
      refine g_ldiv dX12_fraction_46 ?_
      intro x4
      refine g_putl fl_RX12_7 km_0 (by decide) dX12_fraction_47 ?_
      intro s5
      refine g_iconst dX12_fraction_50 (by decide) ?_
      exact g_zret1 dX12_fraction_51
    · refine g_lload dX12_fraction_16 rfl ?_
      refine g_lload dX12_fraction_18 rfl ?_
      refine g_lrem dX12_fraction_20 ?_
      intro x6
      refine g_lstore (lv' := [some (.inr (.inr 0)), some (.inr (.inl a1)), none, some (.inr (.inl a3)), none, some (.inr (.inl v5)), none, some (.inr (.inl v7)), none, some (.inr (.inl x6)), none]) dX12_fraction_21 (Nat.le_of_ble_eq_true rfl) rfl ?_
      refine g_lload dX12_fraction_23 rfl ?_
      refine g_lstore (lv' := [some (.inr (.inr 0)), some (.inr (.inl a1)), none, some (.inr (.inl a3)), none, some (.inr (.inl v7)), none, some (.inr (.inl v7)), none, some (.inr (.inl x6)), none]) dX12_fraction_25 (Nat.le_of_ble_eq_true rfl) rfl ?_
      refine g_lload dX12_fraction_27 rfl ?_
      refine g_lstore (lv' := [some (.inr (.inr 0)), some (.inr (.inl a1)), none, some (.inr (.inl a3)), none, some (.inr (.inl v7)), none, some (.inr (.inl x6)), none, some (.inr (.inl x6)), none]) dX12_fraction_29 (Nat.le_of_ble_eq_true rfl) rfl ?_
      refine g_goto (tgt := 9) dX12_fraction_31 (by decide) ?_
      exact (g_weak [true, true, false, true, false, true, false, true, false, false, false] (ih v7 x6 σ))
def M_fraction (a1 : Int) (a3 : Int) (σ : Sg) : Rs := (nm (ab64 a1) (fun x1 => (M_fraction_L9 a1 a3 fu x1 a3 σ)))
theorem ok_M_fraction (a1 : Int) (a3 : Int) (σ : Sg) : MC l Km Pm yX12_fraction cX12_fraction 11 3 2 [.inr (.inr 0), .inr (.inl a1), .inr (.inl a3)] σ (M_fraction a1 a3 σ) := by
  refine mc_of (by decide) (Nat.le_of_ble_eq_true rfl) ?_
  change G l Km Pm RX12 cX12_fraction 11 3 2 0 [some (.inr (.inr 0)), some (.inr (.inl a1)), none, some (.inr (.inl a3)), none, none, none, none, none, none, none] [] σ (M_fraction a1 a3 σ)
  unfold M_fraction
  refine g_lload_n dX12_fraction_0 rfl rfl ?_
  refine g_mabs mx_RX12_76 (Nat.le_of_ble_eq_true rfl) (Nat.le_of_ble_eq_true rfl) dX12_fraction_1 ?_
  refine n_lstore (fun x1 => [some (.inr (.inr 0)), some (.inr (.inl a1)), none, some (.inr (.inl a3)), none, some (.inr (.inl x1)), none, none, none, none, none]) dX12_fraction_4 (Nat.le_of_ble_eq_true rfl) (fun _ => rfl) ?_
  intro x1
  refine g_lload_n dX12_fraction_6 rfl rfl ?_
  refine g_lstore (lv' := [some (.inr (.inr 0)), some (.inr (.inl a1)), none, some (.inr (.inl a3)), none, some (.inr (.inl x1)), none, some (.inr (.inl a3)), none, none, none]) dX12_fraction_7 (Nat.le_of_ble_eq_true rfl) rfl ?_
  refine (ok_M_fraction_L9 a1 a3 fu x1 a3 σ)
theorem dX12_laysTurn_0 : decode cX12_laysTurn 0 = .ok (.iconst 0, 1) := by decide +kernel
theorem dX12_laysTurn_1 : decode cX12_laysTurn 1 = .ok (.istore_n 2, 1) := by decide +kernel
theorem dX12_laysTurn_2 : decode cX12_laysTurn 2 = .ok (.iload_n 2, 1) := by decide +kernel
theorem dX12_laysTurn_3 : decode cX12_laysTurn 3 = .ok (.sipush 175, 3) := by decide +kernel
theorem dX12_laysTurn_6 : decode cX12_laysTurn 6 = .ok (.if_icmp .ge 27, 3) := by decide +kernel
theorem dX12_laysTurn_9 : decode cX12_laysTurn 9 = .ok (.aload_n 0, 1) := by decide +kernel
theorem dX12_laysTurn_10 : decode cX12_laysTurn 10 = .ok (.getfield 57, 3) := by decide +kernel
theorem dX12_laysTurn_13 : decode cX12_laysTurn 13 = .ok (.sipush 175, 3) := by decide +kernel
theorem dX12_laysTurn_16 : decode cX12_laysTurn 16 = .ok (.iload_n 1, 1) := by decide +kernel
theorem dX12_laysTurn_17 : decode cX12_laysTurn 17 = .ok (.imul, 1) := by decide +kernel
theorem dX12_laysTurn_18 : decode cX12_laysTurn 18 = .ok (.iload_n 2, 1) := by decide +kernel
theorem dX12_laysTurn_19 : decode cX12_laysTurn 19 = .ok (.iadd, 1) := by decide +kernel
theorem dX12_laysTurn_20 : decode cX12_laysTurn 20 = .ok (.aload_n 0, 1) := by decide +kernel
theorem dX12_laysTurn_21 : decode cX12_laysTurn 21 = .ok (.getfield 35, 3) := by decide +kernel
theorem dX12_laysTurn_24 : decode cX12_laysTurn 24 = .ok (.iload_n 2, 1) := by decide +kernel
theorem dX12_laysTurn_25 : decode cX12_laysTurn 25 = .ok (.iaload, 1) := by decide +kernel
theorem dX12_laysTurn_26 : decode cX12_laysTurn 26 = .ok (.iastore, 1) := by decide +kernel
theorem dX12_laysTurn_27 : decode cX12_laysTurn 27 = .ok (.iinc 2 1, 3) := by decide +kernel
theorem dX12_laysTurn_30 : decode cX12_laysTurn 30 = .ok (.goto (-28), 3) := by decide +kernel
theorem dX12_laysTurn_33 : decode cX12_laysTurn 33 = .ok (.return_, 1) := by decide +kernel
theorem mw_X12_laysTurn : MW yX12_laysTurn cX12_laysTurn 3 2 1 false := ⟨tm 2331 (by decide +kernel) rfl, tm 249 (by decide +kernel) rfl, by decide, by decide, (by rw [if_neg (by decide)]; exact ⟨tm 2330 (by decide +kernel) rfl, tm 220 (by decide +kernel) rfl⟩)⟩
theorem fl_RX12_57 : FL RX12 57 10 32 := ⟨_, _, _, _, cw_10, by decide, Or.inr (Or.inr (Or.inr (by decide))), Or.inl (by decide), Or.inl (tm 1600 (by decide +kernel) rfl)⟩
def M_laysTurn_L2 (a1 : Int) : Nat → Int → Sg → Rs
  | 0, _, _ => none
  | n + 1, v2, σ => (if v2 < 175 then (rd 2235 v2 (σ 5 (Int.toNat v2)) (fun x1 => (wr 700 (w32 ((w32 (175 * a1)) + v2)) (up_s σ 12 (Int.toNat (w32 ((w32 (175 * a1)) + v2))) x1) (fun s2 => (nm (w32 (v2 + 1)) (fun x3 => (M_laysTurn_L2 a1 n x3 s2))))))) else (some (0, σ)))
theorem ok_M_laysTurn_L2 (a1 : Int) : ∀ (n : Nat) (v2 : Int) (σ : Sg), G l Km Pm RX12 cX12_laysTurn 3 2 1 2 [some (.inr (.inr 0)), some (.inl a1), some (.inl v2)] [] σ (M_laysTurn_L2 a1 n v2 σ) := by
  intro n
  induction n with
  | zero => intros; exact G.none_
  | succ n ih =>
    intro v2 σ
    rw [M_laysTurn_L2]
    refine g_iload_n dX12_laysTurn_2 rfl rfl ?_
    refine g_sipush dX12_laysTurn_3 (by decide) ?_
    refine g_icmpge (tgt := 33) dX12_laysTurn_6 (by decide) ?_ ?_
    · refine g_aload_n dX12_laysTurn_9 rfl rfl ?_
      refine g_getr' (q := 12) fl_RX12_57 km_0 (by decide) rfl dX12_laysTurn_10 ?_
      refine g_sipush dX12_laysTurn_13 (by decide) ?_
      refine g_iload_n dX12_laysTurn_16 rfl rfl ?_
      refine g_imul dX12_laysTurn_17 ?_
      refine g_iload_n dX12_laysTurn_18 rfl rfl ?_
      refine g_iadd dX12_laysTurn_19 ?_
      refine g_aload_n dX12_laysTurn_20 rfl rfl ?_
      refine g_getr' (q := 5) fl_RX12_35 km_0 (by decide) rfl dX12_laysTurn_21 ?_
      refine g_iload_n dX12_laysTurn_24 rfl rfl ?_
      refine g_iald km_5 dX12_laysTurn_25 ?_
      intro x1
      refine g_iast km_12 dX12_laysTurn_26 ?_
      intro s2
      refine n_iinc (fun x3 => [some (.inr (.inr 0)), some (.inl a1), some (.inl x3)]) dX12_laysTurn_27 rfl (Nat.le_of_ble_eq_true rfl) (fun _ => rfl) ?_
      intro x3
      refine g_goto (tgt := 2) dX12_laysTurn_30 (by decide) ?_
      exact (ih x3 s2)
    · exact g_vret dX12_laysTurn_33
def M_laysTurn (a1 : Int) (σ : Sg) : Rs := (M_laysTurn_L2 a1 fu 0 σ)
theorem ok_M_laysTurn (a1 : Int) (σ : Sg) : MC l Km Pm yX12_laysTurn cX12_laysTurn 3 2 1 [.inr (.inr 0), .inl a1] σ (M_laysTurn a1 σ) := by
  refine mc_of (by decide) (Nat.le_of_ble_eq_true rfl) ?_
  change G l Km Pm RX12 cX12_laysTurn 3 2 1 0 [some (.inr (.inr 0)), some (.inl a1), none] [] σ (M_laysTurn a1 σ)
  unfold M_laysTurn
  refine g_iconst dX12_laysTurn_0 (by decide) ?_
  refine g_istore_n (lv' := [some (.inr (.inr 0)), some (.inl a1), some (.inl 0)]) dX12_laysTurn_1 rfl (Nat.le_of_ble_eq_true rfl) rfl ?_
  refine (ok_M_laysTurn_L2 a1 fu 0 σ)
theorem dX12_takesTurn_0 : decode cX12_takesTurn 0 = .ok (.iconst 0, 1) := by decide +kernel
theorem dX12_takesTurn_1 : decode cX12_takesTurn 1 = .ok (.istore_n 2, 1) := by decide +kernel
theorem dX12_takesTurn_2 : decode cX12_takesTurn 2 = .ok (.iload_n 2, 1) := by decide +kernel
theorem dX12_takesTurn_3 : decode cX12_takesTurn 3 = .ok (.sipush 175, 3) := by decide +kernel
theorem dX12_takesTurn_6 : decode cX12_takesTurn 6 = .ok (.if_icmp .ge 27, 3) := by decide +kernel
theorem dX12_takesTurn_9 : decode cX12_takesTurn 9 = .ok (.aload_n 0, 1) := by decide +kernel
theorem dX12_takesTurn_10 : decode cX12_takesTurn 10 = .ok (.getfield 35, 3) := by decide +kernel
theorem dX12_takesTurn_13 : decode cX12_takesTurn 13 = .ok (.iload_n 2, 1) := by decide +kernel
theorem dX12_takesTurn_14 : decode cX12_takesTurn 14 = .ok (.aload_n 0, 1) := by decide +kernel
theorem dX12_takesTurn_15 : decode cX12_takesTurn 15 = .ok (.getfield 57, 3) := by decide +kernel
theorem dX12_takesTurn_18 : decode cX12_takesTurn 18 = .ok (.sipush 175, 3) := by decide +kernel
theorem dX12_takesTurn_21 : decode cX12_takesTurn 21 = .ok (.iload_n 1, 1) := by decide +kernel
theorem dX12_takesTurn_22 : decode cX12_takesTurn 22 = .ok (.imul, 1) := by decide +kernel
theorem dX12_takesTurn_23 : decode cX12_takesTurn 23 = .ok (.iload_n 2, 1) := by decide +kernel
theorem dX12_takesTurn_24 : decode cX12_takesTurn 24 = .ok (.iadd, 1) := by decide +kernel
theorem dX12_takesTurn_25 : decode cX12_takesTurn 25 = .ok (.iaload, 1) := by decide +kernel
theorem dX12_takesTurn_26 : decode cX12_takesTurn 26 = .ok (.iastore, 1) := by decide +kernel
theorem dX12_takesTurn_27 : decode cX12_takesTurn 27 = .ok (.iinc 2 1, 3) := by decide +kernel
theorem dX12_takesTurn_30 : decode cX12_takesTurn 30 = .ok (.goto (-28), 3) := by decide +kernel
theorem dX12_takesTurn_33 : decode cX12_takesTurn 33 = .ok (.return_, 1) := by decide +kernel
theorem mw_X12_takesTurn : MW yX12_takesTurn cX12_takesTurn 3 2 1 false := ⟨tm 2335 (by decide +kernel) rfl, tm 249 (by decide +kernel) rfl, by decide, by decide, (by rw [if_neg (by decide)]; exact ⟨tm 2334 (by decide +kernel) rfl, tm 221 (by decide +kernel) rfl⟩)⟩
def M_takesTurn_L2 (a1 : Int) : Nat → Int → Sg → Rs
  | 0, _, _ => none
  | n + 1, v2, σ => (if v2 < 175 then (rd 700 (w32 ((w32 (175 * a1)) + v2)) (σ 12 (Int.toNat (w32 ((w32 (175 * a1)) + v2)))) (fun x1 => (wr 2235 v2 (up_s σ 5 (Int.toNat v2) x1) (fun s2 => (nm (w32 (v2 + 1)) (fun x3 => (M_takesTurn_L2 a1 n x3 s2))))))) else (some (0, σ)))
theorem ok_M_takesTurn_L2 (a1 : Int) : ∀ (n : Nat) (v2 : Int) (σ : Sg), G l Km Pm RX12 cX12_takesTurn 3 2 1 2 [some (.inr (.inr 0)), some (.inl a1), some (.inl v2)] [] σ (M_takesTurn_L2 a1 n v2 σ) := by
  intro n
  induction n with
  | zero => intros; exact G.none_
  | succ n ih =>
    intro v2 σ
    rw [M_takesTurn_L2]
    refine g_iload_n dX12_takesTurn_2 rfl rfl ?_
    refine g_sipush dX12_takesTurn_3 (by decide) ?_
    refine g_icmpge (tgt := 33) dX12_takesTurn_6 (by decide) ?_ ?_
    · refine g_aload_n dX12_takesTurn_9 rfl rfl ?_
      refine g_getr' (q := 5) fl_RX12_35 km_0 (by decide) rfl dX12_takesTurn_10 ?_
      refine g_iload_n dX12_takesTurn_13 rfl rfl ?_
      refine g_aload_n dX12_takesTurn_14 rfl rfl ?_
      refine g_getr' (q := 12) fl_RX12_57 km_0 (by decide) rfl dX12_takesTurn_15 ?_
      refine g_sipush dX12_takesTurn_18 (by decide) ?_
      refine g_iload_n dX12_takesTurn_21 rfl rfl ?_
      refine g_imul dX12_takesTurn_22 ?_
      refine g_iload_n dX12_takesTurn_23 rfl rfl ?_
      refine g_iadd dX12_takesTurn_24 ?_
      refine g_iald km_12 dX12_takesTurn_25 ?_
      intro x1
      refine g_iast km_5 dX12_takesTurn_26 ?_
      intro s2
      refine n_iinc (fun x3 => [some (.inr (.inr 0)), some (.inl a1), some (.inl x3)]) dX12_takesTurn_27 rfl (Nat.le_of_ble_eq_true rfl) (fun _ => rfl) ?_
      intro x3
      refine g_goto (tgt := 2) dX12_takesTurn_30 (by decide) ?_
      exact (ih x3 s2)
    · exact g_vret dX12_takesTurn_33
def M_takesTurn (a1 : Int) (σ : Sg) : Rs := (M_takesTurn_L2 a1 fu 0 σ)
theorem ok_M_takesTurn (a1 : Int) (σ : Sg) : MC l Km Pm yX12_takesTurn cX12_takesTurn 3 2 1 [.inr (.inr 0), .inl a1] σ (M_takesTurn a1 σ) := by
  refine mc_of (by decide) (Nat.le_of_ble_eq_true rfl) ?_
  change G l Km Pm RX12 cX12_takesTurn 3 2 1 0 [some (.inr (.inr 0)), some (.inl a1), none] [] σ (M_takesTurn a1 σ)
  unfold M_takesTurn
  refine g_iconst dX12_takesTurn_0 (by decide) ?_
  refine g_istore_n (lv' := [some (.inr (.inr 0)), some (.inl a1), some (.inl 0)]) dX12_takesTurn_1 rfl (Nat.le_of_ble_eq_true rfl) rfl ?_
  refine (ok_M_takesTurn_L2 a1 fu 0 σ)
theorem dX12_plays_0 : decode cX12_plays 0 = .ok (.iload_n 3, 1) := by decide +kernel
theorem dX12_plays_1 : decode cX12_plays 1 = .ok (.iload 4, 2) := by decide +kernel
theorem dX12_plays_3 : decode cX12_plays 3 = .ok (.if_icmp .ne 15, 3) := by decide +kernel
theorem dX12_plays_6 : decode cX12_plays 6 = .ok (.aload_n 0, 1) := by decide +kernel
theorem dX12_plays_7 : decode cX12_plays 7 = .ok (.iload_n 2, 1) := by decide +kernel
theorem dX12_plays_8 : decode cX12_plays 8 = .ok (.invokevirtual 320, 3) := by decide +kernel
theorem dX12_plays_11 : decode cX12_plays 11 = .ok (.aload_n 0, 1) := by decide +kernel
theorem dX12_plays_12 : decode cX12_plays 12 = .ok (.iload_n 1, 1) := by decide +kernel
theorem dX12_plays_13 : decode cX12_plays 13 = .ok (.invokevirtual 320, 3) := by decide +kernel
theorem dX12_plays_16 : decode cX12_plays 16 = .ok (.isub, 1) := by decide +kernel
theorem dX12_plays_17 : decode cX12_plays 17 = .ok (.ireturn, 1) := by decide +kernel
theorem dX12_plays_18 : decode cX12_plays 18 = .ok (.iload_n 3, 1) := by decide +kernel
theorem dX12_plays_19 : decode cX12_plays 19 = .ok (.iconst 2, 1) := by decide +kernel
theorem dX12_plays_20 : decode cX12_plays 20 = .ok (.irem, 1) := by decide +kernel
theorem dX12_plays_21 : decode cX12_plays 21 = .ok (.ifCond .ne 7, 3) := by decide +kernel
theorem dX12_plays_24 : decode cX12_plays 24 = .ok (.iconst 1, 1) := by decide +kernel
theorem dX12_plays_25 : decode cX12_plays 25 = .ok (.goto 4, 3) := by decide +kernel
theorem dX12_plays_28 : decode cX12_plays 28 = .ok (.iconst 0, 1) := by decide +kernel
theorem dX12_plays_29 : decode cX12_plays 29 = .ok (.istore 5, 2) := by decide +kernel
theorem dX12_plays_31 : decode cX12_plays 31 = .ok (.iload 5, 2) := by decide +kernel
theorem dX12_plays_33 : decode cX12_plays 33 = .ok (.ifCond .eq 7, 3) := by decide +kernel
theorem dX12_plays_36 : decode cX12_plays 36 = .ok (.iload_n 1, 1) := by decide +kernel
theorem dX12_plays_37 : decode cX12_plays 37 = .ok (.goto 4, 3) := by decide +kernel
theorem dX12_plays_40 : decode cX12_plays 40 = .ok (.iload_n 2, 1) := by decide +kernel
theorem dX12_plays_41 : decode cX12_plays 41 = .ok (.istore 6, 2) := by decide +kernel
theorem dX12_plays_43 : decode cX12_plays 43 = .ok (.iload 5, 2) := by decide +kernel
theorem dX12_plays_45 : decode cX12_plays 45 = .ok (.ifCond .eq 7, 3) := by decide +kernel
theorem dX12_plays_48 : decode cX12_plays 48 = .ok (.iload_n 2, 1) := by decide +kernel
theorem dX12_plays_49 : decode cX12_plays 49 = .ok (.goto 4, 3) := by decide +kernel
theorem dX12_plays_52 : decode cX12_plays 52 = .ok (.iload_n 1, 1) := by decide +kernel
theorem dX12_plays_53 : decode cX12_plays 53 = .ok (.istore 7, 2) := by decide +kernel
theorem dX12_plays_55 : decode cX12_plays 55 = .ok (.iconst 0, 1) := by decide +kernel
theorem dX12_plays_56 : decode cX12_plays 56 = .ok (.istore 8, 2) := by decide +kernel
theorem dX12_plays_58 : decode cX12_plays 58 = .ok (.iconst (-1), 1) := by decide +kernel
theorem dX12_plays_59 : decode cX12_plays 59 = .ok (.istore 9, 2) := by decide +kernel
theorem dX12_plays_61 : decode cX12_plays 61 = .ok (.aload_n 0, 1) := by decide +kernel
theorem dX12_plays_62 : decode cX12_plays 62 = .ok (.iload_n 3, 1) := by decide +kernel
theorem dX12_plays_63 : decode cX12_plays 63 = .ok (.invokevirtual 494, 3) := by decide +kernel
theorem dX12_plays_66 : decode cX12_plays 66 = .ok (.iconst 0, 1) := by decide +kernel
theorem dX12_plays_67 : decode cX12_plays 67 = .ok (.istore 10, 2) := by decide +kernel
theorem dX12_plays_69 : decode cX12_plays 69 = .ok (.iload 10, 2) := by decide +kernel
theorem dX12_plays_71 : decode cX12_plays 71 = .ok (.aload_n 0, 1) := by decide +kernel
theorem dX12_plays_72 : decode cX12_plays 72 = .ok (.getfield 35, 3) := by decide +kernel
theorem dX12_plays_75 : decode cX12_plays 75 = .ok (.iconst 0, 1) := by decide +kernel
theorem dX12_plays_76 : decode cX12_plays 76 = .ok (.iaload, 1) := by decide +kernel
theorem dX12_plays_77 : decode cX12_plays 77 = .ok (.if_icmp .gt 127, 3) := by decide +kernel
theorem dX12_plays_80 : decode cX12_plays 80 = .ok (.iload 10, 2) := by decide +kernel
theorem dX12_plays_82 : decode cX12_plays 82 = .ok (.aload_n 0, 1) := by decide +kernel
theorem dX12_plays_83 : decode cX12_plays 83 = .ok (.getfield 35, 3) := by decide +kernel
theorem dX12_plays_86 : decode cX12_plays 86 = .ok (.iconst 0, 1) := by decide +kernel
theorem dX12_plays_87 : decode cX12_plays 87 = .ok (.iaload, 1) := by decide +kernel
theorem dX12_plays_88 : decode cX12_plays 88 = .ok (.if_icmp .ne 7, 3) := by decide +kernel
theorem dX12_plays_91 : decode cX12_plays 91 = .ok (.iconst 1, 1) := by decide +kernel
theorem dX12_plays_92 : decode cX12_plays 92 = .ok (.goto 4, 3) := by decide +kernel
theorem dX12_plays_95 : decode cX12_plays 95 = .ok (.iconst 0, 1) := by decide +kernel
theorem dX12_plays_96 : decode cX12_plays 96 = .ok (.istore 11, 2) := by decide +kernel
theorem dX12_plays_98 : decode cX12_plays 98 = .ok (.iload 11, 2) := by decide +kernel
theorem dX12_plays_100 : decode cX12_plays 100 = .ok (.ifCond .ne 19, 3) := by decide +kernel
theorem dX12_plays_103 : decode cX12_plays 103 = .ok (.aload_n 0, 1) := by decide +kernel
theorem dX12_plays_104 : decode cX12_plays 104 = .ok (.iload 6, 2) := by decide +kernel
theorem dX12_plays_106 : decode cX12_plays 106 = .ok (.iload 10, 2) := by decide +kernel
theorem dX12_plays_108 : decode cX12_plays 108 = .ok (.iload 7, 2) := by decide +kernel
theorem dX12_plays_110 : decode cX12_plays 110 = .ok (.invokevirtual 369, 3) := by decide +kernel
theorem dX12_plays_113 : decode cX12_plays 113 = .ok (.ifCond .ne 6, 3) := by decide +kernel
theorem dX12_plays_116 : decode cX12_plays 116 = .ok (.goto 82, 3) := by decide +kernel
theorem dX12_plays_119 : decode cX12_plays 119 = .ok (.iload 11, 2) := by decide +kernel
theorem dX12_plays_121 : decode cX12_plays 121 = .ok (.ifCond .ne 11, 3) := by decide +kernel
theorem dX12_plays_124 : decode cX12_plays 124 = .ok (.aload_n 0, 1) := by decide +kernel
theorem dX12_plays_125 : decode cX12_plays 125 = .ok (.iload 7, 2) := by decide +kernel
theorem dX12_plays_127 : decode cX12_plays 127 = .ok (.iload 10, 2) := by decide +kernel
theorem dX12_plays_129 : decode cX12_plays 129 = .ok (.invokevirtual 384, 3) := by decide +kernel
theorem dX12_plays_132 : decode cX12_plays 132 = .ok (.aload_n 0, 1) := by decide +kernel
theorem dX12_plays_133 : decode cX12_plays 133 = .ok (.iload_n 1, 1) := by decide +kernel
theorem dX12_plays_134 : decode cX12_plays 134 = .ok (.invokevirtual 373, 3) := by decide +kernel
theorem dX12_plays_137 : decode cX12_plays 137 = .ok (.aload_n 0, 1) := by decide +kernel
theorem dX12_plays_138 : decode cX12_plays 138 = .ok (.iload_n 2, 1) := by decide +kernel
theorem dX12_plays_139 : decode cX12_plays 139 = .ok (.invokevirtual 373, 3) := by decide +kernel
theorem dX12_plays_142 : decode cX12_plays 142 = .ok (.aload_n 0, 1) := by decide +kernel
theorem dX12_plays_143 : decode cX12_plays 143 = .ok (.iload_n 1, 1) := by decide +kernel
theorem dX12_plays_144 : decode cX12_plays 144 = .ok (.iload_n 2, 1) := by decide +kernel
theorem dX12_plays_145 : decode cX12_plays 145 = .ok (.iload_n 3, 1) := by decide +kernel
theorem dX12_plays_146 : decode cX12_plays 146 = .ok (.iconst 1, 1) := by decide +kernel
theorem dX12_plays_147 : decode cX12_plays 147 = .ok (.iadd, 1) := by decide +kernel
theorem dX12_plays_148 : decode cX12_plays 148 = .ok (.iload 4, 2) := by decide +kernel
theorem dX12_plays_150 : decode cX12_plays 150 = .ok (.invokevirtual 497, 3) := by decide +kernel
theorem dX12_plays_153 : decode cX12_plays 153 = .ok (.istore 12, 2) := by decide +kernel
theorem dX12_plays_155 : decode cX12_plays 155 = .ok (.aload_n 0, 1) := by decide +kernel
theorem dX12_plays_156 : decode cX12_plays 156 = .ok (.iload_n 3, 1) := by decide +kernel
theorem dX12_plays_157 : decode cX12_plays 157 = .ok (.invokevirtual 501, 3) := by decide +kernel
theorem dX12_plays_160 : decode cX12_plays 160 = .ok (.iload 9, 2) := by decide +kernel
theorem dX12_plays_162 : decode cX12_plays 162 = .ok (.ifCond .lt 28, 3) := by decide +kernel
theorem dX12_plays_165 : decode cX12_plays 165 = .ok (.iload 5, 2) := by decide +kernel
theorem dX12_plays_167 : decode cX12_plays 167 = .ok (.ifCond .eq 13, 3) := by decide +kernel
theorem dX12_plays_170 : decode cX12_plays 170 = .ok (.iload 12, 2) := by decide +kernel
theorem dX12_plays_172 : decode cX12_plays 172 = .ok (.iload 8, 2) := by decide +kernel
theorem dX12_plays_174 : decode cX12_plays 174 = .ok (.if_icmp .gt 16, 3) := by decide +kernel
theorem dX12_plays_177 : decode cX12_plays 177 = .ok (.goto 21, 3) := by decide +kernel
theorem dX12_plays_180 : decode cX12_plays 180 = .ok (.iload 12, 2) := by decide +kernel
theorem dX12_plays_182 : decode cX12_plays 182 = .ok (.iload 8, 2) := by decide +kernel
theorem dX12_plays_184 : decode cX12_plays 184 = .ok (.if_icmp .lt 6, 3) := by decide +kernel
theorem dX12_plays_187 : decode cX12_plays 187 = .ok (.goto 11, 3) := by decide +kernel
theorem dX12_plays_190 : decode cX12_plays 190 = .ok (.iload 12, 2) := by decide +kernel
theorem dX12_plays_192 : decode cX12_plays 192 = .ok (.istore 8, 2) := by decide +kernel
theorem dX12_plays_194 : decode cX12_plays 194 = .ok (.iload 10, 2) := by decide +kernel
theorem dX12_plays_196 : decode cX12_plays 196 = .ok (.istore 9, 2) := by decide +kernel
theorem dX12_plays_198 : decode cX12_plays 198 = .ok (.iinc 10 1, 3) := by decide +kernel
theorem dX12_plays_201 : decode cX12_plays 201 = .ok (.goto (-132), 3) := by decide +kernel
theorem dX12_plays_204 : decode cX12_plays 204 = .ok (.iload_n 3, 1) := by decide +kernel
theorem dX12_plays_205 : decode cX12_plays 205 = .ok (.ifCond .ne 9, 3) := by decide +kernel
theorem dX12_plays_208 : decode cX12_plays 208 = .ok (.aload_n 0, 1) := by decide +kernel
theorem dX12_plays_209 : decode cX12_plays 209 = .ok (.iload 9, 2) := by decide +kernel
theorem dX12_plays_211 : decode cX12_plays 211 = .ok (.putfield 504, 3) := by decide +kernel
theorem dX12_plays_214 : decode cX12_plays 214 = .ok (.iload 8, 2) := by decide +kernel
theorem dX12_plays_216 : decode cX12_plays 216 = .ok (.ireturn, 1) := by decide +kernel
theorem mw_X12_plays : MW yX12_plays cX12_plays 13 0 4 false := ⟨tm 2327 (by decide +kernel) rfl, tm 249 (by decide +kernel) rfl, by decide, by decide, (by rw [if_neg (by decide)]; exact ⟨tm 2326 (by decide +kernel) rfl, tm 219 (by decide +kernel) rfl⟩)⟩
theorem lk_RX12_494 : LK RX12 494 yX12_laysTurn := Or.inl (tm 2328 (by decide +kernel) rfl)
theorem lk_RX12_497 : LK RX12 497 yX12_plays := Or.inl (tm 2324 (by decide +kernel) rfl)
theorem lk_RX12_501 : LK RX12 501 yX12_takesTurn := Or.inl (tm 2332 (by decide +kernel) rfl)
theorem fl_RX12_504 : FL RX12 504 10 33 := ⟨_, _, _, _, cw_10, by decide, Or.inl (by decide), Or.inr (by decide), Or.inl (tm 1601 (by decide +kernel) rfl)⟩
def M_plays_J132 (rc : Int → Int → Int → Int → Sg → Rs) (a1 : Int) (a2 : Int) (a3 : Int) (a4 : Int) (v5 : Int) (v6 : Int) (v7 : Int) (v8 : Int) (v9 : Int) (v10 : Int) (k69 : Int → Int → Int → Sg → Rs) (σ : Sg) : Rs := (bd (M_grows a1 σ) (fun r15 s16 => (bd (M_grows a2 s16) (fun r17 s18 => (bd (rc a1 a2 (w32 (a3 + 1)) a4 s18) (fun r19 s20 => (bd (M_takesTurn a3 s20) (fun r21 s22 => (if v9 < 0 then (nm (w32 (v10 + 1)) (fun x23 => (k69 r19 v10 x23 s22))) else (if v5 = 0 then (if r19 < v8 then (nm (w32 (v10 + 1)) (fun x24 => (k69 r19 v10 x24 s22))) else (nm (w32 (v10 + 1)) (fun x25 => (k69 v8 v9 x25 s22)))) else (if v8 < r19 then (nm (w32 (v10 + 1)) (fun x26 => (k69 r19 v10 x26 s22))) else (nm (w32 (v10 + 1)) (fun x27 => (k69 v8 v9 x27 s22))))))))))))))
theorem ok_M_plays_J132 (rc : Int → Int → Int → Int → Sg → Rs) (dr dd : Nat) (hrc : ∀ (a1 : Int) (a2 : Int) (a3 : Int) (a4 : Int) (σ : Sg), MC l Km Pm yX12_plays cX12_plays 13 0 dr [.inr (.inr 0), .inl a1, .inl a2, .inl a3, .inl a4] σ (rc a1 a2 a3 a4 σ)) (hd : dr < dd) (hB : 4 ≤ dd) (a1 : Int) (a2 : Int) (a3 : Int) (a4 : Int) (v5 : Int) (v6 : Int) (v7 : Int) (v8 : Int) (v9 : Int) (v10 : Int) (k69 : Int → Int → Int → Sg → Rs) (hk69 : ∀ (y8 y9 y10 : Int) (σ : Sg), G l Km Pm RX12 cX12_plays 13 0 dd 69 [some (.inr (.inr 0)), some (.inl a1), some (.inl a2), some (.inl a3), some (.inl a4), some (.inl v5), some (.inl v6), some (.inl v7), some (.inl y8), some (.inl y9), some (.inl y10), none, none] [] σ (k69 y8 y9 y10 σ)) : ∀ (σ : Sg), G l Km Pm RX12 cX12_plays 13 0 dd 132 [some (.inr (.inr 0)), some (.inl a1), some (.inl a2), some (.inl a3), some (.inl a4), some (.inl v5), some (.inl v6), some (.inl v7), some (.inl v8), some (.inl v9), some (.inl v10), none, none] [] σ (M_plays_J132 rc a1 a2 a3 a4 v5 v6 v7 v8 v9 v10 k69  σ) := by
  intro σ
  unfold M_plays_J132
  refine g_aload_n dX12_plays_132 rfl rfl ?_
  refine g_iload_n dX12_plays_133 rfl rfl ?_
  refine g_callv2 (st := []) 10 mw_X12_grows lk_RX12_373 rfl km_0 (ok_M_grows a1 σ) (Nat.lt_of_lt_of_le (Nat.le_of_ble_eq_true rfl) hB) rfl rfl (Nat.le_of_ble_eq_true rfl) dX12_plays_134 ?_
  intro r15 s16
  refine g_aload_n dX12_plays_137 rfl rfl ?_
  refine g_iload_n dX12_plays_138 rfl rfl ?_
  refine g_callv2 (st := []) 10 mw_X12_grows lk_RX12_373 rfl km_0 (ok_M_grows a2 s16) (Nat.lt_of_lt_of_le (Nat.le_of_ble_eq_true rfl) hB) rfl rfl (Nat.le_of_ble_eq_true rfl) dX12_plays_139 ?_
  intro r17 s18
  refine g_aload_n dX12_plays_142 rfl rfl ?_
  refine g_iload_n dX12_plays_143 rfl rfl ?_
  refine g_iload_n dX12_plays_144 rfl rfl ?_
  refine g_iload_n dX12_plays_145 rfl rfl ?_
  refine g_iconst dX12_plays_146 (by decide) ?_
  refine g_iadd dX12_plays_147 ?_
  refine g_iload dX12_plays_148 rfl ?_
  refine g_callv0 (st := []) 10 mw_X12_plays lk_RX12_497 rfl km_0 (hrc a1 a2 (w32 (a3 + 1)) a4 s18) hd rfl rfl (Nat.le_of_ble_eq_true rfl) dX12_plays_150 ?_
  intro r19 s20
  refine g_istore (lv' := [some (.inr (.inr 0)), some (.inl a1), some (.inl a2), some (.inl a3), some (.inl a4), some (.inl v5), some (.inl v6), some (.inl v7), some (.inl v8), some (.inl v9), some (.inl v10), none, some (.inl r19)]) dX12_plays_153 (Nat.le_of_ble_eq_true rfl) rfl ?_
  refine g_aload_n dX12_plays_155 rfl rfl ?_
  refine g_iload_n dX12_plays_156 rfl rfl ?_
  refine g_callv2 (st := []) 10 mw_X12_takesTurn lk_RX12_501 rfl km_0 (ok_M_takesTurn a3 s20) (Nat.lt_of_lt_of_le (Nat.le_of_ble_eq_true rfl) hB) rfl rfl (Nat.le_of_ble_eq_true rfl) dX12_plays_157 ?_
  intro r21 s22
  refine g_iload dX12_plays_160 rfl ?_
  refine g_iflt (tgt := 190) dX12_plays_162 (by decide) ?_ ?_
  · refine g_iload dX12_plays_190 rfl ?_
    refine g_istore (lv' := [some (.inr (.inr 0)), some (.inl a1), some (.inl a2), some (.inl a3), some (.inl a4), some (.inl v5), some (.inl v6), some (.inl v7), some (.inl r19), some (.inl v9), some (.inl v10), none, some (.inl r19)]) dX12_plays_192 (Nat.le_of_ble_eq_true rfl) rfl ?_
    refine g_iload dX12_plays_194 rfl ?_
    refine g_istore (lv' := [some (.inr (.inr 0)), some (.inl a1), some (.inl a2), some (.inl a3), some (.inl a4), some (.inl v5), some (.inl v6), some (.inl v7), some (.inl r19), some (.inl v10), some (.inl v10), none, some (.inl r19)]) dX12_plays_196 (Nat.le_of_ble_eq_true rfl) rfl ?_
    refine n_iinc (fun x23 => [some (.inr (.inr 0)), some (.inl a1), some (.inl a2), some (.inl a3), some (.inl a4), some (.inl v5), some (.inl v6), some (.inl v7), some (.inl r19), some (.inl v10), some (.inl x23), none, some (.inl r19)]) dX12_plays_198 rfl (Nat.le_of_ble_eq_true rfl) (fun _ => rfl) ?_
    intro x23
    refine g_goto (tgt := 69) dX12_plays_201 (by decide) ?_
    exact (g_weak [true, true, true, true, true, true, true, true, true, true, true, false, false] (hk69 r19 v10 x23 s22))
  · refine g_iload dX12_plays_165 rfl ?_
    refine g_ifeq (tgt := 180) dX12_plays_167 (by decide) ?_ ?_
    · refine g_iload dX12_plays_180 rfl ?_
      refine g_iload dX12_plays_182 rfl ?_
      refine g_icmplt (tgt := 190) dX12_plays_184 (by decide) ?_ ?_
      · refine g_iload dX12_plays_190 rfl ?_
        refine g_istore (lv' := [some (.inr (.inr 0)), some (.inl a1), some (.inl a2), some (.inl a3), some (.inl a4), some (.inl v5), some (.inl v6), some (.inl v7), some (.inl r19), some (.inl v9), some (.inl v10), none, some (.inl r19)]) dX12_plays_192 (Nat.le_of_ble_eq_true rfl) rfl ?_
        refine g_iload dX12_plays_194 rfl ?_
        refine g_istore (lv' := [some (.inr (.inr 0)), some (.inl a1), some (.inl a2), some (.inl a3), some (.inl a4), some (.inl v5), some (.inl v6), some (.inl v7), some (.inl r19), some (.inl v10), some (.inl v10), none, some (.inl r19)]) dX12_plays_196 (Nat.le_of_ble_eq_true rfl) rfl ?_
        refine n_iinc (fun x24 => [some (.inr (.inr 0)), some (.inl a1), some (.inl a2), some (.inl a3), some (.inl a4), some (.inl v5), some (.inl v6), some (.inl v7), some (.inl r19), some (.inl v10), some (.inl x24), none, some (.inl r19)]) dX12_plays_198 rfl (Nat.le_of_ble_eq_true rfl) (fun _ => rfl) ?_
        intro x24
        refine g_goto (tgt := 69) dX12_plays_201 (by decide) ?_
        exact (g_weak [true, true, true, true, true, true, true, true, true, true, true, false, false] (hk69 r19 v10 x24 s22))
      · refine g_goto (tgt := 198) dX12_plays_187 (by decide) ?_
        refine n_iinc (fun x25 => [some (.inr (.inr 0)), some (.inl a1), some (.inl a2), some (.inl a3), some (.inl a4), some (.inl v5), some (.inl v6), some (.inl v7), some (.inl v8), some (.inl v9), some (.inl x25), none, some (.inl r19)]) dX12_plays_198 rfl (Nat.le_of_ble_eq_true rfl) (fun _ => rfl) ?_
        intro x25
        refine g_goto (tgt := 69) dX12_plays_201 (by decide) ?_
        exact (g_weak [true, true, true, true, true, true, true, true, true, true, true, false, false] (hk69 v8 v9 x25 s22))
    · refine g_iload dX12_plays_170 rfl ?_
      refine g_iload dX12_plays_172 rfl ?_
      refine g_icmpgt (tgt := 190) dX12_plays_174 (by decide) ?_ ?_
      · refine g_iload dX12_plays_190 rfl ?_
        refine g_istore (lv' := [some (.inr (.inr 0)), some (.inl a1), some (.inl a2), some (.inl a3), some (.inl a4), some (.inl v5), some (.inl v6), some (.inl v7), some (.inl r19), some (.inl v9), some (.inl v10), none, some (.inl r19)]) dX12_plays_192 (Nat.le_of_ble_eq_true rfl) rfl ?_
        refine g_iload dX12_plays_194 rfl ?_
        refine g_istore (lv' := [some (.inr (.inr 0)), some (.inl a1), some (.inl a2), some (.inl a3), some (.inl a4), some (.inl v5), some (.inl v6), some (.inl v7), some (.inl r19), some (.inl v10), some (.inl v10), none, some (.inl r19)]) dX12_plays_196 (Nat.le_of_ble_eq_true rfl) rfl ?_
        refine n_iinc (fun x26 => [some (.inr (.inr 0)), some (.inl a1), some (.inl a2), some (.inl a3), some (.inl a4), some (.inl v5), some (.inl v6), some (.inl v7), some (.inl r19), some (.inl v10), some (.inl x26), none, some (.inl r19)]) dX12_plays_198 rfl (Nat.le_of_ble_eq_true rfl) (fun _ => rfl) ?_
        intro x26
        refine g_goto (tgt := 69) dX12_plays_201 (by decide) ?_
        exact (g_weak [true, true, true, true, true, true, true, true, true, true, true, false, false] (hk69 r19 v10 x26 s22))
      · refine g_goto (tgt := 198) dX12_plays_177 (by decide) ?_
        refine n_iinc (fun x27 => [some (.inr (.inr 0)), some (.inl a1), some (.inl a2), some (.inl a3), some (.inl a4), some (.inl v5), some (.inl v6), some (.inl v7), some (.inl v8), some (.inl v9), some (.inl x27), none, some (.inl r19)]) dX12_plays_198 rfl (Nat.le_of_ble_eq_true rfl) (fun _ => rfl) ?_
        intro x27
        refine g_goto (tgt := 69) dX12_plays_201 (by decide) ?_
        exact (g_weak [true, true, true, true, true, true, true, true, true, true, true, false, false] (hk69 v8 v9 x27 s22))
def M_plays_J119 (rc : Int → Int → Int → Int → Sg → Rs) (a1 : Int) (a2 : Int) (a3 : Int) (a4 : Int) (v5 : Int) (v6 : Int) (v7 : Int) (v8 : Int) (v9 : Int) (v10 : Int) (v11 : Int) (k69 : Int → Int → Int → Sg → Rs) (σ : Sg) : Rs := (if v11 = 0 then (bd (M_strandIs v7 v10 σ) (fun r13 s14 => (M_plays_J132 rc a1 a2 a3 a4 v5 v6 v7 v8 v9 v10 (fun x28 x29 x30 s31 => (k69 x28 x29 x30 s31)) s14))) else (M_plays_J132 rc a1 a2 a3 a4 v5 v6 v7 v8 v9 v10 (fun x32 x33 x34 s35 => (k69 x32 x33 x34 s35)) σ))
theorem ok_M_plays_J119 (rc : Int → Int → Int → Int → Sg → Rs) (dr dd : Nat) (hrc : ∀ (a1 : Int) (a2 : Int) (a3 : Int) (a4 : Int) (σ : Sg), MC l Km Pm yX12_plays cX12_plays 13 0 dr [.inr (.inr 0), .inl a1, .inl a2, .inl a3, .inl a4] σ (rc a1 a2 a3 a4 σ)) (hd : dr < dd) (hB : 4 ≤ dd) (a1 : Int) (a2 : Int) (a3 : Int) (a4 : Int) (v5 : Int) (v6 : Int) (v7 : Int) (v8 : Int) (v9 : Int) (v10 : Int) (v11 : Int) (k69 : Int → Int → Int → Sg → Rs) (hk69 : ∀ (y8 y9 y10 : Int) (σ : Sg), G l Km Pm RX12 cX12_plays 13 0 dd 69 [some (.inr (.inr 0)), some (.inl a1), some (.inl a2), some (.inl a3), some (.inl a4), some (.inl v5), some (.inl v6), some (.inl v7), some (.inl y8), some (.inl y9), some (.inl y10), none, none] [] σ (k69 y8 y9 y10 σ)) : ∀ (σ : Sg), G l Km Pm RX12 cX12_plays 13 0 dd 119 [some (.inr (.inr 0)), some (.inl a1), some (.inl a2), some (.inl a3), some (.inl a4), some (.inl v5), some (.inl v6), some (.inl v7), some (.inl v8), some (.inl v9), some (.inl v10), some (.inl v11), none] [] σ (M_plays_J119 rc a1 a2 a3 a4 v5 v6 v7 v8 v9 v10 v11 k69  σ) := by
  intro σ
  unfold M_plays_J119
  refine g_iload dX12_plays_119 rfl ?_
  refine g_ifne (tgt := 132) dX12_plays_121 (by decide) ?_ ?_
  · refine g_aload_n dX12_plays_124 rfl rfl ?_
    refine g_iload dX12_plays_125 rfl ?_
    refine g_iload dX12_plays_127 rfl ?_
    refine g_callv2 (st := []) 10 mw_X12_strandIs lk_RX12_384 rfl km_0 (ok_M_strandIs v7 v10 σ) (Nat.lt_of_lt_of_le (Nat.le_of_ble_eq_true rfl) hB) rfl rfl (Nat.le_of_ble_eq_true rfl) dX12_plays_129 ?_
    intro r13 s14
    refine (g_weak [true, true, true, true, true, true, true, true, true, true, true, false, false] (ok_M_plays_J132 rc dr dd hrc hd hB a1 a2 a3 a4 v5 v6 v7 v8 v9 v10 _ ?_ s14))
    · intro x28 x29 x30 s31
      exact (hk69 x28 x29 x30 s31)
  · refine (g_weak [true, true, true, true, true, true, true, true, true, true, true, false, false] (ok_M_plays_J132 rc dr dd hrc hd hB a1 a2 a3 a4 v5 v6 v7 v8 v9 v10 _ ?_ σ))
    · intro x32 x33 x34 s35
      exact (hk69 x32 x33 x34 s35)
def M_plays_J96 (rc : Int → Int → Int → Int → Sg → Rs) (a1 : Int) (a2 : Int) (a3 : Int) (a4 : Int) (v5 : Int) (v6 : Int) (v7 : Int) (v8 : Int) (v9 : Int) (v10 : Int) (k69 : Int → Int → Int → Sg → Rs) (t0 : Int) (σ : Sg) : Rs := (if t0 = 0 then (bd (M_says v6 v10 v7 σ) (fun r10 s11 => (if r10 = 0 then (nm (w32 (v10 + 1)) (fun x12 => (k69 v8 v9 x12 s11))) else (M_plays_J119 rc a1 a2 a3 a4 v5 v6 v7 v8 v9 v10 t0 (fun x36 x37 x38 s39 => (k69 x36 x37 x38 s39)) s11)))) else (M_plays_J119 rc a1 a2 a3 a4 v5 v6 v7 v8 v9 v10 t0 (fun x40 x41 x42 s43 => (k69 x40 x41 x42 s43)) σ))
theorem ok_M_plays_J96 (rc : Int → Int → Int → Int → Sg → Rs) (dr dd : Nat) (hrc : ∀ (a1 : Int) (a2 : Int) (a3 : Int) (a4 : Int) (σ : Sg), MC l Km Pm yX12_plays cX12_plays 13 0 dr [.inr (.inr 0), .inl a1, .inl a2, .inl a3, .inl a4] σ (rc a1 a2 a3 a4 σ)) (hd : dr < dd) (hB : 4 ≤ dd) (a1 : Int) (a2 : Int) (a3 : Int) (a4 : Int) (v5 : Int) (v6 : Int) (v7 : Int) (v8 : Int) (v9 : Int) (v10 : Int) (k69 : Int → Int → Int → Sg → Rs) (hk69 : ∀ (y8 y9 y10 : Int) (σ : Sg), G l Km Pm RX12 cX12_plays 13 0 dd 69 [some (.inr (.inr 0)), some (.inl a1), some (.inl a2), some (.inl a3), some (.inl a4), some (.inl v5), some (.inl v6), some (.inl v7), some (.inl y8), some (.inl y9), some (.inl y10), none, none] [] σ (k69 y8 y9 y10 σ)) : ∀ (t0 : Int) (σ : Sg), G l Km Pm RX12 cX12_plays 13 0 dd 96 [some (.inr (.inr 0)), some (.inl a1), some (.inl a2), some (.inl a3), some (.inl a4), some (.inl v5), some (.inl v6), some (.inl v7), some (.inl v8), some (.inl v9), some (.inl v10), none, none] [.inl t0] σ (M_plays_J96 rc a1 a2 a3 a4 v5 v6 v7 v8 v9 v10 k69 t0 σ) := by
  intro t0 σ
  unfold M_plays_J96
  refine g_istore (lv' := [some (.inr (.inr 0)), some (.inl a1), some (.inl a2), some (.inl a3), some (.inl a4), some (.inl v5), some (.inl v6), some (.inl v7), some (.inl v8), some (.inl v9), some (.inl v10), some (.inl t0), none]) dX12_plays_96 (Nat.le_of_ble_eq_true rfl) rfl ?_
  refine g_iload dX12_plays_98 rfl ?_
  refine g_ifne (tgt := 119) dX12_plays_100 (by decide) ?_ ?_
  · refine g_aload_n dX12_plays_103 rfl rfl ?_
    refine g_iload dX12_plays_104 rfl ?_
    refine g_iload dX12_plays_106 rfl ?_
    refine g_iload dX12_plays_108 rfl ?_
    refine g_callv3 (st := []) 10 mw_X12_says lk_RX12_369 rfl km_0 (ok_M_says v6 v10 v7 σ) (Nat.lt_of_lt_of_le (Nat.le_of_ble_eq_true rfl) hB) rfl rfl (Nat.le_of_ble_eq_true rfl) dX12_plays_110 ?_
    intro r10 s11
    refine g_ifne (tgt := 119) dX12_plays_113 (by decide) ?_ ?_
    · refine g_goto (tgt := 198) dX12_plays_116 (by decide) ?_
      refine n_iinc (fun x12 => [some (.inr (.inr 0)), some (.inl a1), some (.inl a2), some (.inl a3), some (.inl a4), some (.inl v5), some (.inl v6), some (.inl v7), some (.inl v8), some (.inl v9), some (.inl x12), some (.inl t0), none]) dX12_plays_198 rfl (Nat.le_of_ble_eq_true rfl) (fun _ => rfl) ?_
      intro x12
      refine g_goto (tgt := 69) dX12_plays_201 (by decide) ?_
      exact (g_weak [true, true, true, true, true, true, true, true, true, true, true, false, false] (hk69 v8 v9 x12 s11))
    · refine (ok_M_plays_J119 rc dr dd hrc hd hB a1 a2 a3 a4 v5 v6 v7 v8 v9 v10 t0 _ ?_ s11)
      · intro x36 x37 x38 s39
        exact (hk69 x36 x37 x38 s39)
  · refine (ok_M_plays_J119 rc dr dd hrc hd hB a1 a2 a3 a4 v5 v6 v7 v8 v9 v10 t0 _ ?_ σ)
    · intro x40 x41 x42 s43
      exact (hk69 x40 x41 x42 s43)
def M_plays_L69 (rc : Int → Int → Int → Int → Sg → Rs) (a1 : Int) (a2 : Int) (a3 : Int) (a4 : Int) (v5 : Int) (v6 : Int) (v7 : Int) (k204 : Int → Int → Sg → Rs) : Nat → Int → Int → Int → Sg → Rs
  | 0, _, _, _, _ => none
  | n + 1, v8, v9, v10, σ => (rd 2235 0 (σ 5 (Int.toNat 0)) (fun x8 => (if x8 < v10 then (k204 v8 v9 σ) else (rd 2235 0 (σ 5 (Int.toNat 0)) (fun x9 => (if v10 = x9 then (M_plays_J96 rc a1 a2 a3 a4 v5 v6 v7 v8 v9 v10 (fun x44 x45 x46 s47 => (M_plays_L69 rc a1 a2 a3 a4 v5 v6 v7 k204 n x44 x45 x46 s47)) 1 σ) else (M_plays_J96 rc a1 a2 a3 a4 v5 v6 v7 v8 v9 v10 (fun x48 x49 x50 s51 => (M_plays_L69 rc a1 a2 a3 a4 v5 v6 v7 k204 n x48 x49 x50 s51)) 0 σ)))))))
theorem ok_M_plays_L69 (rc : Int → Int → Int → Int → Sg → Rs) (dr dd : Nat) (hrc : ∀ (a1 : Int) (a2 : Int) (a3 : Int) (a4 : Int) (σ : Sg), MC l Km Pm yX12_plays cX12_plays 13 0 dr [.inr (.inr 0), .inl a1, .inl a2, .inl a3, .inl a4] σ (rc a1 a2 a3 a4 σ)) (hd : dr < dd) (hB : 4 ≤ dd) (a1 : Int) (a2 : Int) (a3 : Int) (a4 : Int) (v5 : Int) (v6 : Int) (v7 : Int) (k204 : Int → Int → Sg → Rs) (hk204 : ∀ (y8 y9 : Int) (σ : Sg), G l Km Pm RX12 cX12_plays 13 0 dd 204 [some (.inr (.inr 0)), none, none, some (.inl a3), none, none, none, none, some (.inl y8), some (.inl y9), none, none, none] [] σ (k204 y8 y9 σ)) : ∀ (n : Nat) (v8 v9 v10 : Int) (σ : Sg), G l Km Pm RX12 cX12_plays 13 0 dd 69 [some (.inr (.inr 0)), some (.inl a1), some (.inl a2), some (.inl a3), some (.inl a4), some (.inl v5), some (.inl v6), some (.inl v7), some (.inl v8), some (.inl v9), some (.inl v10), none, none] [] σ (M_plays_L69 rc a1 a2 a3 a4 v5 v6 v7 k204 n v8 v9 v10 σ) := by
  intro n
  induction n with
  | zero => intros; exact G.none_
  | succ n ih =>
    intro v8 v9 v10 σ
    rw [M_plays_L69]
    refine g_iload dX12_plays_69 rfl ?_
    refine g_aload_n dX12_plays_71 rfl rfl ?_
    refine g_getr' (q := 5) fl_RX12_35 km_0 (by decide) rfl dX12_plays_72 ?_
    refine g_iconst dX12_plays_75 (by decide) ?_
    refine g_iald km_5 dX12_plays_76 ?_
    intro x8
    refine g_icmpgt (tgt := 204) dX12_plays_77 (by decide) ?_ ?_
    · exact (g_weak [true, false, false, true, false, false, false, false, true, true, false, false, false] (hk204 v8 v9 σ))
    · refine g_iload dX12_plays_80 rfl ?_
      refine g_aload_n dX12_plays_82 rfl rfl ?_
      refine g_getr' (q := 5) fl_RX12_35 km_0 (by decide) rfl dX12_plays_83 ?_
      refine g_iconst dX12_plays_86 (by decide) ?_
      refine g_iald km_5 dX12_plays_87 ?_
      intro x9
      refine g_icmpne (tgt := 95) dX12_plays_88 (by decide) ?_ ?_
      · refine g_iconst dX12_plays_91 (by decide) ?_
        refine g_goto (tgt := 96) dX12_plays_92 (by decide) ?_
        refine (ok_M_plays_J96 rc dr dd hrc hd hB a1 a2 a3 a4 v5 v6 v7 v8 v9 v10 _ ?_ 1 σ)
        · intro x44 x45 x46 s47
          exact (ih x44 x45 x46 s47)
      · refine g_iconst dX12_plays_95 (by decide) ?_
        refine (ok_M_plays_J96 rc dr dd hrc hd hB a1 a2 a3 a4 v5 v6 v7 v8 v9 v10 _ ?_ 0 σ)
        · intro x48 x49 x50 s51
          exact (ih x48 x49 x50 s51)
def M_plays_J204 (rc : Int → Int → Int → Int → Sg → Rs) (a3 : Int) (v8 : Int) (v9 : Int) (σ : Sg) : Rs := (if a3 = 0 then (nm (up_s σ 0 33 v9) (fun s55 => (some (v8, s55)))) else (some (v8, σ)))
theorem ok_M_plays_J204 (rc : Int → Int → Int → Int → Sg → Rs) (dr dd : Nat) (hrc : ∀ (a1 : Int) (a2 : Int) (a3 : Int) (a4 : Int) (σ : Sg), MC l Km Pm yX12_plays cX12_plays 13 0 dr [.inr (.inr 0), .inl a1, .inl a2, .inl a3, .inl a4] σ (rc a1 a2 a3 a4 σ)) (hd : dr < dd) (hB : 4 ≤ dd) (a3 : Int) (v8 : Int) (v9 : Int) : ∀ (σ : Sg), G l Km Pm RX12 cX12_plays 13 0 dd 204 [some (.inr (.inr 0)), none, none, some (.inl a3), none, none, none, none, some (.inl v8), some (.inl v9), none, none, none] [] σ (M_plays_J204 rc a3 v8 v9  σ) := by
  intro σ
  unfold M_plays_J204
  refine g_iload_n dX12_plays_204 rfl rfl ?_
  refine g_ifne (tgt := 214) dX12_plays_205 (by decide) ?_ ?_
  · refine g_aload_n dX12_plays_208 rfl rfl ?_
    refine g_iload dX12_plays_209 rfl ?_
    refine g_puti fl_RX12_504 km_0 (by decide) dX12_plays_211 ?_
    intro s55
    refine g_iload dX12_plays_214 rfl ?_
    exact g_iret dX12_plays_216
  · refine g_iload dX12_plays_214 rfl ?_
    exact g_iret dX12_plays_216
def M_plays_J53 (rc : Int → Int → Int → Int → Sg → Rs) (a1 : Int) (a2 : Int) (a3 : Int) (a4 : Int) (v5 : Int) (v6 : Int) (t0 : Int) (σ : Sg) : Rs := (bd (M_laysTurn a3 σ) (fun r6 s7 => (M_plays_L69 rc a1 a2 a3 a4 v5 v6 t0 (fun x52 x53 s54 => (M_plays_J204 rc a3 x52 x53 s54)) fu 0 (-1) 0 s7)))
theorem ok_M_plays_J53 (rc : Int → Int → Int → Int → Sg → Rs) (dr dd : Nat) (hrc : ∀ (a1 : Int) (a2 : Int) (a3 : Int) (a4 : Int) (σ : Sg), MC l Km Pm yX12_plays cX12_plays 13 0 dr [.inr (.inr 0), .inl a1, .inl a2, .inl a3, .inl a4] σ (rc a1 a2 a3 a4 σ)) (hd : dr < dd) (hB : 4 ≤ dd) (a1 : Int) (a2 : Int) (a3 : Int) (a4 : Int) (v5 : Int) (v6 : Int) : ∀ (t0 : Int) (σ : Sg), G l Km Pm RX12 cX12_plays 13 0 dd 53 [some (.inr (.inr 0)), some (.inl a1), some (.inl a2), some (.inl a3), some (.inl a4), some (.inl v5), some (.inl v6), none, none, none, none, none, none] [.inl t0] σ (M_plays_J53 rc a1 a2 a3 a4 v5 v6 t0 σ) := by
  intro t0 σ
  unfold M_plays_J53
  refine g_istore (lv' := [some (.inr (.inr 0)), some (.inl a1), some (.inl a2), some (.inl a3), some (.inl a4), some (.inl v5), some (.inl v6), some (.inl t0), none, none, none, none, none]) dX12_plays_53 (Nat.le_of_ble_eq_true rfl) rfl ?_
  refine g_iconst dX12_plays_55 (by decide) ?_
  refine g_istore (lv' := [some (.inr (.inr 0)), some (.inl a1), some (.inl a2), some (.inl a3), some (.inl a4), some (.inl v5), some (.inl v6), some (.inl t0), some (.inl 0), none, none, none, none]) dX12_plays_56 (Nat.le_of_ble_eq_true rfl) rfl ?_
  refine g_iconst dX12_plays_58 (by decide) ?_
  refine g_istore (lv' := [some (.inr (.inr 0)), some (.inl a1), some (.inl a2), some (.inl a3), some (.inl a4), some (.inl v5), some (.inl v6), some (.inl t0), some (.inl 0), some (.inl (-1)), none, none, none]) dX12_plays_59 (Nat.le_of_ble_eq_true rfl) rfl ?_
  refine g_aload_n dX12_plays_61 rfl rfl ?_
  refine g_iload_n dX12_plays_62 rfl rfl ?_
  refine g_callv2 (st := []) 10 mw_X12_laysTurn lk_RX12_494 rfl km_0 (ok_M_laysTurn a3 σ) (Nat.lt_of_lt_of_le (Nat.le_of_ble_eq_true rfl) hB) rfl rfl (Nat.le_of_ble_eq_true rfl) dX12_plays_63 ?_
  intro r6 s7
  refine g_iconst dX12_plays_66 (by decide) ?_
  refine g_istore (lv' := [some (.inr (.inr 0)), some (.inl a1), some (.inl a2), some (.inl a3), some (.inl a4), some (.inl v5), some (.inl v6), some (.inl t0), some (.inl 0), some (.inl (-1)), some (.inl 0), none, none]) dX12_plays_67 (Nat.le_of_ble_eq_true rfl) rfl ?_
  refine (ok_M_plays_L69 rc dr dd hrc hd hB a1 a2 a3 a4 v5 v6 t0 _ ?_ fu 0 (-1) 0 s7)
  · intro x52 x53 s54
    refine (ok_M_plays_J204 rc dr dd hrc hd hB a3 x52 x53 s54)
def M_plays_J41 (rc : Int → Int → Int → Int → Sg → Rs) (a1 : Int) (a2 : Int) (a3 : Int) (a4 : Int) (v5 : Int) (t0 : Int) (σ : Sg) : Rs := (if v5 = 0 then (M_plays_J53 rc a1 a2 a3 a4 v5 t0 a1 σ) else (M_plays_J53 rc a1 a2 a3 a4 v5 t0 a2 σ))
theorem ok_M_plays_J41 (rc : Int → Int → Int → Int → Sg → Rs) (dr dd : Nat) (hrc : ∀ (a1 : Int) (a2 : Int) (a3 : Int) (a4 : Int) (σ : Sg), MC l Km Pm yX12_plays cX12_plays 13 0 dr [.inr (.inr 0), .inl a1, .inl a2, .inl a3, .inl a4] σ (rc a1 a2 a3 a4 σ)) (hd : dr < dd) (hB : 4 ≤ dd) (a1 : Int) (a2 : Int) (a3 : Int) (a4 : Int) (v5 : Int) : ∀ (t0 : Int) (σ : Sg), G l Km Pm RX12 cX12_plays 13 0 dd 41 [some (.inr (.inr 0)), some (.inl a1), some (.inl a2), some (.inl a3), some (.inl a4), some (.inl v5), none, none, none, none, none, none, none] [.inl t0] σ (M_plays_J41 rc a1 a2 a3 a4 v5 t0 σ) := by
  intro t0 σ
  unfold M_plays_J41
  refine g_istore (lv' := [some (.inr (.inr 0)), some (.inl a1), some (.inl a2), some (.inl a3), some (.inl a4), some (.inl v5), some (.inl t0), none, none, none, none, none, none]) dX12_plays_41 (Nat.le_of_ble_eq_true rfl) rfl ?_
  refine g_iload dX12_plays_43 rfl ?_
  refine g_ifeq (tgt := 52) dX12_plays_45 (by decide) ?_ ?_
  · refine g_iload_n dX12_plays_52 rfl rfl ?_
    refine (ok_M_plays_J53 rc dr dd hrc hd hB a1 a2 a3 a4 v5 t0 a1 σ)
  · refine g_iload_n dX12_plays_48 rfl rfl ?_
    refine g_goto (tgt := 53) dX12_plays_49 (by decide) ?_
    refine (ok_M_plays_J53 rc dr dd hrc hd hB a1 a2 a3 a4 v5 t0 a2 σ)
def M_plays_J29 (rc : Int → Int → Int → Int → Sg → Rs) (a1 : Int) (a2 : Int) (a3 : Int) (a4 : Int) (t0 : Int) (σ : Sg) : Rs := (if t0 = 0 then (M_plays_J41 rc a1 a2 a3 a4 t0 a2 σ) else (M_plays_J41 rc a1 a2 a3 a4 t0 a1 σ))
theorem ok_M_plays_J29 (rc : Int → Int → Int → Int → Sg → Rs) (dr dd : Nat) (hrc : ∀ (a1 : Int) (a2 : Int) (a3 : Int) (a4 : Int) (σ : Sg), MC l Km Pm yX12_plays cX12_plays 13 0 dr [.inr (.inr 0), .inl a1, .inl a2, .inl a3, .inl a4] σ (rc a1 a2 a3 a4 σ)) (hd : dr < dd) (hB : 4 ≤ dd) (a1 : Int) (a2 : Int) (a3 : Int) (a4 : Int) : ∀ (t0 : Int) (σ : Sg), G l Km Pm RX12 cX12_plays 13 0 dd 29 [some (.inr (.inr 0)), some (.inl a1), some (.inl a2), some (.inl a3), some (.inl a4), none, none, none, none, none, none, none, none] [.inl t0] σ (M_plays_J29 rc a1 a2 a3 a4 t0 σ) := by
  intro t0 σ
  unfold M_plays_J29
  refine g_istore (lv' := [some (.inr (.inr 0)), some (.inl a1), some (.inl a2), some (.inl a3), some (.inl a4), some (.inl t0), none, none, none, none, none, none, none]) dX12_plays_29 (Nat.le_of_ble_eq_true rfl) rfl ?_
  refine g_iload dX12_plays_31 rfl ?_
  refine g_ifeq (tgt := 40) dX12_plays_33 (by decide) ?_ ?_
  · refine g_iload_n dX12_plays_40 rfl rfl ?_
    refine (ok_M_plays_J41 rc dr dd hrc hd hB a1 a2 a3 a4 t0 a2 σ)
  · refine g_iload_n dX12_plays_36 rfl rfl ?_
    refine g_goto (tgt := 41) dX12_plays_37 (by decide) ?_
    refine (ok_M_plays_J41 rc dr dd hrc hd hB a1 a2 a3 a4 t0 a1 σ)
def M_plays_B (rc : Int → Int → Int → Int → Sg → Rs) (a1 : Int) (a2 : Int) (a3 : Int) (a4 : Int) (σ : Sg) : Rs := (if a3 = a4 then (bd (M_hairOf a2 σ) (fun r1 s2 => (bd (M_hairOf a1 s2) (fun r3 s4 => (some ((w32 (r1 - r3)), s4)))))) else (dv 2 (rm32 a3 2) (fun x5 => (if x5 = 0 then (M_plays_J29 rc a1 a2 a3 a4 1 σ) else (M_plays_J29 rc a1 a2 a3 a4 0 σ)))))
theorem ok_M_plays_B (rc : Int → Int → Int → Int → Sg → Rs) (dr dd : Nat) (hrc : ∀ (a1 : Int) (a2 : Int) (a3 : Int) (a4 : Int) (σ : Sg), MC l Km Pm yX12_plays cX12_plays 13 0 dr [.inr (.inr 0), .inl a1, .inl a2, .inl a3, .inl a4] σ (rc a1 a2 a3 a4 σ)) (hd : dr < dd) (hB : 4 ≤ dd) (a1 : Int) (a2 : Int) (a3 : Int) (a4 : Int) (σ : Sg) : MC l Km Pm yX12_plays cX12_plays 13 0 dd [.inr (.inr 0), .inl a1, .inl a2, .inl a3, .inl a4] σ (M_plays_B rc a1 a2 a3 a4 σ) := by
  refine mc_of (by decide) (Nat.le_of_ble_eq_true rfl) ?_
  change G l Km Pm RX12 cX12_plays 13 0 dd 0 [some (.inr (.inr 0)), some (.inl a1), some (.inl a2), some (.inl a3), some (.inl a4), none, none, none, none, none, none, none, none] [] σ (M_plays_B rc a1 a2 a3 a4 σ)
  unfold M_plays_B
  refine g_iload_n dX12_plays_0 rfl rfl ?_
  refine g_iload dX12_plays_1 rfl ?_
  refine g_icmpne (tgt := 18) dX12_plays_3 (by decide) ?_ ?_
  · refine g_aload_n dX12_plays_6 rfl rfl ?_
    refine g_iload_n dX12_plays_7 rfl rfl ?_
    refine g_callv0 (st := []) 10 mw_X12_hairOf lk_RX12_320 rfl km_0 (ok_M_hairOf a2 σ) (Nat.lt_of_lt_of_le (Nat.le_of_ble_eq_true rfl) hB) rfl rfl (Nat.le_of_ble_eq_true rfl) dX12_plays_8 ?_
    intro r1 s2
    refine g_aload_n dX12_plays_11 rfl rfl ?_
    refine g_iload_n dX12_plays_12 rfl rfl ?_
    refine g_callv0 (st := [.inl r1]) 10 mw_X12_hairOf lk_RX12_320 rfl km_0 (ok_M_hairOf a1 s2) (Nat.lt_of_lt_of_le (Nat.le_of_ble_eq_true rfl) hB) rfl rfl (Nat.le_of_ble_eq_true rfl) dX12_plays_13 ?_
    intro r3 s4
    refine g_isub dX12_plays_16 ?_
    exact g_iret dX12_plays_17
  · refine g_iload_n dX12_plays_18 rfl rfl ?_
    refine g_iconst dX12_plays_19 (by decide) ?_
    refine g_irem dX12_plays_20 ?_
    intro x5
    refine g_ifne (tgt := 28) dX12_plays_21 (by decide) ?_ ?_
    · refine g_iconst dX12_plays_24 (by decide) ?_
      refine g_goto (tgt := 29) dX12_plays_25 (by decide) ?_
      refine (ok_M_plays_J29 rc dr dd hrc hd hB a1 a2 a3 a4 1 σ)
    · refine g_iconst dX12_plays_28 (by decide) ?_
      refine (ok_M_plays_J29 rc dr dd hrc hd hB a1 a2 a3 a4 0 σ)
def M_plays : Nat → Int → Int → Int → Int → Sg → Rs
  | 0 => fun _ _ _ _ _ => none
  | n + 1 => M_plays_B (M_plays n)
theorem ok_M_plays : ∀ (n : Nat) (a1 : Int) (a2 : Int) (a3 : Int) (a4 : Int)  (σ : Sg), MC l Km Pm yX12_plays cX12_plays 13 0 (n + 4) [.inr (.inr 0), .inl a1, .inl a2, .inl a3, .inl a4] σ (M_plays n a1 a2 a3 a4 σ) := by
  intro n
  induction n with
  | zero => intros; exact mc_none
  | succ n ih =>
    intro a1 a2 a3 a4 σ
    exact ok_M_plays_B (M_plays n) (n + 4) ((n + 1) + 4) ih (by omega) (by omega)  a1 a2 a3 a4 σ
theorem dX12_whyNoGame_0 : decode cX12_whyNoGame 0 = .ok (.aload_n 0, 1) := by decide +kernel
theorem dX12_whyNoGame_1 : decode cX12_whyNoGame 1 = .ok (.iload_n 1, 1) := by decide +kernel
theorem dX12_whyNoGame_2 : decode cX12_whyNoGame 2 = .ok (.invokevirtual 345, 3) := by decide +kernel
theorem dX12_whyNoGame_5 : decode cX12_whyNoGame 5 = .ok (.ifCond .eq 11, 3) := by decide +kernel
theorem dX12_whyNoGame_8 : decode cX12_whyNoGame 8 = .ok (.aload_n 0, 1) := by decide +kernel
theorem dX12_whyNoGame_9 : decode cX12_whyNoGame 9 = .ok (.iload_n 2, 1) := by decide +kernel
theorem dX12_whyNoGame_10 : decode cX12_whyNoGame 10 = .ok (.invokevirtual 345, 3) := by decide +kernel
theorem dX12_whyNoGame_13 : decode cX12_whyNoGame 13 = .ok (.ifCond .ne 5, 3) := by decide +kernel
theorem dX12_whyNoGame_16 : decode cX12_whyNoGame 16 = .ok (.iconst 2, 1) := by decide +kernel
theorem dX12_whyNoGame_17 : decode cX12_whyNoGame 17 = .ok (.ireturn, 1) := by decide +kernel
theorem dX12_whyNoGame_18 : decode cX12_whyNoGame 18 = .ok (.iload_n 1, 1) := by decide +kernel
theorem dX12_whyNoGame_19 : decode cX12_whyNoGame 19 = .ok (.iload_n 2, 1) := by decide +kernel
theorem dX12_whyNoGame_20 : decode cX12_whyNoGame 20 = .ok (.if_icmp .eq 21, 3) := by decide +kernel
theorem dX12_whyNoGame_23 : decode cX12_whyNoGame 23 = .ok (.iload_n 3, 1) := by decide +kernel
theorem dX12_whyNoGame_24 : decode cX12_whyNoGame 24 = .ok (.i2l, 1) := by decide +kernel
theorem dX12_whyNoGame_25 : decode cX12_whyNoGame 25 = .ok (.iload 4, 2) := by decide +kernel
theorem dX12_whyNoGame_27 : decode cX12_whyNoGame 27 = .ok (.i2l, 1) := by decide +kernel
theorem dX12_whyNoGame_28 : decode cX12_whyNoGame 28 = .ok (.ldc2_w 100, 3) := by decide +kernel
theorem dX12_whyNoGame_31 : decode cX12_whyNoGame 31 = .ok (.invokestatic 102, 3) := by decide +kernel
theorem dX12_whyNoGame_34 : decode cX12_whyNoGame 34 = .ok (.ifCond .eq 7, 3) := by decide +kernel
theorem dX12_whyNoGame_37 : decode cX12_whyNoGame 37 = .ok (.iconst 0, 1) := by decide +kernel
theorem dX12_whyNoGame_38 : decode cX12_whyNoGame 38 = .ok (.goto 4, 3) := by decide +kernel
theorem dX12_whyNoGame_41 : decode cX12_whyNoGame 41 = .ok (.iconst 5, 1) := by decide +kernel
theorem dX12_whyNoGame_42 : decode cX12_whyNoGame 42 = .ok (.ireturn, 1) := by decide +kernel
theorem mw_X12_whyNoGame : MW yX12_whyNoGame cX12_whyNoGame 5 0 4 false := ⟨tm 2323 (by decide +kernel) rfl, tm 249 (by decide +kernel) rfl, by decide, by decide, (by rw [if_neg (by decide)]; exact ⟨tm 2322 (by decide +kernel) rfl, tm 218 (by decide +kernel) rfl⟩)⟩
def M_whyNoGame (a1 : Int) (a2 : Int) (a3 : Int) (a4 : Int) (σ : Sg) : Rs := (bd (M_isPersonAt a1 σ) (fun r1 s2 => (if r1 = 0 then (some (2, s2)) else (bd (M_isPersonAt a2 s2) (fun r3 s4 => (if r3 = 0 then (some (2, s4)) else (if a1 = a2 then (some (5, s4)) else (bd (M_isIn a3 a4 3 s4) (fun r5 s6 => (if r5 = 0 then (some (5, s6)) else (some (0, s6))))))))))))
theorem ok_M_whyNoGame (a1 : Int) (a2 : Int) (a3 : Int) (a4 : Int) (σ : Sg) : MC l Km Pm yX12_whyNoGame cX12_whyNoGame 5 0 3 [.inr (.inr 0), .inl a1, .inl a2, .inl a3, .inl a4] σ (M_whyNoGame a1 a2 a3 a4 σ) := by
  refine mc_of (by decide) (Nat.le_of_ble_eq_true rfl) ?_
  change G l Km Pm RX12 cX12_whyNoGame 5 0 3 0 [some (.inr (.inr 0)), some (.inl a1), some (.inl a2), some (.inl a3), some (.inl a4)] [] σ (M_whyNoGame a1 a2 a3 a4 σ)
  unfold M_whyNoGame
  refine g_aload_n dX12_whyNoGame_0 rfl rfl ?_
  refine g_iload_n dX12_whyNoGame_1 rfl rfl ?_
  refine g_callv3 (st := []) 10 mw_X12_isPersonAt lk_RX12_345 rfl km_0 (ok_M_isPersonAt a1 σ) (Nat.le_of_ble_eq_true rfl) rfl rfl (Nat.le_of_ble_eq_true rfl) dX12_whyNoGame_2 ?_
  intro r1 s2
  refine g_ifeq (tgt := 16) dX12_whyNoGame_5 (by decide) ?_ ?_
  · refine g_iconst dX12_whyNoGame_16 (by decide) ?_
    exact g_iret dX12_whyNoGame_17
  · refine g_aload_n dX12_whyNoGame_8 rfl rfl ?_
    refine g_iload_n dX12_whyNoGame_9 rfl rfl ?_
    refine g_callv3 (st := []) 10 mw_X12_isPersonAt lk_RX12_345 rfl km_0 (ok_M_isPersonAt a2 s2) (Nat.le_of_ble_eq_true rfl) rfl rfl (Nat.le_of_ble_eq_true rfl) dX12_whyNoGame_10 ?_
    intro r3 s4
    refine g_ifne (tgt := 18) dX12_whyNoGame_13 (by decide) ?_ ?_
    · refine g_iconst dX12_whyNoGame_16 (by decide) ?_
      exact g_iret dX12_whyNoGame_17
    · refine g_iload_n dX12_whyNoGame_18 rfl rfl ?_
      refine g_iload_n dX12_whyNoGame_19 rfl rfl ?_
      refine g_icmpeq (tgt := 41) dX12_whyNoGame_20 (by decide) ?_ ?_
      · refine g_iconst dX12_whyNoGame_41 (by decide) ?_
        exact g_iret dX12_whyNoGame_42
      · refine g_iload_n dX12_whyNoGame_23 rfl rfl ?_
        refine g_i2l dX12_whyNoGame_24 ?_
        refine g_iload dX12_whyNoGame_25 rfl ?_
        refine g_i2l dX12_whyNoGame_27 ?_
        refine g_ldc2 (n := 3) (tm 2055 (by decide +kernel) rfl) (by decide) dX12_whyNoGame_28 ?_
        refine g_calls3 (st := []) mw_X12_isIn lk_RX12_102 (ok_M_isIn a3 a4 3 s4) (Nat.le_of_ble_eq_true rfl) rfl rfl (Nat.le_of_ble_eq_true rfl) dX12_whyNoGame_31 ?_
        intro r5 s6
        refine g_ifeq (tgt := 41) dX12_whyNoGame_34 (by decide) ?_ ?_
        · refine g_iconst dX12_whyNoGame_41 (by decide) ?_
          exact g_iret dX12_whyNoGame_42
        · refine g_iconst dX12_whyNoGame_37 (by decide) ?_
          refine g_goto (tgt := 42) dX12_whyNoGame_38 (by decide) ?_
          exact g_iret dX12_whyNoGame_42
theorem dX12_game_0 : decode cX12_game 0 = .ok (.aload_n 0, 1) := by decide +kernel
theorem dX12_game_1 : decode cX12_game 1 = .ok (.iconst 0, 1) := by decide +kernel
theorem dX12_game_2 : decode cX12_game 2 = .ok (.putfield 67, 3) := by decide +kernel
theorem dX12_game_5 : decode cX12_game 5 = .ok (.aload_n 0, 1) := by decide +kernel
theorem dX12_game_6 : decode cX12_game 6 = .ok (.aload_n 0, 1) := by decide +kernel
theorem dX12_game_7 : decode cX12_game 7 = .ok (.iload_n 1, 1) := by decide +kernel
theorem dX12_game_8 : decode cX12_game 8 = .ok (.iload_n 2, 1) := by decide +kernel
theorem dX12_game_9 : decode cX12_game 9 = .ok (.iload_n 3, 1) := by decide +kernel
theorem dX12_game_10 : decode cX12_game 10 = .ok (.iconst 0, 1) := by decide +kernel
theorem dX12_game_11 : decode cX12_game 11 = .ok (.invokevirtual 507, 3) := by decide +kernel
theorem dX12_game_14 : decode cX12_game 14 = .ok (.putfield 70, 3) := by decide +kernel
theorem dX12_game_17 : decode cX12_game 17 = .ok (.aload_n 0, 1) := by decide +kernel
theorem dX12_game_18 : decode cX12_game 18 = .ok (.getfield 70, 3) := by decide +kernel
theorem dX12_game_21 : decode cX12_game 21 = .ok (.ifCond .le 7, 3) := by decide +kernel
theorem dX12_game_24 : decode cX12_game 24 = .ok (.iconst (-1), 1) := by decide +kernel
theorem dX12_game_25 : decode cX12_game 25 = .ok (.goto 11, 3) := by decide +kernel
theorem dX12_game_28 : decode cX12_game 28 = .ok (.aload_n 0, 1) := by decide +kernel
theorem dX12_game_29 : decode cX12_game 29 = .ok (.iload_n 1, 1) := by decide +kernel
theorem dX12_game_30 : decode cX12_game 30 = .ok (.iload_n 2, 1) := by decide +kernel
theorem dX12_game_31 : decode cX12_game 31 = .ok (.iconst 0, 1) := by decide +kernel
theorem dX12_game_32 : decode cX12_game 32 = .ok (.iload_n 3, 1) := by decide +kernel
theorem dX12_game_33 : decode cX12_game 33 = .ok (.invokevirtual 497, 3) := by decide +kernel
theorem dX12_game_36 : decode cX12_game 36 = .ok (.ireturn, 1) := by decide +kernel
theorem mw_X12_game : MW yX12_game cX12_game 4 0 3 false := ⟨tm 2319 (by decide +kernel) rfl, tm 249 (by decide +kernel) rfl, by decide, by decide, (by rw [if_neg (by decide)]; exact ⟨tm 2317 (by decide +kernel) rfl, tm 2318 (by decide +kernel) rfl⟩)⟩
theorem lk_RX12_507 : LK RX12 507 yX12_whyNoGame := Or.inl (tm 2320 (by decide +kernel) rfl)
def M_game (a1 : Int) (a2 : Int) (a3 : Int) (σ : Sg) : Rs := (nm (up_s σ 0 1 0) (fun s1 => (bd (M_whyNoGame a1 a2 a3 0 s1) (fun r2 s3 => (nm (up_s s3 0 0 r2) (fun s4 => (if 0 < (s4 0 0) then (some ((-1), s4)) else (bd (M_plays 20 a1 a2 0 a3 s4) (fun r5 s6 => (some (r5, s6)))))))))))
theorem ok_M_game (a1 : Int) (a2 : Int) (a3 : Int) (σ : Sg) : MC l Km Pm yX12_game cX12_game 4 0 25 [.inr (.inr 0), .inl a1, .inl a2, .inl a3] σ (M_game a1 a2 a3 σ) := by
  refine mc_of (by decide) (Nat.le_of_ble_eq_true rfl) ?_
  change G l Km Pm RX12 cX12_game 4 0 25 0 [some (.inr (.inr 0)), some (.inl a1), some (.inl a2), some (.inl a3)] [] σ (M_game a1 a2 a3 σ)
  unfold M_game
  refine g_aload_n dX12_game_0 rfl rfl ?_
  refine g_iconst dX12_game_1 (by decide) ?_
  refine g_puti fl_RX12_67 km_0 (by decide) dX12_game_2 ?_
  intro s1
  refine g_aload_n dX12_game_5 rfl rfl ?_
  refine g_aload_n dX12_game_6 rfl rfl ?_
  refine g_iload_n dX12_game_7 rfl rfl ?_
  refine g_iload_n dX12_game_8 rfl rfl ?_
  refine g_iload_n dX12_game_9 rfl rfl ?_
  refine g_iconst dX12_game_10 (by decide) ?_
  refine g_callv0 (st := [.inr (.inr 0)]) 10 mw_X12_whyNoGame lk_RX12_507 rfl km_0 (ok_M_whyNoGame a1 a2 a3 0 s1) (Nat.le_of_ble_eq_true rfl) rfl rfl (Nat.le_of_ble_eq_true rfl) dX12_game_11 ?_
  intro r2 s3
  refine g_puti fl_RX12_70 km_0 (by decide) dX12_game_14 ?_
  intro s4
  refine g_aload_n dX12_game_17 rfl rfl ?_
  refine g_geti fl_RX12_70 km_0 (by decide) dX12_game_18 ?_
  refine g_ifle (tgt := 28) dX12_game_21 (by decide) ?_ ?_
  · refine g_iconst dX12_game_24 (by decide) ?_
    refine g_goto (tgt := 36) dX12_game_25 (by decide) ?_
    exact g_iret dX12_game_36
  · refine g_aload_n dX12_game_28 rfl rfl ?_
    refine g_iload_n dX12_game_29 rfl rfl ?_
    refine g_iload_n dX12_game_30 rfl rfl ?_
    refine g_iconst dX12_game_31 (by decide) ?_
    refine g_iload_n dX12_game_32 rfl rfl ?_
    refine g_callv0 (st := []) 10 mw_X12_plays lk_RX12_497 rfl km_0 (ok_M_plays 20 a1 a2 0 a3 s4) (Nat.le_of_ble_eq_true rfl) rfl rfl (Nat.le_of_ble_eq_true rfl) dX12_game_33 ?_
    intro r5 s6
    exact g_iret dX12_game_36
theorem dX12_gives_0 : decode cX12_gives 0 = .ok (.iconst 0, 1) := by decide +kernel
theorem dX12_gives_1 : decode cX12_gives 1 = .ok (.istore_n 1, 1) := by decide +kernel
theorem dX12_gives_2 : decode cX12_gives 2 = .ok (.iload_n 1, 1) := by decide +kernel
theorem dX12_gives_3 : decode cX12_gives 3 = .ok (.sipush 175, 3) := by decide +kernel
theorem dX12_gives_6 : decode cX12_gives 6 = .ok (.if_icmp .ge 21, 3) := by decide +kernel
theorem dX12_gives_9 : decode cX12_gives 9 = .ok (.aload_n 0, 1) := by decide +kernel
theorem dX12_gives_10 : decode cX12_gives 10 = .ok (.getfield 35, 3) := by decide +kernel
theorem dX12_gives_13 : decode cX12_gives 13 = .ok (.iload_n 1, 1) := by decide +kernel
theorem dX12_gives_14 : decode cX12_gives 14 = .ok (.aload_n 0, 1) := by decide +kernel
theorem dX12_gives_15 : decode cX12_gives 15 = .ok (.getfield 38, 3) := by decide +kernel
theorem dX12_gives_18 : decode cX12_gives 18 = .ok (.iload_n 1, 1) := by decide +kernel
theorem dX12_gives_19 : decode cX12_gives 19 = .ok (.iaload, 1) := by decide +kernel
theorem dX12_gives_20 : decode cX12_gives 20 = .ok (.iastore, 1) := by decide +kernel
theorem dX12_gives_21 : decode cX12_gives 21 = .ok (.iinc 1 1, 3) := by decide +kernel
theorem dX12_gives_24 : decode cX12_gives 24 = .ok (.goto (-22), 3) := by decide +kernel
theorem dX12_gives_27 : decode cX12_gives 27 = .ok (.return_, 1) := by decide +kernel
theorem mw_X12_gives : MW yX12_gives cX12_gives 2 2 0 false := ⟨tm 2157 (by decide +kernel) rfl, tm 249 (by decide +kernel) rfl, by decide, by decide, (by rw [if_neg (by decide)]; exact ⟨tm 2156 (by decide +kernel) rfl, tm 196 (by decide +kernel) rfl⟩)⟩
theorem fl_RX12_38 : FL RX12 38 10 21 := ⟨_, _, _, _, cw_10, by decide, Or.inr (Or.inr (Or.inr (by decide))), Or.inl (by decide), Or.inl (tm 1589 (by decide +kernel) rfl)⟩
def M_gives_L2  : Nat → Int → Sg → Rs
  | 0, _, _ => none
  | n + 1, v1, σ => (if v1 < 175 then (rd 175 v1 (σ 6 (Int.toNat v1)) (fun x1 => (wr 2235 v1 (up_s σ 5 (Int.toNat v1) x1) (fun s2 => (nm (w32 (v1 + 1)) (fun x3 => (M_gives_L2 n x3 s2))))))) else (some (0, σ)))
theorem ok_M_gives_L2 : ∀ (n : Nat) (v1 : Int) (σ : Sg), G l Km Pm RX12 cX12_gives 2 2 1 2 [some (.inr (.inr 0)), some (.inl v1)] [] σ (M_gives_L2  n v1 σ) := by
  intro n
  induction n with
  | zero => intros; exact G.none_
  | succ n ih =>
    intro v1 σ
    rw [M_gives_L2]
    refine g_iload_n dX12_gives_2 rfl rfl ?_
    refine g_sipush dX12_gives_3 (by decide) ?_
    refine g_icmpge (tgt := 27) dX12_gives_6 (by decide) ?_ ?_
    · refine g_aload_n dX12_gives_9 rfl rfl ?_
      refine g_getr' (q := 5) fl_RX12_35 km_0 (by decide) rfl dX12_gives_10 ?_
      refine g_iload_n dX12_gives_13 rfl rfl ?_
      refine g_aload_n dX12_gives_14 rfl rfl ?_
      refine g_getr' (q := 6) fl_RX12_38 km_0 (by decide) rfl dX12_gives_15 ?_
      refine g_iload_n dX12_gives_18 rfl rfl ?_
      refine g_iald km_6 dX12_gives_19 ?_
      intro x1
      refine g_iast km_5 dX12_gives_20 ?_
      intro s2
      refine n_iinc (fun x3 => [some (.inr (.inr 0)), some (.inl x3)]) dX12_gives_21 rfl (Nat.le_of_ble_eq_true rfl) (fun _ => rfl) ?_
      intro x3
      refine g_goto (tgt := 2) dX12_gives_24 (by decide) ?_
      exact (ih x3 s2)
    · exact g_vret dX12_gives_27
def M_gives  (σ : Sg) : Rs := (M_gives_L2 fu 0 σ)
theorem ok_M_gives (σ : Sg) : MC l Km Pm yX12_gives cX12_gives 2 2 1 [.inr (.inr 0)] σ (M_gives σ) := by
  refine mc_of (by decide) (Nat.le_of_ble_eq_true rfl) ?_
  change G l Km Pm RX12 cX12_gives 2 2 1 0 [some (.inr (.inr 0)), none] [] σ (M_gives  σ)
  unfold M_gives
  refine g_iconst dX12_gives_0 (by decide) ?_
  refine g_istore_n (lv' := [some (.inr (.inr 0)), some (.inl 0)]) dX12_gives_1 rfl (Nat.le_of_ble_eq_true rfl) rfl ?_
  refine (ok_M_gives_L2 fu 0 σ)
theorem dX12_puts_0 : decode cX12_puts 0 = .ok (.iconst 0, 1) := by decide +kernel
theorem dX12_puts_1 : decode cX12_puts 1 = .ok (.istore_n 1, 1) := by decide +kernel
theorem dX12_puts_2 : decode cX12_puts 2 = .ok (.iload_n 1, 1) := by decide +kernel
theorem dX12_puts_3 : decode cX12_puts 3 = .ok (.sipush 175, 3) := by decide +kernel
theorem dX12_puts_6 : decode cX12_puts 6 = .ok (.if_icmp .ge 21, 3) := by decide +kernel
theorem dX12_puts_9 : decode cX12_puts 9 = .ok (.aload_n 0, 1) := by decide +kernel
theorem dX12_puts_10 : decode cX12_puts 10 = .ok (.getfield 38, 3) := by decide +kernel
theorem dX12_puts_13 : decode cX12_puts 13 = .ok (.iload_n 1, 1) := by decide +kernel
theorem dX12_puts_14 : decode cX12_puts 14 = .ok (.aload_n 0, 1) := by decide +kernel
theorem dX12_puts_15 : decode cX12_puts 15 = .ok (.getfield 35, 3) := by decide +kernel
theorem dX12_puts_18 : decode cX12_puts 18 = .ok (.iload_n 1, 1) := by decide +kernel
theorem dX12_puts_19 : decode cX12_puts 19 = .ok (.iaload, 1) := by decide +kernel
theorem dX12_puts_20 : decode cX12_puts 20 = .ok (.iastore, 1) := by decide +kernel
theorem dX12_puts_21 : decode cX12_puts 21 = .ok (.iinc 1 1, 3) := by decide +kernel
theorem dX12_puts_24 : decode cX12_puts 24 = .ok (.goto (-22), 3) := by decide +kernel
theorem dX12_puts_27 : decode cX12_puts 27 = .ok (.return_, 1) := by decide +kernel
theorem mw_X12_puts : MW yX12_puts cX12_puts 2 2 0 false := ⟨tm 2153 (by decide +kernel) rfl, tm 249 (by decide +kernel) rfl, by decide, by decide, (by rw [if_neg (by decide)]; exact ⟨tm 2152 (by decide +kernel) rfl, tm 195 (by decide +kernel) rfl⟩)⟩
def M_puts_L2  : Nat → Int → Sg → Rs
  | 0, _, _ => none
  | n + 1, v1, σ => (if v1 < 175 then (rd 2235 v1 (σ 5 (Int.toNat v1)) (fun x1 => (wr 175 v1 (up_s σ 6 (Int.toNat v1) x1) (fun s2 => (nm (w32 (v1 + 1)) (fun x3 => (M_puts_L2 n x3 s2))))))) else (some (0, σ)))
theorem ok_M_puts_L2 : ∀ (n : Nat) (v1 : Int) (σ : Sg), G l Km Pm RX12 cX12_puts 2 2 1 2 [some (.inr (.inr 0)), some (.inl v1)] [] σ (M_puts_L2  n v1 σ) := by
  intro n
  induction n with
  | zero => intros; exact G.none_
  | succ n ih =>
    intro v1 σ
    rw [M_puts_L2]
    refine g_iload_n dX12_puts_2 rfl rfl ?_
    refine g_sipush dX12_puts_3 (by decide) ?_
    refine g_icmpge (tgt := 27) dX12_puts_6 (by decide) ?_ ?_
    · refine g_aload_n dX12_puts_9 rfl rfl ?_
      refine g_getr' (q := 6) fl_RX12_38 km_0 (by decide) rfl dX12_puts_10 ?_
      refine g_iload_n dX12_puts_13 rfl rfl ?_
      refine g_aload_n dX12_puts_14 rfl rfl ?_
      refine g_getr' (q := 5) fl_RX12_35 km_0 (by decide) rfl dX12_puts_15 ?_
      refine g_iload_n dX12_puts_18 rfl rfl ?_
      refine g_iald km_5 dX12_puts_19 ?_
      intro x1
      refine g_iast km_6 dX12_puts_20 ?_
      intro s2
      refine n_iinc (fun x3 => [some (.inr (.inr 0)), some (.inl x3)]) dX12_puts_21 rfl (Nat.le_of_ble_eq_true rfl) (fun _ => rfl) ?_
      intro x3
      refine g_goto (tgt := 2) dX12_puts_24 (by decide) ?_
      exact (ih x3 s2)
    · exact g_vret dX12_puts_27
def M_puts  (σ : Sg) : Rs := (M_puts_L2 fu 0 σ)
theorem ok_M_puts (σ : Sg) : MC l Km Pm yX12_puts cX12_puts 2 2 1 [.inr (.inr 0)] σ (M_puts σ) := by
  refine mc_of (by decide) (Nat.le_of_ble_eq_true rfl) ?_
  change G l Km Pm RX12 cX12_puts 2 2 1 0 [some (.inr (.inr 0)), none] [] σ (M_puts  σ)
  unfold M_puts
  refine g_iconst dX12_puts_0 (by decide) ?_
  refine g_istore_n (lv' := [some (.inr (.inr 0)), some (.inl 0)]) dX12_puts_1 rfl (Nat.le_of_ble_eq_true rfl) rfl ?_
  refine (ok_M_puts_L2 fu 0 σ)
theorem dX12_goesAhead_0 : decode cX12_goesAhead 0 = .ok (.aload_n 0, 1) := by decide +kernel
theorem dX12_goesAhead_1 : decode cX12_goesAhead 1 = .ok (.invokevirtual 406, 3) := by decide +kernel
theorem dX12_goesAhead_4 : decode cX12_goesAhead 4 = .ok (.iconst 0, 1) := by decide +kernel
theorem dX12_goesAhead_5 : decode cX12_goesAhead 5 = .ok (.istore_n 2, 1) := by decide +kernel
theorem dX12_goesAhead_6 : decode cX12_goesAhead 6 = .ok (.iload_n 2, 1) := by decide +kernel
theorem dX12_goesAhead_7 : decode cX12_goesAhead 7 = .ok (.iload_n 1, 1) := by decide +kernel
theorem dX12_goesAhead_8 : decode cX12_goesAhead 8 = .ok (.if_icmp .ge 14, 3) := by decide +kernel
theorem dX12_goesAhead_11 : decode cX12_goesAhead 11 = .ok (.aload_n 0, 1) := by decide +kernel
theorem dX12_goesAhead_12 : decode cX12_goesAhead 12 = .ok (.invokevirtual 381, 3) := by decide +kernel
theorem dX12_goesAhead_15 : decode cX12_goesAhead 15 = .ok (.pop, 1) := by decide +kernel
theorem dX12_goesAhead_16 : decode cX12_goesAhead 16 = .ok (.iinc 2 1, 3) := by decide +kernel
theorem dX12_goesAhead_19 : decode cX12_goesAhead 19 = .ok (.goto (-13), 3) := by decide +kernel
theorem dX12_goesAhead_22 : decode cX12_goesAhead 22 = .ok (.return_, 1) := by decide +kernel
theorem mw_X12_goesAhead : MW yX12_goesAhead cX12_goesAhead 3 2 1 false := ⟨tm 2149 (by decide +kernel) rfl, tm 249 (by decide +kernel) rfl, by decide, by decide, (by rw [if_neg (by decide)]; exact ⟨tm 2148 (by decide +kernel) rfl, tm 194 (by decide +kernel) rfl⟩)⟩
theorem lk_RX12_406 : LK RX12 406 yX12_puts := Or.inl (tm 2150 (by decide +kernel) rfl)
def M_goesAhead_L6 (a1 : Int) : Nat → Int → Sg → Rs
  | 0, _, _ => none
  | n + 1, v2, σ => (if v2 < a1 then (bd (M_goesDay σ) (fun r3 s4 => (nm (w32 (v2 + 1)) (fun x5 => (M_goesAhead_L6 a1 n x5 s4))))) else (some (0, σ)))
theorem ok_M_goesAhead_L6 (a1 : Int) : ∀ (n : Nat) (v2 : Int) (σ : Sg), G l Km Pm RX12 cX12_goesAhead 3 2 6 6 [some (.inr (.inr 0)), some (.inl a1), some (.inl v2)] [] σ (M_goesAhead_L6 a1 n v2 σ) := by
  intro n
  induction n with
  | zero => intros; exact G.none_
  | succ n ih =>
    intro v2 σ
    rw [M_goesAhead_L6]
    refine g_iload_n dX12_goesAhead_6 rfl rfl ?_
    refine g_iload_n dX12_goesAhead_7 rfl rfl ?_
    refine g_icmpge (tgt := 22) dX12_goesAhead_8 (by decide) ?_ ?_
    · refine g_aload_n dX12_goesAhead_11 rfl rfl ?_
      refine g_callv0 (st := []) 10 mw_X12_goesDay lk_RX12_381 rfl km_0 (ok_M_goesDay σ) (Nat.le_of_ble_eq_true rfl) rfl rfl (Nat.le_of_ble_eq_true rfl) dX12_goesAhead_12 ?_
      intro r3 s4
      refine g_pop dX12_goesAhead_15 rfl ?_
      refine n_iinc (fun x5 => [some (.inr (.inr 0)), some (.inl a1), some (.inl x5)]) dX12_goesAhead_16 rfl (Nat.le_of_ble_eq_true rfl) (fun _ => rfl) ?_
      intro x5
      refine g_goto (tgt := 6) dX12_goesAhead_19 (by decide) ?_
      exact (ih x5 s4)
    · exact g_vret dX12_goesAhead_22
def M_goesAhead (a1 : Int) (σ : Sg) : Rs := (bd (M_puts σ) (fun r1 s2 => (M_goesAhead_L6 a1 fu 0 s2)))
theorem ok_M_goesAhead (a1 : Int) (σ : Sg) : MC l Km Pm yX12_goesAhead cX12_goesAhead 3 2 6 [.inr (.inr 0), .inl a1] σ (M_goesAhead a1 σ) := by
  refine mc_of (by decide) (Nat.le_of_ble_eq_true rfl) ?_
  change G l Km Pm RX12 cX12_goesAhead 3 2 6 0 [some (.inr (.inr 0)), some (.inl a1), none] [] σ (M_goesAhead a1 σ)
  unfold M_goesAhead
  refine g_aload_n dX12_goesAhead_0 rfl rfl ?_
  refine g_callv2 (st := []) 10 mw_X12_puts lk_RX12_406 rfl km_0 (ok_M_puts σ) (Nat.le_of_ble_eq_true rfl) rfl rfl (Nat.le_of_ble_eq_true rfl) dX12_goesAhead_1 ?_
  intro r1 s2
  refine g_iconst dX12_goesAhead_4 (by decide) ?_
  refine g_istore_n (lv' := [some (.inr (.inr 0)), some (.inl a1), some (.inl 0)]) dX12_goesAhead_5 rfl (Nat.le_of_ble_eq_true rfl) rfl ?_
  refine (ok_M_goesAhead_L6 a1 fu 0 s2)
theorem dX12_lengthIn_0 : decode cX12_lengthIn 0 = .ok (.iconst 0, 1) := by decide +kernel
theorem dX12_lengthIn_1 : decode cX12_lengthIn 1 = .ok (.aload_n 0, 1) := by decide +kernel
theorem dX12_lengthIn_2 : decode cX12_lengthIn 2 = .ok (.getfield 35, 3) := by decide +kernel
theorem dX12_lengthIn_5 : decode cX12_lengthIn 5 = .ok (.bipush 17, 2) := by decide +kernel
theorem dX12_lengthIn_7 : decode cX12_lengthIn 7 = .ok (.iload_n 2, 1) := by decide +kernel
theorem dX12_lengthIn_8 : decode cX12_lengthIn 8 = .ok (.iadd, 1) := by decide +kernel
theorem dX12_lengthIn_9 : decode cX12_lengthIn 9 = .ok (.iaload, 1) := by decide +kernel
theorem dX12_lengthIn_10 : decode cX12_lengthIn 10 = .ok (.aload_n 0, 1) := by decide +kernel
theorem dX12_lengthIn_11 : decode cX12_lengthIn 11 = .ok (.getfield 35, 3) := by decide +kernel
theorem dX12_lengthIn_14 : decode cX12_lengthIn 14 = .ok (.bipush 97, 2) := by decide +kernel
theorem dX12_lengthIn_16 : decode cX12_lengthIn 16 = .ok (.bipush 8, 2) := by decide +kernel
theorem dX12_lengthIn_18 : decode cX12_lengthIn 18 = .ok (.iload_n 1, 1) := by decide +kernel
theorem dX12_lengthIn_19 : decode cX12_lengthIn 19 = .ok (.imul, 1) := by decide +kernel
theorem dX12_lengthIn_20 : decode cX12_lengthIn 20 = .ok (.iadd, 1) := by decide +kernel
theorem dX12_lengthIn_21 : decode cX12_lengthIn 21 = .ok (.iload_n 2, 1) := by decide +kernel
theorem dX12_lengthIn_22 : decode cX12_lengthIn 22 = .ok (.iadd, 1) := by decide +kernel
theorem dX12_lengthIn_23 : decode cX12_lengthIn 23 = .ok (.iaload, 1) := by decide +kernel
theorem dX12_lengthIn_24 : decode cX12_lengthIn 24 = .ok (.isub, 1) := by decide +kernel
theorem dX12_lengthIn_25 : decode cX12_lengthIn 25 = .ok (.invokestatic 246, 3) := by decide +kernel
theorem dX12_lengthIn_28 : decode cX12_lengthIn 28 = .ok (.istore 4, 2) := by decide +kernel
theorem dX12_lengthIn_30 : decode cX12_lengthIn 30 = .ok (.aload_n 0, 1) := by decide +kernel
theorem dX12_lengthIn_31 : decode cX12_lengthIn 31 = .ok (.getfield 35, 3) := by decide +kernel
theorem dX12_lengthIn_34 : decode cX12_lengthIn 34 = .ok (.bipush 49, 2) := by decide +kernel
theorem dX12_lengthIn_36 : decode cX12_lengthIn 36 = .ok (.bipush 8, 2) := by decide +kernel
theorem dX12_lengthIn_38 : decode cX12_lengthIn 38 = .ok (.iload_n 1, 1) := by decide +kernel
theorem dX12_lengthIn_39 : decode cX12_lengthIn 39 = .ok (.imul, 1) := by decide +kernel
theorem dX12_lengthIn_40 : decode cX12_lengthIn 40 = .ok (.iadd, 1) := by decide +kernel
theorem dX12_lengthIn_41 : decode cX12_lengthIn 41 = .ok (.iload_n 2, 1) := by decide +kernel
theorem dX12_lengthIn_42 : decode cX12_lengthIn 42 = .ok (.iadd, 1) := by decide +kernel
theorem dX12_lengthIn_43 : decode cX12_lengthIn 43 = .ok (.iaload, 1) := by decide +kernel
theorem dX12_lengthIn_44 : decode cX12_lengthIn 44 = .ok (.aload_n 0, 1) := by decide +kernel
theorem dX12_lengthIn_45 : decode cX12_lengthIn 45 = .ok (.getfield 35, 3) := by decide +kernel
theorem dX12_lengthIn_48 : decode cX12_lengthIn 48 = .ok (.bipush 9, 2) := by decide +kernel
theorem dX12_lengthIn_50 : decode cX12_lengthIn 50 = .ok (.iload_n 2, 1) := by decide +kernel
theorem dX12_lengthIn_51 : decode cX12_lengthIn 51 = .ok (.iadd, 1) := by decide +kernel
theorem dX12_lengthIn_52 : decode cX12_lengthIn 52 = .ok (.iaload, 1) := by decide +kernel
theorem dX12_lengthIn_53 : decode cX12_lengthIn 53 = .ok (.iload_n 3, 1) := by decide +kernel
theorem dX12_lengthIn_54 : decode cX12_lengthIn 54 = .ok (.iload 4, 2) := by decide +kernel
theorem dX12_lengthIn_56 : decode cX12_lengthIn 56 = .ok (.invokestatic 363, 3) := by decide +kernel
theorem dX12_lengthIn_59 : decode cX12_lengthIn 59 = .ok (.imul, 1) := by decide +kernel
theorem dX12_lengthIn_60 : decode cX12_lengthIn 60 = .ok (.iadd, 1) := by decide +kernel
theorem dX12_lengthIn_61 : decode cX12_lengthIn 61 = .ok (.ireturn, 1) := by decide +kernel
theorem mw_X12_lengthIn : MW yX12_lengthIn cX12_lengthIn 5 0 3 false := ⟨tm 2197 (by decide +kernel) rfl, tm 249 (by decide +kernel) rfl, by decide, by decide, (by rw [if_neg (by decide)]; exact ⟨tm 2196 (by decide +kernel) rfl, tm 200 (by decide +kernel) rfl⟩)⟩
theorem mx_RX12_246 : MX RX12 246 Lib.Math.max.name Lib.Math.max.code 2 (some .int) := ⟨tm 1923 (by decide +kernel) rfl, tm 1134 (by decide +kernel) rfl, tm 251 (by decide +kernel) rfl, tm 1135 (by decide +kernel) rfl⟩
def M_lengthIn (a1 : Int) (a2 : Int) (a3 : Int) (σ : Sg) : Rs := (rd 2235 (w32 (17 + a2)) (σ 5 (Int.toNat (w32 (17 + a2)))) (fun x1 => (rd 2235 (w32 ((w32 (97 + (w32 (8 * a1)))) + a2)) (σ 5 (Int.toNat (w32 ((w32 (97 + (w32 (8 * a1)))) + a2)))) (fun x2 => (nm (max 0 (w32 (x1 - x2))) (fun x3 => (rd 2235 (w32 ((w32 (49 + (w32 (8 * a1)))) + a2)) (σ 5 (Int.toNat (w32 ((w32 (49 + (w32 (8 * a1)))) + a2)))) (fun x4 => (rd 2235 (w32 (9 + a2)) (σ 5 (Int.toNat (w32 (9 + a2)))) (fun x5 => (some ((w32 (x4 + (w32 (x5 * (min a3 x3))))), σ))))))))))))
theorem ok_M_lengthIn (a1 : Int) (a2 : Int) (a3 : Int) (σ : Sg) : MC l Km Pm yX12_lengthIn cX12_lengthIn 5 0 2 [.inr (.inr 0), .inl a1, .inl a2, .inl a3] σ (M_lengthIn a1 a2 a3 σ) := by
  refine mc_of (by decide) (Nat.le_of_ble_eq_true rfl) ?_
  change G l Km Pm RX12 cX12_lengthIn 5 0 2 0 [some (.inr (.inr 0)), some (.inl a1), some (.inl a2), some (.inl a3), none] [] σ (M_lengthIn a1 a2 a3 σ)
  unfold M_lengthIn
  refine g_iconst dX12_lengthIn_0 (by decide) ?_
  refine g_aload_n dX12_lengthIn_1 rfl rfl ?_
  refine g_getr' (q := 5) fl_RX12_35 km_0 (by decide) rfl dX12_lengthIn_2 ?_
  refine g_bipush dX12_lengthIn_5 (by decide) ?_
  refine g_iload_n dX12_lengthIn_7 rfl rfl ?_
  refine g_iadd dX12_lengthIn_8 ?_
  refine g_iald km_5 dX12_lengthIn_9 ?_
  intro x1
  refine g_aload_n dX12_lengthIn_10 rfl rfl ?_
  refine g_getr' (q := 5) fl_RX12_35 km_0 (by decide) rfl dX12_lengthIn_11 ?_
  refine g_bipush dX12_lengthIn_14 (by decide) ?_
  refine g_bipush dX12_lengthIn_16 (by decide) ?_
  refine g_iload_n dX12_lengthIn_18 rfl rfl ?_
  refine g_imul dX12_lengthIn_19 ?_
  refine g_iadd dX12_lengthIn_20 ?_
  refine g_iload_n dX12_lengthIn_21 rfl rfl ?_
  refine g_iadd dX12_lengthIn_22 ?_
  refine g_iald km_5 dX12_lengthIn_23 ?_
  intro x2
  refine g_isub dX12_lengthIn_24 ?_
  refine g_mmax mx_RX12_246 (Nat.le_of_ble_eq_true rfl) (Nat.le_of_ble_eq_true rfl) dX12_lengthIn_25 ?_
  refine n_istore (fun x3 => [some (.inr (.inr 0)), some (.inl a1), some (.inl a2), some (.inl a3), some (.inl x3)]) dX12_lengthIn_28 (Nat.le_of_ble_eq_true rfl) (fun _ => rfl) ?_
  intro x3
  refine g_aload_n dX12_lengthIn_30 rfl rfl ?_
  refine g_getr' (q := 5) fl_RX12_35 km_0 (by decide) rfl dX12_lengthIn_31 ?_
  refine g_bipush dX12_lengthIn_34 (by decide) ?_
  refine g_bipush dX12_lengthIn_36 (by decide) ?_
  refine g_iload_n dX12_lengthIn_38 rfl rfl ?_
  refine g_imul dX12_lengthIn_39 ?_
  refine g_iadd dX12_lengthIn_40 ?_
  refine g_iload_n dX12_lengthIn_41 rfl rfl ?_
  refine g_iadd dX12_lengthIn_42 ?_
  refine g_iald km_5 dX12_lengthIn_43 ?_
  intro x4
  refine g_aload_n dX12_lengthIn_44 rfl rfl ?_
  refine g_getr' (q := 5) fl_RX12_35 km_0 (by decide) rfl dX12_lengthIn_45 ?_
  refine g_bipush dX12_lengthIn_48 (by decide) ?_
  refine g_iload_n dX12_lengthIn_50 rfl rfl ?_
  refine g_iadd dX12_lengthIn_51 ?_
  refine g_iald km_5 dX12_lengthIn_52 ?_
  intro x5
  refine g_iload_n dX12_lengthIn_53 rfl rfl ?_
  refine g_iload dX12_lengthIn_54 rfl ?_
  refine g_mmin mx_RX12_363 (Nat.le_of_ble_eq_true rfl) (Nat.le_of_ble_eq_true rfl) dX12_lengthIn_56 ?_
  refine g_imul dX12_lengthIn_59 ?_
  refine g_iadd dX12_lengthIn_60 ?_
  exact g_iret dX12_lengthIn_61
theorem dX12_hairBy_0 : decode cX12_hairBy 0 = .ok (.iconst 0, 1) := by decide +kernel
theorem dX12_hairBy_1 : decode cX12_hairBy 1 = .ok (.istore 4, 2) := by decide +kernel
theorem dX12_hairBy_3 : decode cX12_hairBy 3 = .ok (.iconst 0, 1) := by decide +kernel
theorem dX12_hairBy_4 : decode cX12_hairBy 4 = .ok (.istore 5, 2) := by decide +kernel
theorem dX12_hairBy_6 : decode cX12_hairBy 6 = .ok (.iload 5, 2) := by decide +kernel
theorem dX12_hairBy_8 : decode cX12_hairBy 8 = .ok (.aload_n 0, 1) := by decide +kernel
theorem dX12_hairBy_9 : decode cX12_hairBy 9 = .ok (.getfield 35, 3) := by decide +kernel
theorem dX12_hairBy_12 : decode cX12_hairBy 12 = .ok (.iconst 0, 1) := by decide +kernel
theorem dX12_hairBy_13 : decode cX12_hairBy 13 = .ok (.iaload, 1) := by decide +kernel
theorem dX12_hairBy_14 : decode cX12_hairBy 14 = .ok (.if_icmp .ge 35, 3) := by decide +kernel
theorem dX12_hairBy_17 : decode cX12_hairBy 17 = .ok (.iload 4, 2) := by decide +kernel
theorem dX12_hairBy_19 : decode cX12_hairBy 19 = .ok (.iload_n 2, 1) := by decide +kernel
theorem dX12_hairBy_20 : decode cX12_hairBy 20 = .ok (.iload 5, 2) := by decide +kernel
theorem dX12_hairBy_22 : decode cX12_hairBy 22 = .ok (.invokestatic 106, 3) := by decide +kernel
theorem dX12_hairBy_25 : decode cX12_hairBy 25 = .ok (.ifCond .eq 14, 3) := by decide +kernel
theorem dX12_hairBy_28 : decode cX12_hairBy 28 = .ok (.aload_n 0, 1) := by decide +kernel
theorem dX12_hairBy_29 : decode cX12_hairBy 29 = .ok (.iload_n 1, 1) := by decide +kernel
theorem dX12_hairBy_30 : decode cX12_hairBy 30 = .ok (.iload 5, 2) := by decide +kernel
theorem dX12_hairBy_32 : decode cX12_hairBy 32 = .ok (.iload_n 3, 1) := by decide +kernel
theorem dX12_hairBy_33 : decode cX12_hairBy 33 = .ok (.invokevirtual 421, 3) := by decide +kernel
theorem dX12_hairBy_36 : decode cX12_hairBy 36 = .ok (.goto 4, 3) := by decide +kernel
theorem dX12_hairBy_39 : decode cX12_hairBy 39 = .ok (.iconst 0, 1) := by decide +kernel
theorem dX12_hairBy_40 : decode cX12_hairBy 40 = .ok (.iadd, 1) := by decide +kernel
theorem dX12_hairBy_41 : decode cX12_hairBy 41 = .ok (.istore 4, 2) := by decide +kernel
theorem dX12_hairBy_43 : decode cX12_hairBy 43 = .ok (.iinc 5 1, 3) := by decide +kernel
theorem dX12_hairBy_46 : decode cX12_hairBy 46 = .ok (.goto (-40), 3) := by decide +kernel
theorem dX12_hairBy_49 : decode cX12_hairBy 49 = .ok (.iload 4, 2) := by decide +kernel
theorem dX12_hairBy_51 : decode cX12_hairBy 51 = .ok (.ireturn, 1) := by decide +kernel
theorem mw_X12_hairBy : MW yX12_hairBy cX12_hairBy 6 0 3 false := ⟨tm 2193 (by decide +kernel) rfl, tm 249 (by decide +kernel) rfl, by decide, by decide, (by rw [if_neg (by decide)]; exact ⟨tm 2192 (by decide +kernel) rfl, tm 199 (by decide +kernel) rfl⟩)⟩
theorem lk_RX12_421 : LK RX12 421 yX12_lengthIn := Or.inl (tm 2194 (by decide +kernel) rfl)
def M_hairBy_L6 (a1 : Int) (a2 : Int) (a3 : Int) : Nat → Int → Int → Sg → Rs
  | 0, _, _, _ => none
  | n + 1, v4, v5, σ => (rd 2235 0 (σ 5 (Int.toNat 0)) (fun x1 => (if v5 < x1 then (bd (M_has a2 v5 σ) (fun r2 s3 => (if r2 = 0 then (nm (w32 (v4 + 0)) (fun x4 => (nm (w32 (v5 + 1)) (fun x5 => (M_hairBy_L6 a1 a2 a3 n x4 x5 s3))))) else (bd (M_lengthIn a1 v5 a3 s3) (fun r6 s7 => (nm (w32 (v4 + r6)) (fun x8 => (nm (w32 (v5 + 1)) (fun x9 => (M_hairBy_L6 a1 a2 a3 n x8 x9 s7)))))))))) else (some (v4, σ)))))
theorem ok_M_hairBy_L6 (a1 : Int) (a2 : Int) (a3 : Int) : ∀ (n : Nat) (v4 v5 : Int) (σ : Sg), G l Km Pm RX12 cX12_hairBy 6 0 3 6 [some (.inr (.inr 0)), some (.inl a1), some (.inl a2), some (.inl a3), some (.inl v4), some (.inl v5)] [] σ (M_hairBy_L6 a1 a2 a3 n v4 v5 σ) := by
  intro n
  induction n with
  | zero => intros; exact G.none_
  | succ n ih =>
    intro v4 v5 σ
    rw [M_hairBy_L6]
    refine g_iload dX12_hairBy_6 rfl ?_
    refine g_aload_n dX12_hairBy_8 rfl rfl ?_
    refine g_getr' (q := 5) fl_RX12_35 km_0 (by decide) rfl dX12_hairBy_9 ?_
    refine g_iconst dX12_hairBy_12 (by decide) ?_
    refine g_iald km_5 dX12_hairBy_13 ?_
    intro x1
    refine g_icmpge (tgt := 49) dX12_hairBy_14 (by decide) ?_ ?_
    · refine g_iload dX12_hairBy_17 rfl ?_
      refine g_iload_n dX12_hairBy_19 rfl rfl ?_
      refine g_iload dX12_hairBy_20 rfl ?_
      refine g_calls3 (st := [.inl v4]) mw_X12_has lk_RX12_106 (ok_M_has a2 v5 σ) (Nat.le_of_ble_eq_true rfl) rfl rfl (Nat.le_of_ble_eq_true rfl) dX12_hairBy_22 ?_
      intro r2 s3
      refine g_ifeq (tgt := 39) dX12_hairBy_25 (by decide) ?_ ?_
      · refine g_iconst dX12_hairBy_39 (by decide) ?_
        refine g_iadd dX12_hairBy_40 ?_
        refine n_istore (fun x4 => [some (.inr (.inr 0)), some (.inl a1), some (.inl a2), some (.inl a3), some (.inl x4), some (.inl v5)]) dX12_hairBy_41 (Nat.le_of_ble_eq_true rfl) (fun _ => rfl) ?_
        intro x4
        refine n_iinc (fun x5 => [some (.inr (.inr 0)), some (.inl a1), some (.inl a2), some (.inl a3), some (.inl x4), some (.inl x5)]) dX12_hairBy_43 rfl (Nat.le_of_ble_eq_true rfl) (fun _ => rfl) ?_
        intro x5
        refine g_goto (tgt := 6) dX12_hairBy_46 (by decide) ?_
        exact (ih x4 x5 s3)
      · refine g_aload_n dX12_hairBy_28 rfl rfl ?_
        refine g_iload_n dX12_hairBy_29 rfl rfl ?_
        refine g_iload dX12_hairBy_30 rfl ?_
        refine g_iload_n dX12_hairBy_32 rfl rfl ?_
        refine g_callv0 (st := [.inl v4]) 10 mw_X12_lengthIn lk_RX12_421 rfl km_0 (ok_M_lengthIn a1 v5 a3 s3) (Nat.le_of_ble_eq_true rfl) rfl rfl (Nat.le_of_ble_eq_true rfl) dX12_hairBy_33 ?_
        intro r6 s7
        refine g_goto (tgt := 40) dX12_hairBy_36 (by decide) ?_
        refine g_iadd dX12_hairBy_40 ?_
        refine n_istore (fun x8 => [some (.inr (.inr 0)), some (.inl a1), some (.inl a2), some (.inl a3), some (.inl x8), some (.inl v5)]) dX12_hairBy_41 (Nat.le_of_ble_eq_true rfl) (fun _ => rfl) ?_
        intro x8
        refine n_iinc (fun x9 => [some (.inr (.inr 0)), some (.inl a1), some (.inl a2), some (.inl a3), some (.inl x8), some (.inl x9)]) dX12_hairBy_43 rfl (Nat.le_of_ble_eq_true rfl) (fun _ => rfl) ?_
        intro x9
        refine g_goto (tgt := 6) dX12_hairBy_46 (by decide) ?_
        exact (ih x8 x9 s7)
    · refine g_iload dX12_hairBy_49 rfl ?_
      exact g_iret dX12_hairBy_51
def M_hairBy (a1 : Int) (a2 : Int) (a3 : Int) (σ : Sg) : Rs := (M_hairBy_L6 a1 a2 a3 fu 0 0 σ)
theorem ok_M_hairBy (a1 : Int) (a2 : Int) (a3 : Int) (σ : Sg) : MC l Km Pm yX12_hairBy cX12_hairBy 6 0 3 [.inr (.inr 0), .inl a1, .inl a2, .inl a3] σ (M_hairBy a1 a2 a3 σ) := by
  refine mc_of (by decide) (Nat.le_of_ble_eq_true rfl) ?_
  change G l Km Pm RX12 cX12_hairBy 6 0 3 0 [some (.inr (.inr 0)), some (.inl a1), some (.inl a2), some (.inl a3), none, none] [] σ (M_hairBy a1 a2 a3 σ)
  unfold M_hairBy
  refine g_iconst dX12_hairBy_0 (by decide) ?_
  refine g_istore (lv' := [some (.inr (.inr 0)), some (.inl a1), some (.inl a2), some (.inl a3), some (.inl 0), none]) dX12_hairBy_1 (Nat.le_of_ble_eq_true rfl) rfl ?_
  refine g_iconst dX12_hairBy_3 (by decide) ?_
  refine g_istore (lv' := [some (.inr (.inr 0)), some (.inl a1), some (.inl a2), some (.inl a3), some (.inl 0), some (.inl 0)]) dX12_hairBy_4 (Nat.le_of_ble_eq_true rfl) rfl ?_
  refine (ok_M_hairBy_L6 a1 a2 a3 fu 0 0 σ)
theorem dX12_isAhead_0 : decode cX12_isAhead 0 = .ok (.iload_n 0, 1) := by decide +kernel
theorem dX12_isAhead_1 : decode cX12_isAhead 1 = .ok (.i2l, 1) := by decide +kernel
theorem dX12_isAhead_2 : decode cX12_isAhead 2 = .ok (.lconst 0, 1) := by decide +kernel
theorem dX12_isAhead_3 : decode cX12_isAhead 3 = .ok (.ldc2_w 404, 3) := by decide +kernel
theorem dX12_isAhead_6 : decode cX12_isAhead 6 = .ok (.invokestatic 102, 3) := by decide +kernel
theorem dX12_isAhead_9 : decode cX12_isAhead 9 = .ok (.ireturn, 1) := by decide +kernel
theorem mw_X12_isAhead : MW yX12_isAhead cX12_isAhead 1 3 1 true := ⟨tm 2144 (by decide +kernel) rfl, tm 249 (by decide +kernel) rfl, by decide, by decide, (by rw [if_pos rfl]; exact tm 2143 (by decide +kernel) rfl)⟩
def M_isAhead (a0 : Int) (σ : Sg) : Rs := (bd (M_isIn a0 0 200 σ) (fun r1 s2 => (zb r1 (some (r1, s2)))))
theorem ok_M_isAhead (a0 : Int) (σ : Sg) : MC l Km Pm yX12_isAhead cX12_isAhead 1 3 2 [.inl a0] σ (M_isAhead a0 σ) := by
  refine mc_of (by decide) (Nat.le_of_ble_eq_true rfl) ?_
  change G l Km Pm RX12 cX12_isAhead 1 3 2 0 [some (.inl a0)] [] σ (M_isAhead a0 σ)
  unfold M_isAhead
  refine g_iload_n dX12_isAhead_0 rfl rfl ?_
  refine g_i2l dX12_isAhead_1 ?_
  refine g_lconst (v := 0) dX12_isAhead_2 (by decide) ?_
  refine g_ldc2 (n := 200) (tm 2145 (by decide +kernel) rfl) (by decide) dX12_isAhead_3 ?_
  refine g_calls3 (st := []) mw_X12_isIn lk_RX12_102 (ok_M_isIn a0 0 200 σ) (Nat.le_of_ble_eq_true rfl) rfl rfl (Nat.le_of_ble_eq_true rfl) dX12_isAhead_6 ?_
  intro r1 s2
  exact g_zret dX12_isAhead_9
theorem dX12_hairIn_0 : decode cX12_hairIn 0 = .ok (.aload_n 0, 1) := by decide +kernel
theorem dX12_hairIn_1 : decode cX12_hairIn 1 = .ok (.iconst 0, 1) := by decide +kernel
theorem dX12_hairIn_2 : decode cX12_hairIn 2 = .ok (.putfield 67, 3) := by decide +kernel
theorem dX12_hairIn_5 : decode cX12_hairIn 5 = .ok (.aload_n 0, 1) := by decide +kernel
theorem dX12_hairIn_6 : decode cX12_hairIn 6 = .ok (.iconst 0, 1) := by decide +kernel
theorem dX12_hairIn_7 : decode cX12_hairIn 7 = .ok (.putfield 70, 3) := by decide +kernel
theorem dX12_hairIn_10 : decode cX12_hairIn 10 = .ok (.aload_n 0, 1) := by decide +kernel
theorem dX12_hairIn_11 : decode cX12_hairIn 11 = .ok (.iload_n 1, 1) := by decide +kernel
theorem dX12_hairIn_12 : decode cX12_hairIn 12 = .ok (.invokevirtual 345, 3) := by decide +kernel
theorem dX12_hairIn_15 : decode cX12_hairIn 15 = .ok (.ifCond .ne 9, 3) := by decide +kernel
theorem dX12_hairIn_18 : decode cX12_hairIn 18 = .ok (.aload_n 0, 1) := by decide +kernel
theorem dX12_hairIn_19 : decode cX12_hairIn 19 = .ok (.iconst 2, 1) := by decide +kernel
theorem dX12_hairIn_20 : decode cX12_hairIn 20 = .ok (.invokevirtual 325, 3) := by decide +kernel
theorem dX12_hairIn_23 : decode cX12_hairIn 23 = .ok (.ireturn, 1) := by decide +kernel
theorem dX12_hairIn_24 : decode cX12_hairIn 24 = .ok (.iload_n 2, 1) := by decide +kernel
theorem dX12_hairIn_25 : decode cX12_hairIn 25 = .ok (.invokestatic 409, 3) := by decide +kernel
theorem dX12_hairIn_28 : decode cX12_hairIn 28 = .ok (.ifCond .ne 9, 3) := by decide +kernel
theorem dX12_hairIn_31 : decode cX12_hairIn 31 = .ok (.aload_n 0, 1) := by decide +kernel
theorem dX12_hairIn_32 : decode cX12_hairIn 32 = .ok (.iconst 5, 1) := by decide +kernel
theorem dX12_hairIn_33 : decode cX12_hairIn 33 = .ok (.invokevirtual 325, 3) := by decide +kernel
theorem dX12_hairIn_36 : decode cX12_hairIn 36 = .ok (.ireturn, 1) := by decide +kernel
theorem dX12_hairIn_37 : decode cX12_hairIn 37 = .ok (.aload_n 0, 1) := by decide +kernel
theorem dX12_hairIn_38 : decode cX12_hairIn 38 = .ok (.iload_n 2, 1) := by decide +kernel
theorem dX12_hairIn_39 : decode cX12_hairIn 39 = .ok (.invokevirtual 412, 3) := by decide +kernel
theorem dX12_hairIn_42 : decode cX12_hairIn 42 = .ok (.aload_n 0, 1) := by decide +kernel
theorem dX12_hairIn_43 : decode cX12_hairIn 43 = .ok (.iload_n 1, 1) := by decide +kernel
theorem dX12_hairIn_44 : decode cX12_hairIn 44 = .ok (.invokevirtual 320, 3) := by decide +kernel
theorem dX12_hairIn_47 : decode cX12_hairIn 47 = .ok (.istore_n 3, 1) := by decide +kernel
theorem dX12_hairIn_48 : decode cX12_hairIn 48 = .ok (.aload_n 0, 1) := by decide +kernel
theorem dX12_hairIn_49 : decode cX12_hairIn 49 = .ok (.invokevirtual 415, 3) := by decide +kernel
theorem dX12_hairIn_52 : decode cX12_hairIn 52 = .ok (.iload_n 3, 1) := by decide +kernel
theorem dX12_hairIn_53 : decode cX12_hairIn 53 = .ok (.ireturn, 1) := by decide +kernel
theorem mw_X12_hairIn : MW yX12_hairIn cX12_hairIn 4 0 2 false := ⟨tm 2141 (by decide +kernel) rfl, tm 249 (by decide +kernel) rfl, by decide, by decide, (by rw [if_neg (by decide)]; exact ⟨tm 2139 (by decide +kernel) rfl, tm 2140 (by decide +kernel) rfl⟩)⟩
theorem lk_RX12_409 : LK RX12 409 yX12_isAhead := Or.inl (tm 2142 (by decide +kernel) rfl)
theorem lk_RX12_412 : LK RX12 412 yX12_goesAhead := Or.inl (tm 2146 (by decide +kernel) rfl)
theorem lk_RX12_415 : LK RX12 415 yX12_gives := Or.inl (tm 2154 (by decide +kernel) rfl)
def M_hairIn (a1 : Int) (a2 : Int) (σ : Sg) : Rs := (nm (up_s σ 0 1 0) (fun s1 => (nm (up_s s1 0 0 0) (fun s2 => (bd (M_isPersonAt a1 s2) (fun r3 s4 => (if r3 = 0 then (bd (M_refuse 2 s4) (fun r5 s6 => (some (r5, s6)))) else (bd (M_isAhead a2 s4) (fun r7 s8 => (if r7 = 0 then (bd (M_refuse 5 s8) (fun r9 s10 => (some (r9, s10)))) else (bd (M_goesAhead a2 s8) (fun r11 s12 => (bd (M_hairOf a1 s12) (fun r13 s14 => (bd (M_gives s14) (fun r15 s16 => (some (r13, s16))))))))))))))))))
theorem ok_M_hairIn (a1 : Int) (a2 : Int) (σ : Sg) : MC l Km Pm yX12_hairIn cX12_hairIn 4 0 7 [.inr (.inr 0), .inl a1, .inl a2] σ (M_hairIn a1 a2 σ) := by
  refine mc_of (by decide) (Nat.le_of_ble_eq_true rfl) ?_
  change G l Km Pm RX12 cX12_hairIn 4 0 7 0 [some (.inr (.inr 0)), some (.inl a1), some (.inl a2), none] [] σ (M_hairIn a1 a2 σ)
  unfold M_hairIn
  refine g_aload_n dX12_hairIn_0 rfl rfl ?_
  refine g_iconst dX12_hairIn_1 (by decide) ?_
  refine g_puti fl_RX12_67 km_0 (by decide) dX12_hairIn_2 ?_
  intro s1
  refine g_aload_n dX12_hairIn_5 rfl rfl ?_
  refine g_iconst dX12_hairIn_6 (by decide) ?_
  refine g_puti fl_RX12_70 km_0 (by decide) dX12_hairIn_7 ?_
  intro s2
  refine g_aload_n dX12_hairIn_10 rfl rfl ?_
  refine g_iload_n dX12_hairIn_11 rfl rfl ?_
  refine g_callv3 (st := []) 10 mw_X12_isPersonAt lk_RX12_345 rfl km_0 (ok_M_isPersonAt a1 s2) (Nat.le_of_ble_eq_true rfl) rfl rfl (Nat.le_of_ble_eq_true rfl) dX12_hairIn_12 ?_
  intro r3 s4
  refine g_ifne (tgt := 24) dX12_hairIn_15 (by decide) ?_ ?_
  · refine g_aload_n dX12_hairIn_18 rfl rfl ?_
    refine g_iconst dX12_hairIn_19 (by decide) ?_
    refine g_callv0 (st := []) 10 mw_X12_refuse lk_RX12_325 rfl km_0 (ok_M_refuse 2 s4) (Nat.le_of_ble_eq_true rfl) rfl rfl (Nat.le_of_ble_eq_true rfl) dX12_hairIn_20 ?_
    intro r5 s6
    exact g_iret dX12_hairIn_23
  · refine g_iload_n dX12_hairIn_24 rfl rfl ?_
    refine g_calls3 (st := []) mw_X12_isAhead lk_RX12_409 (ok_M_isAhead a2 s4) (Nat.le_of_ble_eq_true rfl) rfl rfl (Nat.le_of_ble_eq_true rfl) dX12_hairIn_25 ?_
    intro r7 s8
    refine g_ifne (tgt := 37) dX12_hairIn_28 (by decide) ?_ ?_
    · refine g_aload_n dX12_hairIn_31 rfl rfl ?_
      refine g_iconst dX12_hairIn_32 (by decide) ?_
      refine g_callv0 (st := []) 10 mw_X12_refuse lk_RX12_325 rfl km_0 (ok_M_refuse 5 s8) (Nat.le_of_ble_eq_true rfl) rfl rfl (Nat.le_of_ble_eq_true rfl) dX12_hairIn_33 ?_
      intro r9 s10
      exact g_iret dX12_hairIn_36
    · refine g_aload_n dX12_hairIn_37 rfl rfl ?_
      refine g_iload_n dX12_hairIn_38 rfl rfl ?_
      refine g_callv2 (st := []) 10 mw_X12_goesAhead lk_RX12_412 rfl km_0 (ok_M_goesAhead a2 s8) (Nat.le_of_ble_eq_true rfl) rfl rfl (Nat.le_of_ble_eq_true rfl) dX12_hairIn_39 ?_
      intro r11 s12
      refine g_aload_n dX12_hairIn_42 rfl rfl ?_
      refine g_iload_n dX12_hairIn_43 rfl rfl ?_
      refine g_callv0 (st := []) 10 mw_X12_hairOf lk_RX12_320 rfl km_0 (ok_M_hairOf a1 s12) (Nat.le_of_ble_eq_true rfl) rfl rfl (Nat.le_of_ble_eq_true rfl) dX12_hairIn_44 ?_
      intro r13 s14
      refine g_istore_n (lv' := [some (.inr (.inr 0)), some (.inl a1), some (.inl a2), some (.inl r13)]) dX12_hairIn_47 rfl (Nat.le_of_ble_eq_true rfl) rfl ?_
      refine g_aload_n dX12_hairIn_48 rfl rfl ?_
      refine g_callv2 (st := []) 10 mw_X12_gives lk_RX12_415 rfl km_0 (ok_M_gives s14) (Nat.le_of_ble_eq_true rfl) rfl rfl (Nat.le_of_ble_eq_true rfl) dX12_hairIn_49 ?_
      intro r15 s16
      refine g_iload_n dX12_hairIn_52 rfl rfl ?_
      exact g_iret dX12_hairIn_53
end WK
