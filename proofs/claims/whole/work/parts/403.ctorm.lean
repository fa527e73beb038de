/-! the reference's constructor -/
def zm0 : Sg := fun q k => if q = 0 ∧ k = 3 then 1 else if q = 0 ∧ k = 10 then -1 else if q = 0 ∧ k = 11 then -1 else if q = 2 ∧ k < 4 then -1 else 0
def zm : Sg := up_s (up_s zm0 5 4 3) 5 5 1
theorem em_L (n : Nat) : ∀ (i : Nat) (σ : Sg), i ≤ 447 → 447 - i < n → (∀ j, σ 5 j = 0) → M_empties_L8 0 (fun x4 s5 => (M_empties_J30 x4 s5)) n (i : Int) σ = M_empties_J30 0 σ := by
  induction n with
  | zero => intro i σ h1 h2; omega
  | succ n ih =>
    intro i σ h1 h2 h3
    rw [M_empties_L8]
    by_cases hi : i < 447
    · rw [if_pos (by omega)]
      have e1 : w32 (0 + (i : Int)) = i := by unfold w32; omega
      have e2 : w32 ((i : Int) + 1) = ((i + 1 : Nat) : Int) := by unfold w32; omega
      have e3 : up_s σ 5 (Int.toNat (i : Int)) 0 = σ := by
        funext a b
        rw [up_v]
        by_cases h : a = 5 ∧ b = Int.toNat (i : Int)
        · rw [if_pos h, h.1, h3]
        · rw [if_neg h]
      rw [e1, e3]
      unfold wr nm
      rw [if_pos (by omega), e2]
      exact ih (i + 1) σ (by omega) (by omega) h3
    · rw [if_neg (by omega)]
theorem em_1 (n : Nat) (hn : 447 < n) : M_empties_L8 0 (fun x4 s5 => (M_empties_J30 x4 s5)) n 0 zm0 = some (0, zm) := by
  refine (em_L n 0 zm0 (by omega) (by omega) (fun j => by simp [zm0])).trans ?_
  simp only [M_empties_J30, show w32 (0 + 4) = 4 by decide, show w32 (0 + 5) = 5 by decide]
  unfold wr
  rw [if_pos (by decide)]
  simp only []
  rw [if_pos (by decide)]
  rfl
theorem em_0 : M_empties 0 zm0 = some (0, zm) := by
  have h := em_1 fu (by unfold fu; omega)
  rw [M_empties, nm, show w32 (447 * 0) = 0 by decide]
  exact h
theorem cn_zm0 : cn_s Km zm0 := by
  intro q κ hq k
  have h : c32 (zm0 q k) ∧ c64 (zm0 q k) := by
    unfold zm0 c32 c64
    split <;> (try split) <;> (try split) <;> (try split) <;> omega
  cases κ with
  | inl ci => exact ⟨fun _ => h.2, fun _ => h.1⟩
  | inr tn => exact ⟨fun _ => h.2, fun _ => h.1⟩
section CM
variable {l : Launch} {D : va_G} {dA : Nat → ClassId} {a1 a2 : Nat}
theorem oi_RX12_1 : OI RX12 1 := ⟨tm 1563 (by decide +kernel) rfl, tm 261 (by decide +kernel) rfl, tm 262 (by decide +kernel) rfl⟩
theorem fc_RX12_13 : FC RX12 13 10 4 := ⟨_, _, _, _, cw_10, by decide, by decide, by decide, (fun _ => ⟨rfl, rfl⟩), tm 1572 (by decide +kernel) rfl⟩
theorem fc_RX12_17 : FC RX12 17 10 5 := ⟨_, _, _, _, cw_10, by decide, by decide, by decide, (fun _ => ⟨rfl, rfl⟩), tm 1573 (by decide +kernel) rfl⟩
theorem fc_RX12_20 : FC RX12 20 10 6 := ⟨_, _, _, _, cw_10, by decide, by decide, by decide, (fun _ => ⟨rfl, rfl⟩), tm 1574 (by decide +kernel) rfl⟩
theorem fc_RX12_24 : FC RX12 24 10 7 := ⟨_, _, _, _, cw_10, by decide, by decide, by decide, (fun _ => ⟨rfl, rfl⟩), tm 1575 (by decide +kernel) rfl⟩
theorem fc_RX12_35 : FC RX12 35 10 20 := ⟨_, _, _, _, cw_10, by decide, by decide, by decide, (fun _ => ⟨rfl, rfl⟩), tm 1588 (by decide +kernel) rfl⟩
theorem fc_RX12_38 : FC RX12 38 10 21 := ⟨_, _, _, _, cw_10, by decide, by decide, by decide, (fun _ => ⟨rfl, rfl⟩), tm 1589 (by decide +kernel) rfl⟩
theorem fc_RX12_41 : FC RX12 41 10 22 := ⟨_, _, _, _, cw_10, by decide, by decide, by decide, (fun _ => ⟨rfl, rfl⟩), tm 1590 (by decide +kernel) rfl⟩
theorem fc_RX12_44 : FC RX12 44 10 23 := ⟨_, _, _, _, cw_10, by decide, by decide, by decide, (fun _ => ⟨rfl, rfl⟩), tm 1591 (by decide +kernel) rfl⟩
theorem fc_RX12_47 : FC RX12 47 10 29 := ⟨_, _, _, _, cw_10, by decide, by decide, by decide, (fun _ => ⟨rfl, rfl⟩), tm 1597 (by decide +kernel) rfl⟩
theorem fc_RX12_51 : FC RX12 51 10 30 := ⟨_, _, _, _, cw_10, by decide, by decide, by decide, (fun _ => ⟨rfl, rfl⟩), tm 1598 (by decide +kernel) rfl⟩
theorem fc_RX12_54 : FC RX12 54 10 31 := ⟨_, _, _, _, cw_10, by decide, by decide, by decide, (fun _ => ⟨rfl, rfl⟩), tm 1599 (by decide +kernel) rfl⟩
theorem fc_RX12_57 : FC RX12 57 10 32 := ⟨_, _, _, _, cw_10, by decide, by decide, by decide, (fun _ => ⟨rfl, rfl⟩), tm 1600 (by decide +kernel) rfl⟩
theorem fc_RX12_60 : FC RX12 60 10 34 := ⟨_, _, _, _, cw_10, by decide, by decide, by decide, (fun _ => ⟨rfl, rfl⟩), tm 1602 (by decide +kernel) rfl⟩
theorem dX12_init_0 : decode cX12_init 0 = .ok (.aload_n 0, 1) := by decide +kernel
theorem dX12_init_1 : decode cX12_init 1 = .ok (.invokespecial 1, 3) := by decide +kernel
theorem dX12_init_4 : decode cX12_init 4 = .ok (.aload_n 0, 1) := by decide +kernel
theorem dX12_init_5 : decode cX12_init 5 = .ok (.lconst 1, 1) := by decide +kernel
theorem dX12_init_6 : decode cX12_init 6 = .ok (.putfield 7, 3) := by decide +kernel
theorem dX12_init_9 : decode cX12_init 9 = .ok (.aload_n 0, 1) := by decide +kernel
theorem dX12_init_10 : decode cX12_init 10 = .ok (.iconst 4, 1) := by decide +kernel
theorem dX12_init_11 : decode cX12_init 11 = .ok (.newarray .int, 2) := by decide +kernel
theorem dX12_init_13 : decode cX12_init 13 = .ok (.putfield 13, 3) := by decide +kernel
theorem dX12_init_16 : decode cX12_init 16 = .ok (.aload_n 0, 1) := by decide +kernel
theorem dX12_init_17 : decode cX12_init 17 = .ok (.iconst 4, 1) := by decide +kernel
theorem dX12_init_18 : decode cX12_init 18 = .ok (.newarray .int, 2) := by decide +kernel
theorem dX12_init_20 : decode cX12_init 20 = .ok (.putfield 17, 3) := by decide +kernel
theorem dX12_init_23 : decode cX12_init 23 = .ok (.aload_n 0, 1) := by decide +kernel
theorem dX12_init_24 : decode cX12_init 24 = .ok (.sipush 240, 3) := by decide +kernel
theorem dX12_init_27 : decode cX12_init 27 = .ok (.newarray .long, 2) := by decide +kernel
theorem dX12_init_29 : decode cX12_init 29 = .ok (.putfield 20, 3) := by decide +kernel
theorem dX12_init_32 : decode cX12_init 32 = .ok (.aload_n 0, 1) := by decide +kernel
theorem dX12_init_33 : decode cX12_init 33 = .ok (.sipush 900, 3) := by decide +kernel
theorem dX12_init_36 : decode cX12_init 36 = .ok (.newarray .byte, 2) := by decide +kernel
theorem dX12_init_38 : decode cX12_init 38 = .ok (.putfield 24, 3) := by decide +kernel
theorem dX12_init_41 : decode cX12_init 41 = .ok (.aload_n 0, 1) := by decide +kernel
theorem dX12_init_42 : decode cX12_init 42 = .ok (.iconst (-1), 1) := by decide +kernel
theorem dX12_init_43 : decode cX12_init 43 = .ok (.putfield 28, 3) := by decide +kernel
theorem dX12_init_46 : decode cX12_init 46 = .ok (.aload_n 0, 1) := by decide +kernel
theorem dX12_init_47 : decode cX12_init 47 = .ok (.iconst (-1), 1) := by decide +kernel
theorem dX12_init_48 : decode cX12_init 48 = .ok (.putfield 32, 3) := by decide +kernel
theorem dX12_init_51 : decode cX12_init 51 = .ok (.aload_n 0, 1) := by decide +kernel
theorem dX12_init_52 : decode cX12_init 52 = .ok (.sipush 2235, 3) := by decide +kernel
theorem dX12_init_55 : decode cX12_init 55 = .ok (.newarray .int, 2) := by decide +kernel
theorem dX12_init_57 : decode cX12_init 57 = .ok (.putfield 35, 3) := by decide +kernel
theorem dX12_init_60 : decode cX12_init 60 = .ok (.aload_n 0, 1) := by decide +kernel
theorem dX12_init_61 : decode cX12_init 61 = .ok (.sipush 175, 3) := by decide +kernel
theorem dX12_init_64 : decode cX12_init 64 = .ok (.newarray .int, 2) := by decide +kernel
theorem dX12_init_66 : decode cX12_init 66 = .ok (.putfield 38, 3) := by decide +kernel
theorem dX12_init_69 : decode cX12_init 69 = .ok (.aload_n 0, 1) := by decide +kernel
theorem dX12_init_70 : decode cX12_init 70 = .ok (.sipush 175, 3) := by decide +kernel
theorem dX12_init_73 : decode cX12_init 73 = .ok (.newarray .int, 2) := by decide +kernel
theorem dX12_init_75 : decode cX12_init 75 = .ok (.putfield 41, 3) := by decide +kernel
theorem dX12_init_78 : decode cX12_init 78 = .ok (.aload_n 0, 1) := by decide +kernel
theorem dX12_init_79 : decode cX12_init 79 = .ok (.bipush 70, 2) := by decide +kernel
theorem dX12_init_81 : decode cX12_init 81 = .ok (.newarray .long, 2) := by decide +kernel
theorem dX12_init_83 : decode cX12_init 83 = .ok (.putfield 44, 3) := by decide +kernel
theorem dX12_init_86 : decode cX12_init 86 = .ok (.aload_n 0, 1) := by decide +kernel
theorem dX12_init_87 : decode cX12_init 87 = .ok (.sipush 256, 3) := by decide +kernel
theorem dX12_init_90 : decode cX12_init 90 = .ok (.newarray .boolean, 2) := by decide +kernel
theorem dX12_init_92 : decode cX12_init 92 = .ok (.putfield 47, 3) := by decide +kernel
theorem dX12_init_95 : decode cX12_init 95 = .ok (.aload_n 0, 1) := by decide +kernel
theorem dX12_init_96 : decode cX12_init 96 = .ok (.sipush 256, 3) := by decide +kernel
theorem dX12_init_99 : decode cX12_init 99 = .ok (.newarray .int, 2) := by decide +kernel
theorem dX12_init_101 : decode cX12_init 101 = .ok (.putfield 51, 3) := by decide +kernel
theorem dX12_init_104 : decode cX12_init 104 = .ok (.aload_n 0, 1) := by decide +kernel
theorem dX12_init_105 : decode cX12_init 105 = .ok (.bipush 64, 2) := by decide +kernel
theorem dX12_init_107 : decode cX12_init 107 = .ok (.newarray .int, 2) := by decide +kernel
theorem dX12_init_109 : decode cX12_init 109 = .ok (.putfield 54, 3) := by decide +kernel
theorem dX12_init_112 : decode cX12_init 112 = .ok (.aload_n 0, 1) := by decide +kernel
theorem dX12_init_113 : decode cX12_init 113 = .ok (.sipush 700, 3) := by decide +kernel
theorem dX12_init_116 : decode cX12_init 116 = .ok (.newarray .int, 2) := by decide +kernel
theorem dX12_init_118 : decode cX12_init 118 = .ok (.putfield 57, 3) := by decide +kernel
theorem dX12_init_121 : decode cX12_init 121 = .ok (.aload_n 0, 1) := by decide +kernel
theorem dX12_init_122 : decode cX12_init 122 = .ok (.iconst 5, 1) := by decide +kernel
theorem dX12_init_123 : decode cX12_init 123 = .ok (.newarray .int, 2) := by decide +kernel
theorem dX12_init_125 : decode cX12_init 125 = .ok (.putfield 60, 3) := by decide +kernel
theorem dX12_init_128 : decode cX12_init 128 = .ok (.iconst 0, 1) := by decide +kernel
theorem dX12_init_129 : decode cX12_init 129 = .ok (.istore_n 1, 1) := by decide +kernel
theorem dX12_init_130 : decode cX12_init 130 = .ok (.iload_n 1, 1) := by decide +kernel
theorem dX12_init_131 : decode cX12_init 131 = .ok (.iconst 4, 1) := by decide +kernel
theorem dX12_init_132 : decode cX12_init 132 = .ok (.if_icmp .ge 16, 3) := by decide +kernel
theorem dX12_init_135 : decode cX12_init 135 = .ok (.aload_n 0, 1) := by decide +kernel
theorem dX12_init_136 : decode cX12_init 136 = .ok (.getfield 17, 3) := by decide +kernel
theorem dX12_init_139 : decode cX12_init 139 = .ok (.iload_n 1, 1) := by decide +kernel
theorem dX12_init_140 : decode cX12_init 140 = .ok (.iconst (-1), 1) := by decide +kernel
theorem dX12_init_141 : decode cX12_init 141 = .ok (.iastore, 1) := by decide +kernel
theorem dX12_init_142 : decode cX12_init 142 = .ok (.iinc 1 1, 3) := by decide +kernel
theorem dX12_init_145 : decode cX12_init 145 = .ok (.goto (-15), 3) := by decide +kernel
theorem dX12_init_148 : decode cX12_init 148 = .ok (.aload_n 0, 1) := by decide +kernel
theorem dX12_init_149 : decode cX12_init 149 = .ok (.iconst 0, 1) := by decide +kernel
theorem dX12_init_150 : decode cX12_init 150 = .ok (.invokevirtual 63, 3) := by decide +kernel
theorem dX12_init_153 : decode cX12_init 153 = .ok (.return_, 1) := by decide +kernel
theorem mi_X12_init : Cond.code yX12_init cX12_init 2 none ∈ tbf ∧ Cond.initialized (yX12_init).cls ∈ tbf ∧ ((yX12_init).cls ≠ "java/lang/invoke/MethodHandle" ∧ (yX12_init).cls ≠ "java/lang/invoke/VarHandle" ∧ (parseMethodDescriptor (yX12_init).desc).map (fun d => d.parameters.length) = some 0) ∧ 2 ≤ 45 ∧ (yX12_init).name = "<init>" ∧ Cond.instanceMethod yX12_init ∈ tbf := ⟨tm 1562 (by decide +kernel) rfl, tm 249 (by decide +kernel) rfl, by decide, by decide, rfl, tm 1561 (by decide +kernel) rfl⟩
set_option maxHeartbeats 16000000 in
theorem ci_X12_init : CQ l D dA a1 a2 10 yX12_init cX12_init 2 2 13 5084 (QM D dA a1 a2 Km Pm zm) := by
  refine ci_mk (by decide) rfl (Nat.le_of_ble_eq_true rfl) ?_
  intro base
  change GN l D dA a1 a2 RX12 cX12_init 2 2 base 0 [some (.inr (.inr 0)), none] [] 1 (fun _ => .inr (10, dflt 10)) 0 0 (QM D dA a1 a2 Km Pm zm base) 13 5084
  have hem : MC l Km Pm yX12_empties cX12_empties 4 2 1 [.inr (.inr 0), .inl 0] zm0 (some (0, zm)) := by
    have h := ok_M_empties (l := l) 0 zm0
    rw [em_0] at h
    exact h
  refine m_aload_n dX12_init_0 rfl rfl ?_
  refine m_obj oi_RX12_1 (Nat.le_of_ble_eq_true rfl) (Nat.le_of_ble_eq_true rfl) dX12_init_1 ?_
  refine m_aload_n dX12_init_4 rfl rfl ?_
  refine m_lconst (v := 1) dX12_init_5 (by decide) ?_
  refine m_putl fl_RX12_7 (by decide) (Nat.le_of_ble_eq_true rfl) rfl (Nat.le_of_ble_eq_true rfl) dX12_init_6 ?_
  refine m_aload_n dX12_init_9 rfl rfl ?_
  refine m_iconst dX12_init_10 (by decide) ?_
  refine m_new0 (N := 4) rfl (Nat.le_of_ble_eq_true rfl) (Nat.le_of_ble_eq_true rfl) (Nat.le_of_ble_eq_true rfl) dX12_init_11 ?_
  refine m_putr fc_RX12_13 (Nat.le_of_ble_eq_true rfl) rfl (Nat.le_of_ble_eq_true rfl) dX12_init_13 ?_
  refine m_aload_n dX12_init_16 rfl rfl ?_
  refine m_iconst dX12_init_17 (by decide) ?_
  refine m_new0 (N := 4) rfl (Nat.le_of_ble_eq_true rfl) (Nat.le_of_ble_eq_true rfl) (Nat.le_of_ble_eq_true rfl) dX12_init_18 ?_
  refine m_putr fc_RX12_17 (Nat.le_of_ble_eq_true rfl) rfl (Nat.le_of_ble_eq_true rfl) dX12_init_20 ?_
  refine m_aload_n dX12_init_23 rfl rfl ?_
  refine m_sipush dX12_init_24 (by decide) ?_
  refine m_new1 (N := 240) rfl (Nat.le_of_ble_eq_true rfl) (Nat.le_of_ble_eq_true rfl) (Nat.le_of_ble_eq_true rfl) dX12_init_27 ?_
  refine m_putr fc_RX12_20 (Nat.le_of_ble_eq_true rfl) rfl (Nat.le_of_ble_eq_true rfl) dX12_init_29 ?_
  refine m_aload_n dX12_init_32 rfl rfl ?_
  refine m_sipush dX12_init_33 (by decide) ?_
  refine m_new2 (N := 900) rfl (Nat.le_of_ble_eq_true rfl) (Nat.le_of_ble_eq_true rfl) (Nat.le_of_ble_eq_true rfl) dX12_init_36 ?_
  refine m_putr fc_RX12_24 (Nat.le_of_ble_eq_true rfl) rfl (Nat.le_of_ble_eq_true rfl) dX12_init_38 ?_
  refine m_aload_n dX12_init_41 rfl rfl ?_
  refine m_iconst dX12_init_42 (by decide) ?_
  refine m_puti fl_RX12_28 (by decide) (Nat.le_of_ble_eq_true rfl) rfl (Nat.le_of_ble_eq_true rfl) dX12_init_43 ?_
  refine m_aload_n dX12_init_46 rfl rfl ?_
  refine m_iconst dX12_init_47 (by decide) ?_
  refine m_puti fl_RX12_32 (by decide) (Nat.le_of_ble_eq_true rfl) rfl (Nat.le_of_ble_eq_true rfl) dX12_init_48 ?_
  refine m_aload_n dX12_init_51 rfl rfl ?_
  refine m_sipush dX12_init_52 (by decide) ?_
  refine m_new0 (N := 2235) rfl (Nat.le_of_ble_eq_true rfl) (Nat.le_of_ble_eq_true rfl) (Nat.le_of_ble_eq_true rfl) dX12_init_55 ?_
  refine m_putr fc_RX12_35 (Nat.le_of_ble_eq_true rfl) rfl (Nat.le_of_ble_eq_true rfl) dX12_init_57 ?_
  refine m_aload_n dX12_init_60 rfl rfl ?_
  refine m_sipush dX12_init_61 (by decide) ?_
  refine m_new0 (N := 175) rfl (Nat.le_of_ble_eq_true rfl) (Nat.le_of_ble_eq_true rfl) (Nat.le_of_ble_eq_true rfl) dX12_init_64 ?_
  refine m_putr fc_RX12_38 (Nat.le_of_ble_eq_true rfl) rfl (Nat.le_of_ble_eq_true rfl) dX12_init_66 ?_
  refine m_aload_n dX12_init_69 rfl rfl ?_
  refine m_sipush dX12_init_70 (by decide) ?_
  refine m_new0 (N := 175) rfl (Nat.le_of_ble_eq_true rfl) (Nat.le_of_ble_eq_true rfl) (Nat.le_of_ble_eq_true rfl) dX12_init_73 ?_
  refine m_putr fc_RX12_41 (Nat.le_of_ble_eq_true rfl) rfl (Nat.le_of_ble_eq_true rfl) dX12_init_75 ?_
  refine m_aload_n dX12_init_78 rfl rfl ?_
  refine m_bipush dX12_init_79 (by decide) ?_
  refine m_new1 (N := 70) rfl (Nat.le_of_ble_eq_true rfl) (Nat.le_of_ble_eq_true rfl) (Nat.le_of_ble_eq_true rfl) dX12_init_81 ?_
  refine m_putr fc_RX12_44 (Nat.le_of_ble_eq_true rfl) rfl (Nat.le_of_ble_eq_true rfl) dX12_init_83 ?_
  refine m_aload_n dX12_init_86 rfl rfl ?_
  refine m_sipush dX12_init_87 (by decide) ?_
  refine m_new3 (N := 256) rfl (Nat.le_of_ble_eq_true rfl) (Nat.le_of_ble_eq_true rfl) (Nat.le_of_ble_eq_true rfl) dX12_init_90 ?_
  refine m_putr fc_RX12_47 (Nat.le_of_ble_eq_true rfl) rfl (Nat.le_of_ble_eq_true rfl) dX12_init_92 ?_
  refine m_aload_n dX12_init_95 rfl rfl ?_
  refine m_sipush dX12_init_96 (by decide) ?_
  refine m_new0 (N := 256) rfl (Nat.le_of_ble_eq_true rfl) (Nat.le_of_ble_eq_true rfl) (Nat.le_of_ble_eq_true rfl) dX12_init_99 ?_
  refine m_putr fc_RX12_51 (Nat.le_of_ble_eq_true rfl) rfl (Nat.le_of_ble_eq_true rfl) dX12_init_101 ?_
  refine m_aload_n dX12_init_104 rfl rfl ?_
  refine m_bipush dX12_init_105 (by decide) ?_
  refine m_new0 (N := 64) rfl (Nat.le_of_ble_eq_true rfl) (Nat.le_of_ble_eq_true rfl) (Nat.le_of_ble_eq_true rfl) dX12_init_107 ?_
  refine m_putr fc_RX12_54 (Nat.le_of_ble_eq_true rfl) rfl (Nat.le_of_ble_eq_true rfl) dX12_init_109 ?_
  refine m_aload_n dX12_init_112 rfl rfl ?_
  refine m_sipush dX12_init_113 (by decide) ?_
  refine m_new0 (N := 700) rfl (Nat.le_of_ble_eq_true rfl) (Nat.le_of_ble_eq_true rfl) (Nat.le_of_ble_eq_true rfl) dX12_init_116 ?_
  refine m_putr fc_RX12_57 (Nat.le_of_ble_eq_true rfl) rfl (Nat.le_of_ble_eq_true rfl) dX12_init_118 ?_
  refine m_aload_n dX12_init_121 rfl rfl ?_
  refine m_iconst dX12_init_122 (by decide) ?_
  refine m_new0 (N := 5) rfl (Nat.le_of_ble_eq_true rfl) (Nat.le_of_ble_eq_true rfl) (Nat.le_of_ble_eq_true rfl) dX12_init_123 ?_
  refine m_putr fc_RX12_60 (Nat.le_of_ble_eq_true rfl) rfl (Nat.le_of_ble_eq_true rfl) dX12_init_125 ?_
  refine m_iconst dX12_init_128 (by decide) ?_
  refine m_istore_n (lv' := [some (.inr (.inr 0)), some (.inl 0)]) dX12_init_129 rfl (Nat.le_of_ble_eq_true rfl) rfl ?_
  refine m_iload_n dX12_init_130 rfl rfl ?_
  refine m_iconst dX12_init_131 (by decide) ?_
  refine m_icmpge_f (tgt := 148) dX12_init_132 (by decide) (by decide) ?_
  refine m_aload_n dX12_init_135 rfl rfl ?_
  refine m_getr (z := 2) fl_RX12_17 (Nat.le_of_ble_eq_true rfl) rfl rfl dX12_init_136 ?_
  refine m_iload_n dX12_init_139 rfl rfl ?_
  refine m_iconst dX12_init_140 (by decide) ?_
  refine m_iast (Nat.le_of_ble_eq_true rfl) rfl (by decide) dX12_init_141 ?_
  refine m_iinc (y := 1) (lv' := [some (.inr (.inr 0)), some (.inl 1)]) dX12_init_142 rfl (Nat.le_of_ble_eq_true rfl) (by decide) rfl ?_
  refine m_goto (tgt := 130) dX12_init_145 (by decide) ?_
  refine m_iload_n dX12_init_130 rfl rfl ?_
  refine m_iconst dX12_init_131 (by decide) ?_
  refine m_icmpge_f (tgt := 148) dX12_init_132 (by decide) (by decide) ?_
  refine m_aload_n dX12_init_135 rfl rfl ?_
  refine m_getr (z := 2) fl_RX12_17 (Nat.le_of_ble_eq_true rfl) rfl rfl dX12_init_136 ?_
  refine m_iload_n dX12_init_139 rfl rfl ?_
  refine m_iconst dX12_init_140 (by decide) ?_
  refine m_iast (Nat.le_of_ble_eq_true rfl) rfl (by decide) dX12_init_141 ?_
  refine m_iinc (y := 2) (lv' := [some (.inr (.inr 0)), some (.inl 2)]) dX12_init_142 rfl (Nat.le_of_ble_eq_true rfl) (by decide) rfl ?_
  refine m_goto (tgt := 130) dX12_init_145 (by decide) ?_
  refine m_iload_n dX12_init_130 rfl rfl ?_
  refine m_iconst dX12_init_131 (by decide) ?_
  refine m_icmpge_f (tgt := 148) dX12_init_132 (by decide) (by decide) ?_
  refine m_aload_n dX12_init_135 rfl rfl ?_
  refine m_getr (z := 2) fl_RX12_17 (Nat.le_of_ble_eq_true rfl) rfl rfl dX12_init_136 ?_
  refine m_iload_n dX12_init_139 rfl rfl ?_
  refine m_iconst dX12_init_140 (by decide) ?_
  refine m_iast (Nat.le_of_ble_eq_true rfl) rfl (by decide) dX12_init_141 ?_
  refine m_iinc (y := 3) (lv' := [some (.inr (.inr 0)), some (.inl 3)]) dX12_init_142 rfl (Nat.le_of_ble_eq_true rfl) (by decide) rfl ?_
  refine m_goto (tgt := 130) dX12_init_145 (by decide) ?_
  refine m_iload_n dX12_init_130 rfl rfl ?_
  refine m_iconst dX12_init_131 (by decide) ?_
  refine m_icmpge_f (tgt := 148) dX12_init_132 (by decide) (by decide) ?_
  refine m_aload_n dX12_init_135 rfl rfl ?_
  refine m_getr (z := 2) fl_RX12_17 (Nat.le_of_ble_eq_true rfl) rfl rfl dX12_init_136 ?_
  refine m_iload_n dX12_init_139 rfl rfl ?_
  refine m_iconst dX12_init_140 (by decide) ?_
  refine m_iast (Nat.le_of_ble_eq_true rfl) rfl (by decide) dX12_init_141 ?_
  refine m_iinc (y := 4) (lv' := [some (.inr (.inr 0)), some (.inl 4)]) dX12_init_142 rfl (Nat.le_of_ble_eq_true rfl) (by decide) rfl ?_
  refine m_goto (tgt := 130) dX12_init_145 (by decide) ?_
  refine m_iload_n dX12_init_130 rfl rfl ?_
  refine m_iconst dX12_init_131 (by decide) ?_
  refine m_icmpge_t (tgt := 148) dX12_init_132 (by decide) (by decide) ?_
  refine m_aload_n dX12_init_148 rfl rfl ?_
  refine m_iconst dX12_init_149 (by decide) ?_
  refine m_last (as := [.inl 0]) (K' := Km) (P' := Pm) (σ := zm0) mw_X12_empties lk_RX12_63 (ci := 10) rfl rfl hem (Nat.le_of_ble_eq_true rfl) rfl (Nat.le_of_ble_eq_true rfl) rfl ?_ cn_zm0 rfl (Nat.le_of_ble_eq_true rfl) (Nat.le_of_ble_eq_true rfl) dX12_init_150 dX12_init_153
  intro q hq
  match q, hq with
  | 0, _ => exact ve.of rfl
  | 1, _ => exact ve.of rfl
  | 2, _ => exact ve_i (fun j hj => by rcases (show j = 0 ∨ j = 1 ∨ j = 2 ∨ j = 3 by omega) with rfl | rfl | rfl | rfl <;> rfl)
  | 3, _ => exact ve.of rfl
  | 4, _ => exact ve.of rfl
  | 5, _ => exact ve.of rfl
  | 6, _ => exact ve.of rfl
  | 7, _ => exact ve.of rfl
  | 8, _ => exact ve.of rfl
  | 9, _ => exact ve.of rfl
  | 10, _ => exact ve.of rfl
  | 11, _ => exact ve.of rfl
  | 12, _ => exact ve.of rfl
  | 13, _ => exact ve.of rfl
  | q + 14, h => exact absurd h (Nat.not_lt.mpr (Nat.le_trans (Nat.le_of_ble_eq_true rfl : _ ≤ 14) (Nat.le_add_left 14 q)))
end CM
