/-! the constructors -/
section CT
variable {l : Launch} {D : va_G} {dA : Nat → ClassId} {a1 a2 : Nat}
def KTr : Ly := [.inl 7, .inr (0, 4), .inr (0, 4), .inr (1, 240)]
def PTr : Nat → Nat → Nat := fun _ k => match k with | 0 => 1 | 1 => 2 | 2 => 3 | _ => 0
def zTr : Sg := fun q k => if q = 1 ∧ k < 4 then -1 else 0
theorem oi_RX8_3 : OI RX8 3 := ⟨tm 268 (by decide +kernel) rfl, tm 261 (by decide +kernel) rfl, tm 262 (by decide +kernel) rfl⟩
theorem fc_RX8_11 : FC RX8 11 7 0 := ⟨_, _, _, _, cw_7, by decide, by decide, by decide, (fun _ => ⟨rfl, rfl⟩), tm 269 (by decide +kernel) rfl⟩
theorem fc_RX8_15 : FC RX8 15 7 1 := ⟨_, _, _, _, cw_7, by decide, by decide, by decide, (fun _ => ⟨rfl, rfl⟩), tm 270 (by decide +kernel) rfl⟩
theorem fc_RX8_18 : FC RX8 18 7 2 := ⟨_, _, _, _, cw_7, by decide, by decide, by decide, (fun _ => ⟨rfl, rfl⟩), tm 271 (by decide +kernel) rfl⟩
theorem dX8_init_0 : decode cX8_init 0 = .ok (.aload_n 0, 1) := by decide +kernel
theorem dX8_init_1 : decode cX8_init 1 = .ok (.invokespecial 3, 3) := by decide +kernel
theorem dX8_init_4 : decode cX8_init 4 = .ok (.aload_n 0, 1) := by decide +kernel
theorem dX8_init_5 : decode cX8_init 5 = .ok (.iconst 4, 1) := by decide +kernel
theorem dX8_init_6 : decode cX8_init 6 = .ok (.newarray .int, 2) := by decide +kernel
theorem dX8_init_8 : decode cX8_init 8 = .ok (.putfield 11, 3) := by decide +kernel
theorem dX8_init_11 : decode cX8_init 11 = .ok (.aload_n 0, 1) := by decide +kernel
theorem dX8_init_12 : decode cX8_init 12 = .ok (.iconst 4, 1) := by decide +kernel
theorem dX8_init_13 : decode cX8_init 13 = .ok (.newarray .int, 2) := by decide +kernel
theorem dX8_init_15 : decode cX8_init 15 = .ok (.putfield 15, 3) := by decide +kernel
theorem dX8_init_18 : decode cX8_init 18 = .ok (.aload_n 0, 1) := by decide +kernel
theorem dX8_init_19 : decode cX8_init 19 = .ok (.sipush 240, 3) := by decide +kernel
theorem dX8_init_22 : decode cX8_init 22 = .ok (.newarray .long, 2) := by decide +kernel
theorem dX8_init_24 : decode cX8_init 24 = .ok (.putfield 18, 3) := by decide +kernel
theorem dX8_init_27 : decode cX8_init 27 = .ok (.iconst 0, 1) := by decide +kernel
theorem dX8_init_28 : decode cX8_init 28 = .ok (.istore_n 1, 1) := by decide +kernel
theorem dX8_init_29 : decode cX8_init 29 = .ok (.iload_n 1, 1) := by decide +kernel
theorem dX8_init_30 : decode cX8_init 30 = .ok (.iconst 4, 1) := by decide +kernel
theorem dX8_init_31 : decode cX8_init 31 = .ok (.if_icmp .ge 16, 3) := by decide +kernel
theorem dX8_init_34 : decode cX8_init 34 = .ok (.aload_n 0, 1) := by decide +kernel
theorem dX8_init_35 : decode cX8_init 35 = .ok (.getfield 11, 3) := by decide +kernel
theorem dX8_init_38 : decode cX8_init 38 = .ok (.iload_n 1, 1) := by decide +kernel
theorem dX8_init_39 : decode cX8_init 39 = .ok (.iconst (-1), 1) := by decide +kernel
theorem dX8_init_40 : decode cX8_init 40 = .ok (.iastore, 1) := by decide +kernel
theorem dX8_init_41 : decode cX8_init 41 = .ok (.iinc 1 1, 3) := by decide +kernel
theorem dX8_init_44 : decode cX8_init 44 = .ok (.goto (-15), 3) := by decide +kernel
theorem dX8_init_47 : decode cX8_init 47 = .ok (.return_, 1) := by decide +kernel
theorem mi_X8_init : Cond.code yX8_init cX8_init 2 none ∈ tbf ∧ Cond.initialized (yX8_init).cls ∈ tbf ∧ ((yX8_init).cls ≠ "java/lang/invoke/MethodHandle" ∧ (yX8_init).cls ≠ "java/lang/invoke/VarHandle" ∧ (parseMethodDescriptor (yX8_init).desc).map (fun d => d.parameters.length) = some 0) ∧ 2 ≤ 45 ∧ (yX8_init).name = "<init>" ∧ Cond.instanceMethod yX8_init ∈ tbf := ⟨tm 267 (by decide +kernel) rfl, tm 236 (by decide +kernel) rfl, by decide, by decide, rfl, tm 266 (by decide +kernel) rfl⟩
theorem ci_X8_init : CI l D dA a1 a2 7 yX8_init cX8_init 2 1 3 248 KTr PTr zTr := by
  refine ci_mk (by decide) rfl (Nat.le_of_ble_eq_true rfl) ?_
  intro base
  change GN l D dA a1 a2 RX8 cX8_init 2 1 base 0 [some (.inr (.inr 0)), none] [] 1 (fun _ => .inr (7, dflt 7)) 0 0 (QN D base 4 (cev dA base KTr PTr zTr)) 3 248
  refine m_aload_n dX8_init_0 rfl rfl ?_
  refine m_obj oi_RX8_3 (Nat.le_of_ble_eq_true rfl) (Nat.le_of_ble_eq_true rfl) dX8_init_1 ?_
  refine m_aload_n dX8_init_4 rfl rfl ?_
  refine m_iconst dX8_init_5 (by decide) ?_
  refine m_new0 (N := 4) rfl (Nat.le_of_ble_eq_true rfl) (Nat.le_of_ble_eq_true rfl) (Nat.le_of_ble_eq_true rfl) dX8_init_6 ?_
  refine m_putr fc_RX8_11 (Nat.le_of_ble_eq_true rfl) rfl (Nat.le_of_ble_eq_true rfl) dX8_init_8 ?_
  refine m_aload_n dX8_init_11 rfl rfl ?_
  refine m_iconst dX8_init_12 (by decide) ?_
  refine m_new0 (N := 4) rfl (Nat.le_of_ble_eq_true rfl) (Nat.le_of_ble_eq_true rfl) (Nat.le_of_ble_eq_true rfl) dX8_init_13 ?_
  refine m_putr fc_RX8_15 (Nat.le_of_ble_eq_true rfl) rfl (Nat.le_of_ble_eq_true rfl) dX8_init_15 ?_
  refine m_aload_n dX8_init_18 rfl rfl ?_
  refine m_sipush dX8_init_19 (by decide) ?_
  refine m_new1 (N := 240) rfl (Nat.le_of_ble_eq_true rfl) (Nat.le_of_ble_eq_true rfl) (Nat.le_of_ble_eq_true rfl) dX8_init_22 ?_
  refine m_putr fc_RX8_18 (Nat.le_of_ble_eq_true rfl) rfl (Nat.le_of_ble_eq_true rfl) dX8_init_24 ?_
  refine m_iconst dX8_init_27 (by decide) ?_
  refine m_istore_n (lv' := [some (.inr (.inr 0)), some (.inl 0)]) dX8_init_28 rfl (Nat.le_of_ble_eq_true rfl) rfl ?_
  refine m_iload_n dX8_init_29 rfl rfl ?_
  refine m_iconst dX8_init_30 (by decide) ?_
  refine m_icmpge_f (tgt := 47) dX8_init_31 (by decide) (by decide) ?_
  refine m_aload_n dX8_init_34 rfl rfl ?_
  refine m_getr (z := 1) fl_RX8_11 (Nat.le_of_ble_eq_true rfl) rfl rfl dX8_init_35 ?_
  refine m_iload_n dX8_init_38 rfl rfl ?_
  refine m_iconst dX8_init_39 (by decide) ?_
  refine m_iast (Nat.le_of_ble_eq_true rfl) rfl (by decide) dX8_init_40 ?_
  refine m_iinc (y := 1) (lv' := [some (.inr (.inr 0)), some (.inl 1)]) dX8_init_41 rfl (Nat.le_of_ble_eq_true rfl) (by decide) rfl ?_
  refine m_goto (tgt := 29) dX8_init_44 (by decide) ?_
  refine m_iload_n dX8_init_29 rfl rfl ?_
  refine m_iconst dX8_init_30 (by decide) ?_
  refine m_icmpge_f (tgt := 47) dX8_init_31 (by decide) (by decide) ?_
  refine m_aload_n dX8_init_34 rfl rfl ?_
  refine m_getr (z := 1) fl_RX8_11 (Nat.le_of_ble_eq_true rfl) rfl rfl dX8_init_35 ?_
  refine m_iload_n dX8_init_38 rfl rfl ?_
  refine m_iconst dX8_init_39 (by decide) ?_
  refine m_iast (Nat.le_of_ble_eq_true rfl) rfl (by decide) dX8_init_40 ?_
  refine m_iinc (y := 2) (lv' := [some (.inr (.inr 0)), some (.inl 2)]) dX8_init_41 rfl (Nat.le_of_ble_eq_true rfl) (by decide) rfl ?_
  refine m_goto (tgt := 29) dX8_init_44 (by decide) ?_
  refine m_iload_n dX8_init_29 rfl rfl ?_
  refine m_iconst dX8_init_30 (by decide) ?_
  refine m_icmpge_f (tgt := 47) dX8_init_31 (by decide) (by decide) ?_
  refine m_aload_n dX8_init_34 rfl rfl ?_
  refine m_getr (z := 1) fl_RX8_11 (Nat.le_of_ble_eq_true rfl) rfl rfl dX8_init_35 ?_
  refine m_iload_n dX8_init_38 rfl rfl ?_
  refine m_iconst dX8_init_39 (by decide) ?_
  refine m_iast (Nat.le_of_ble_eq_true rfl) rfl (by decide) dX8_init_40 ?_
  refine m_iinc (y := 3) (lv' := [some (.inr (.inr 0)), some (.inl 3)]) dX8_init_41 rfl (Nat.le_of_ble_eq_true rfl) (by decide) rfl ?_
  refine m_goto (tgt := 29) dX8_init_44 (by decide) ?_
  refine m_iload_n dX8_init_29 rfl rfl ?_
  refine m_iconst dX8_init_30 (by decide) ?_
  refine m_icmpge_f (tgt := 47) dX8_init_31 (by decide) (by decide) ?_
  refine m_aload_n dX8_init_34 rfl rfl ?_
  refine m_getr (z := 1) fl_RX8_11 (Nat.le_of_ble_eq_true rfl) rfl rfl dX8_init_35 ?_
  refine m_iload_n dX8_init_38 rfl rfl ?_
  refine m_iconst dX8_init_39 (by decide) ?_
  refine m_iast (Nat.le_of_ble_eq_true rfl) rfl (by decide) dX8_init_40 ?_
  refine m_iinc (y := 4) (lv' := [some (.inr (.inr 0)), some (.inl 4)]) dX8_init_41 rfl (Nat.le_of_ble_eq_true rfl) (by decide) rfl ?_
  refine m_goto (tgt := 29) dX8_init_44 (by decide) ?_
  refine m_iload_n dX8_init_29 rfl rfl ?_
  refine m_iconst dX8_init_30 (by decide) ?_
  refine m_icmpge_t (tgt := 47) dX8_init_31 (by decide) (by decide) ?_
  refine m_vret rfl ?_ (Nat.le_of_ble_eq_true rfl) (Nat.le_of_ble_eq_true rfl) dX8_init_47
  intro q hq
  rcases (show q = 0 ∨ q = 1 ∨ q = 2 ∨ q = 3 by omega) with rfl | rfl | rfl | rfl
  · exact ve.of rfl
  · exact ve_i (fun j hj => by rcases (show j = 0 ∨ j = 1 ∨ j = 2 ∨ j = 3 by omega) with rfl | rfl | rfl | rfl <;> rfl)
  · exact ve.of rfl
  · exact ve.of rfl
def KTo : Ly := [.inl 6, .inr (1, 25), .inr (2, 900), .inr (1, 901)]
def PTo : Nat → Nat → Nat := fun _ k => match k with | 13 => 1 | 0 => 2 | 3 => 3 | _ => 0
def ksl : List Int := [104, 101, 97, 114, 100, 32, 111, 100, 100, 115, 32, 119, 111, 114, 100, 32, 103, 114, 111, 119, 115, 32, 103, 114, 101, 121, 32, 112, 101, 114, 115, 111, 110, 32, 116, 101, 109, 112, 101, 114, 32, 98, 97, 114, 98, 101, 114, 32, 107, 101, 101, 112, 115, 32, 100, 105, 110, 110, 101, 114, 32, 101, 118, 101, 114, 121, 32, 104, 97, 108, 118, 101, 115, 32, 100, 97, 121, 32, 107, 101, 101, 112, 32, 115, 97, 121, 32, 116, 111, 32, 99, 117, 116, 32, 98, 121, 32, 97, 110, 121, 32, 119, 104, 101, 110, 32, 107, 110, 111, 119, 115, 32, 104, 97, 105, 114, 32, 108, 111, 111, 112, 32, 101, 110, 100, 32, 115, 116, 111, 112, 32]
def kcl : List Int := [4351162, 298288, 464134, 4085956, 151063, 232608281, 289903041, 29585160, 5948362, 62464518, 3094387, 115575085, 2968, 220309, 13903, 555, 2774, 79, 1132, 458690, 6132988, 158454, 247552, 4027, 388978]
theorem kz_c : ∀ j, j < 131 → ks_c j = ksl.getD j 0 := by decide +kernel
def kA : Nat → Nat
  | 0 => 0
  | j + 1 => kA j + (if ksl.getD j 0 = 32 then 1 else 0)
def kC : Nat → Int
  | 0 => 0
  | j + 1 => if ksl.getD j 0 = 32 then 0 else w64 (w64 (w64 (w64 (kC j * 27) + ksl.getD j 0) - 97) + 1)
def kF : Nat → Nat → Int
  | 0 => fun _ => 0
  | j + 1 => fun b => if ksl.getD j 0 = 32 ∧ b = kA j then kC j else kF j b
theorem kA_b : ∀ j, j < 131 → kA j < 25 := by decide +kernel
theorem kF_hi {b : Nat} (hb : 25 ≤ b) : ∀ j, j ≤ 131 → kF j b = 0
  | 0, _ => rfl
  | j + 1, h => by
    have h1 := kA_b j (by omega)
    rw [kF]
    show (if _ ∧ _ then _ else _) = _
    rw [if_neg (fun q => by have := q.2; omega)]
    exact kF_hi hb j (by omega)
theorem kF_lo : ∀ b, b < 25 → kF 131 b = kcl.getD b 0 := by decide +kernel
theorem kF_e : kF 131 = fun b => kcl.getD b 0 := by
  funext b
  by_cases h : b < 25
  · exact kF_lo b h
  · rw [kF_hi (by omega) 131 (by omega)]
    have h2 : kcl.length = 25 := rfl
    rw [List.getD_eq_getElem?_getD, List.getElem?_eq_none (by omega)]
    rfl
theorem ks_up {j : Nat} (h : ksl.getD j 0 = 32) : vp_updL (fun b => Int64.ofInt (kF j b)) (Int.toNat (kA j : Nat)) (Int64.ofInt (kC j)) = fun b => Int64.ofInt (kF (j + 1) b) := by
  funext b
  have e : kF (j + 1) b = if b = kA j then kC j else kF j b := by
    show (if ksl.getD j 0 = 32 ∧ b = kA j then kC j else kF j b) = _
    by_cases e : b = kA j
    · rw [if_pos ⟨h, e⟩, if_pos e]
    · rw [if_neg (fun q => e q.2), if_neg e]
  rw [e, Int.toNat_natCast]
  unfold vp_updL
  split <;> rfl
def zk (f : Nat → Int) : Sg := fun q k => match q with
  | 0 => if k = 12 then -1 else 0
  | 1 => f k
  | _ => 0
theorem cev_k {base : Nat} {f : Nat → Int} : cev dA base KTo PTo (zk f) 1 = .inl (dA 1, 25, .inr (.inl (fun b => Int64.ofInt (f b)))) := rfl
def zTo : Sg := zk (fun k => kcl.getD k 0)
theorem oi_RX7_3 : OI RX7 3 := ⟨tm 286 (by decide +kernel) rfl, tm 261 (by decide +kernel) rfl, tm 262 (by decide +kernel) rfl⟩
theorem fc_RX7_11 : FC RX7 11 6 13 := ⟨_, _, _, _, cw_6, by decide, by decide, by decide, (fun _ => ⟨rfl, rfl⟩), tm 341 (by decide +kernel) rfl⟩
theorem fc_RX7_15 : FC RX7 15 6 0 := ⟨_, _, _, _, cw_6, by decide, by decide, by decide, (fun _ => ⟨rfl, rfl⟩), tm 342 (by decide +kernel) rfl⟩
theorem fc_RX7_19 : FC RX7 19 6 3 := ⟨_, _, _, _, cw_6, by decide, by decide, by decide, (fun _ => ⟨rfl, rfl⟩), tm 346 (by decide +kernel) rfl⟩
theorem dX7_init_0 : decode cX7_init 0 = .ok (.aload_n 0, 1) := by decide +kernel
theorem dX7_init_1 : decode cX7_init 1 = .ok (.invokespecial 3, 3) := by decide +kernel
theorem dX7_init_4 : decode cX7_init 4 = .ok (.aload_n 0, 1) := by decide +kernel
theorem dX7_init_5 : decode cX7_init 5 = .ok (.bipush 25, 2) := by decide +kernel
theorem dX7_init_7 : decode cX7_init 7 = .ok (.newarray .long, 2) := by decide +kernel
theorem dX7_init_9 : decode cX7_init 9 = .ok (.putfield 11, 3) := by decide +kernel
theorem dX7_init_12 : decode cX7_init 12 = .ok (.aload_n 0, 1) := by decide +kernel
theorem dX7_init_13 : decode cX7_init 13 = .ok (.sipush 900, 3) := by decide +kernel
theorem dX7_init_16 : decode cX7_init 16 = .ok (.newarray .byte, 2) := by decide +kernel
theorem dX7_init_18 : decode cX7_init 18 = .ok (.putfield 15, 3) := by decide +kernel
theorem dX7_init_21 : decode cX7_init 21 = .ok (.aload_n 0, 1) := by decide +kernel
theorem dX7_init_22 : decode cX7_init 22 = .ok (.sipush 901, 3) := by decide +kernel
theorem dX7_init_25 : decode cX7_init 25 = .ok (.newarray .long, 2) := by decide +kernel
theorem dX7_init_27 : decode cX7_init 27 = .ok (.putfield 19, 3) := by decide +kernel
theorem dX7_init_30 : decode cX7_init 30 = .ok (.aload_n 0, 1) := by decide +kernel
theorem dX7_init_31 : decode cX7_init 31 = .ok (.iconst (-1), 1) := by decide +kernel
theorem dX7_init_32 : decode cX7_init 32 = .ok (.putfield 22, 3) := by decide +kernel
theorem dX7_init_35 : decode cX7_init 35 = .ok (.iconst 0, 1) := by decide +kernel
theorem dX7_init_36 : decode cX7_init 36 = .ok (.istore_n 1, 1) := by decide +kernel
theorem dX7_init_37 : decode cX7_init 37 = .ok (.lconst 0, 1) := by decide +kernel
theorem dX7_init_38 : decode cX7_init 38 = .ok (.lstore_n 2, 1) := by decide +kernel
theorem dX7_init_39 : decode cX7_init 39 = .ok (.iconst 0, 1) := by decide +kernel
theorem dX7_init_40 : decode cX7_init 40 = .ok (.istore 4, 2) := by decide +kernel
theorem dX7_init_42 : decode cX7_init 42 = .ok (.iload 4, 2) := by decide +kernel
theorem dX7_init_44 : decode cX7_init 44 = .ok (.ldc 26, 2) := by decide +kernel
theorem dX7_init_46 : decode cX7_init 46 = .ok (.invokevirtual 28, 3) := by decide +kernel
theorem dX7_init_49 : decode cX7_init 49 = .ok (.if_icmp .ge 54, 3) := by decide +kernel
theorem dX7_init_52 : decode cX7_init 52 = .ok (.iload_n 1, 1) := by decide +kernel
theorem dX7_init_53 : decode cX7_init 53 = .ok (.bipush 25, 2) := by decide +kernel
theorem dX7_init_55 : decode cX7_init 55 = .ok (.if_icmp .ge 48, 3) := by decide +kernel
theorem dX7_init_58 : decode cX7_init 58 = .ok (.ldc 26, 2) := by decide +kernel
theorem dX7_init_60 : decode cX7_init 60 = .ok (.iload 4, 2) := by decide +kernel
theorem dX7_init_62 : decode cX7_init 62 = .ok (.invokevirtual 34, 3) := by decide +kernel
theorem dX7_init_65 : decode cX7_init 65 = .ok (.bipush 32, 2) := by decide +kernel
theorem dX7_init_67 : decode cX7_init 67 = .ok (.if_icmp .ne 18, 3) := by decide +kernel
theorem dX7_init_70 : decode cX7_init 70 = .ok (.aload_n 0, 1) := by decide +kernel
theorem dX7_init_71 : decode cX7_init 71 = .ok (.getfield 11, 3) := by decide +kernel
theorem dX7_init_74 : decode cX7_init 74 = .ok (.iload_n 1, 1) := by decide +kernel
theorem dX7_init_75 : decode cX7_init 75 = .ok (.lload_n 2, 1) := by decide +kernel
theorem dX7_init_76 : decode cX7_init 76 = .ok (.lastore, 1) := by decide +kernel
theorem dX7_init_77 : decode cX7_init 77 = .ok (.iinc 1 1, 3) := by decide +kernel
theorem dX7_init_80 : decode cX7_init 80 = .ok (.lconst 0, 1) := by decide +kernel
theorem dX7_init_81 : decode cX7_init 81 = .ok (.lstore_n 2, 1) := by decide +kernel
theorem dX7_init_82 : decode cX7_init 82 = .ok (.goto 15, 3) := by decide +kernel
theorem dX7_init_85 : decode cX7_init 85 = .ok (.lload_n 2, 1) := by decide +kernel
theorem dX7_init_86 : decode cX7_init 86 = .ok (.ldc 26, 2) := by decide +kernel
theorem dX7_init_88 : decode cX7_init 88 = .ok (.iload 4, 2) := by decide +kernel
theorem dX7_init_90 : decode cX7_init 90 = .ok (.invokevirtual 34, 3) := by decide +kernel
theorem dX7_init_93 : decode cX7_init 93 = .ok (.invokestatic 38, 3) := by decide +kernel
theorem dX7_init_96 : decode cX7_init 96 = .ok (.lstore_n 2, 1) := by decide +kernel
theorem dX7_init_97 : decode cX7_init 97 = .ok (.iinc 4 1, 3) := by decide +kernel
theorem dX7_init_100 : decode cX7_init 100 = .ok (.goto (-58), 3) := by decide +kernel
theorem dX7_init_103 : decode cX7_init 103 = .ok (.return_, 1) := by decide +kernel
theorem ok_cw0 (a0 : Int) (a2 : Int) (σ : Sg) : MC l [] (fun _ _ => 0) yX7_codeWith cX7_codeWith 3 1 1 [.inr (.inl a0), .inl a2] σ (To_codeWith a0 a2 σ) := by
  refine mc_of (by decide) (Nat.le_of_ble_eq_true rfl) ?_
  change G l [] (fun _ _ => 0) RX7 cX7_codeWith 3 1 1 0 [some (.inr (.inl a0)), none, some (.inl a2)] [] σ (To_codeWith a0 a2 σ)
  unfold To_codeWith
  refine g_lload_n dX7_codeWith_0 rfl rfl ?_
  refine g_ldc2 (n := 27) (tm 339 (by decide +kernel) rfl) (by decide) dX7_codeWith_1 ?_
  refine g_lmul dX7_codeWith_4 ?_
  refine g_iload_n dX7_codeWith_5 rfl rfl ?_
  refine g_i2l dX7_codeWith_6 ?_
  refine g_ladd dX7_codeWith_7 ?_
  refine g_ldc2 (n := 97) (tm 340 (by decide +kernel) rfl) (by decide) dX7_codeWith_8 ?_
  refine g_lsub dX7_codeWith_11 ?_
  refine g_lconst (v := 1) dX7_codeWith_12 (by decide) ?_
  refine g_ladd dX7_codeWith_13 ?_
  exact g_lret dX7_codeWith_14
theorem m_keys {base : Nat} : ∀ (m j : Nat), j + m = 131 → GN l D dA a1 a2 RX7 cX7_init 5 5 base 42 [some (.inr (.inr 0)), some (.inl (kA j : Nat)), some (.inr (.inl (kC j))), none, some (.inl (j : Nat))] [] 4 (cev dA base KTo PTo (zk (kF j))) 3 1826 (QN D base 4 (cev dA base KTo PTo zTo)) 3 1826 := by
  intro m
  induction m with
  | zero =>
    intro j hj
    obtain rfl : j = 131 := by omega
    refine m_iload dX7_init_42 rfl ?_
    refine m_len dX7_init_44 dX7_init_46 (Nat.le_of_ble_eq_true rfl) (Nat.le_of_ble_eq_true rfl) (Nat.le_of_ble_eq_true rfl) (Nat.le_of_ble_eq_true rfl) ?_
    refine m_icmpge_t (tgt := 103) dX7_init_49 (by decide) (by decide) ?_
    refine m_vret rfl ?_ (Nat.le_of_ble_eq_true rfl) (Nat.le_of_ble_eq_true rfl) dX7_init_103
    intro q hq
    rw [kF_e]
    exact ve.rf
  | succ m ih =>
    intro j hj
    have hj' : j < 131 := by omega
    have h1 := kA_b j hj'
    have hc := kz_c j hj'
    refine m_iload dX7_init_42 rfl ?_
    refine m_len dX7_init_44 dX7_init_46 (Nat.le_of_ble_eq_true rfl) (Nat.le_of_ble_eq_true rfl) (Nat.le_of_ble_eq_true rfl) (Nat.le_of_ble_eq_true rfl) ?_
    refine m_icmpge_f (tgt := 103) dX7_init_49 (by decide) (by omega) ?_
    refine m_iload_n dX7_init_52 rfl rfl ?_
    refine m_bipush dX7_init_53 (by decide) ?_
    refine m_icmpge_f (tgt := 103) dX7_init_55 (by decide) (by omega) ?_
    refine m_chr (by omega) dX7_init_58 dX7_init_60 rfl dX7_init_62 (Nat.le_of_ble_eq_true rfl) (Nat.le_of_ble_eq_true rfl) (Nat.le_of_ble_eq_true rfl) (Nat.le_of_ble_eq_true rfl) ?_
    rw [Int.toNat_natCast, hc]
    refine m_bipush dX7_init_65 (by decide) ?_
    have w := ih (j + 1) (by omega)
    by_cases e : ksl.getD j 0 = 32
    · rw [show kC (j + 1) = 0 by rw [kC, if_pos e]] at w
      refine m_icmpne_f (tgt := 85) dX7_init_67 (by decide) e ?_
      refine m_aload_n dX7_init_70 rfl rfl ?_
      refine m_getr (z := 1) fl_RX7_11 (Nat.le_of_ble_eq_true rfl) rfl rfl dX7_init_71 ?_
      refine m_iload_n dX7_init_74 rfl rfl ?_
      refine m_lload_n dX7_init_75 rfl rfl ?_
      refine m_lst (N := 25) (f := fun b => Int64.ofInt (kF j b)) (Nat.le_of_ble_eq_true rfl) cev_k (by omega) dX7_init_76 ?_
      refine m_iinc (y := (kA (j + 1) : Nat)) (lv' := [some (.inr (.inr 0)), some (.inl (kA (j + 1) : Nat)), some (.inr (.inl (kC j))), none, some (.inl (j : Nat))]) dX7_init_77 rfl (Nat.le_of_ble_eq_true rfl) (by rw [kA, if_pos e]; unfold w32; omega) rfl ?_
      refine m_lconst (v := 0) dX7_init_80 (by decide) ?_
      refine m_lstore_n (lv' := [some (.inr (.inr 0)), some (.inl (kA (j + 1) : Nat)), some (.inr (.inl 0)), none, some (.inl (j : Nat))]) dX7_init_81 rfl (Nat.le_of_ble_eq_true rfl) rfl ?_
      refine m_goto (tgt := 97) dX7_init_82 (by decide) ?_
      refine m_iinc (y := ((j + 1 : Nat) : Int)) (lv' := [some (.inr (.inr 0)), some (.inl (kA (j + 1) : Nat)), some (.inr (.inl 0)), none, some (.inl (j + 1 : Nat))]) dX7_init_97 rfl (Nat.le_of_ble_eq_true rfl) (by unfold w32; omega) rfl ?_
      refine m_goto (tgt := 42) dX7_init_100 (by decide) ?_
      refine GN.congr (fun q hq => ?_) w
      rcases (show q = 0 ∨ q = 1 ∨ q = 2 ∨ q = 3 by omega) with rfl | rfl | rfl | rfl
      · exact ve.of rfl
      · rw [cev_k, ← ks_up e]; exact ve.of rfl
      · exact ve.of rfl
      · exact ve.of rfl
    · rw [show kC (j + 1) = w64 (w64 (w64 (w64 (kC j * 27) + ksl.getD j 0) - 97) + 1) by rw [kC, if_neg e], show kA (j + 1) = kA j by rw [kA, if_neg e, Nat.add_zero], show kF (j + 1) = kF j by
        funext b; rw [kF]
        show (if _ ∧ _ then _ else _) = _
        rw [if_neg (fun q => e q.1)]] at w
      refine m_icmpne_t (tgt := 85) dX7_init_67 (by decide) e ?_
      refine m_lload_n dX7_init_85 rfl rfl ?_
      refine m_chr (by omega) dX7_init_86 dX7_init_88 rfl dX7_init_90 (Nat.le_of_ble_eq_true rfl) (Nat.le_of_ble_eq_true rfl) (Nat.le_of_ble_eq_true rfl) (Nat.le_of_ble_eq_true rfl) ?_
      rw [Int.toNat_natCast, hc]
      refine m_stat (as := [.inr (.inl (kC j)), .inl (ksl.getD j 0)]) (st := []) mw_X7_codeWith lk_RX7_38 (ok_cw0 (kC j) (ksl.getD j 0) _) (Nat.le_of_ble_eq_true rfl) rfl (fun _ _ => rfl) (Nat.le_of_ble_eq_true rfl) (Nat.le_of_ble_eq_true rfl) (Nat.le_of_ble_eq_true rfl) rfl dX7_init_93 ?_
      refine m_lstore_n (lv' := [some (.inr (.inr 0)), some (.inl (kA j : Nat)), some (.inr (.inl (w64 (w64 (w64 (w64 (kC j * 27) + ksl.getD j 0) - 97) + 1)))), none, some (.inl (j : Nat))]) dX7_init_96 rfl (Nat.le_of_ble_eq_true rfl) rfl ?_
      refine m_iinc (y := ((j + 1 : Nat) : Int)) (lv' := [some (.inr (.inr 0)), some (.inl (kA j : Nat)), some (.inr (.inl (w64 (w64 (w64 (w64 (kC j * 27) + ksl.getD j 0) - 97) + 1)))), none, some (.inl (j + 1 : Nat))]) dX7_init_97 rfl (Nat.le_of_ble_eq_true rfl) (by unfold w32; omega) rfl ?_
      exact m_goto (tgt := 42) dX7_init_100 (by decide) w
theorem mi_X7_init : Cond.code yX7_init cX7_init 5 none ∈ tbf ∧ Cond.initialized (yX7_init).cls ∈ tbf ∧ ((yX7_init).cls ≠ "java/lang/invoke/MethodHandle" ∧ (yX7_init).cls ≠ "java/lang/invoke/VarHandle" ∧ (parseMethodDescriptor (yX7_init).desc).map (fun d => d.parameters.length) = some 0) ∧ 5 ≤ 45 ∧ (yX7_init).name = "<init>" ∧ Cond.instanceMethod yX7_init ∈ tbf := ⟨tm 285 (by decide +kernel) rfl, tm 237 (by decide +kernel) rfl, by decide, by decide, rfl, tm 284 (by decide +kernel) rfl⟩
theorem ci_X7_init : CI l D dA a1 a2 6 yX7_init cX7_init 5 5 3 1826 KTo PTo zTo := by
  refine ci_mk (by decide) rfl (Nat.le_of_ble_eq_true rfl) ?_
  intro base
  change GN l D dA a1 a2 RX7 cX7_init 5 5 base 0 [some (.inr (.inr 0)), none, none, none, none] [] 1 (fun _ => .inr (6, dflt 6)) 0 0 (QN D base 4 (cev dA base KTo PTo zTo)) 3 1826
  refine m_aload_n dX7_init_0 rfl rfl ?_
  refine m_obj oi_RX7_3 (Nat.le_of_ble_eq_true rfl) (Nat.le_of_ble_eq_true rfl) dX7_init_1 ?_
  refine m_aload_n dX7_init_4 rfl rfl ?_
  refine m_bipush dX7_init_5 (by decide) ?_
  refine m_new1 (N := 25) rfl (Nat.le_of_ble_eq_true rfl) (Nat.le_of_ble_eq_true rfl) (Nat.le_of_ble_eq_true rfl) dX7_init_7 ?_
  refine m_putr fc_RX7_11 (Nat.le_of_ble_eq_true rfl) rfl (Nat.le_of_ble_eq_true rfl) dX7_init_9 ?_
  refine m_aload_n dX7_init_12 rfl rfl ?_
  refine m_sipush dX7_init_13 (by decide) ?_
  refine m_new2 (N := 900) rfl (Nat.le_of_ble_eq_true rfl) (Nat.le_of_ble_eq_true rfl) (Nat.le_of_ble_eq_true rfl) dX7_init_16 ?_
  refine m_putr fc_RX7_15 (Nat.le_of_ble_eq_true rfl) rfl (Nat.le_of_ble_eq_true rfl) dX7_init_18 ?_
  refine m_aload_n dX7_init_21 rfl rfl ?_
  refine m_sipush dX7_init_22 (by decide) ?_
  refine m_new1 (N := 901) rfl (Nat.le_of_ble_eq_true rfl) (Nat.le_of_ble_eq_true rfl) (Nat.le_of_ble_eq_true rfl) dX7_init_25 ?_
  refine m_putr fc_RX7_19 (Nat.le_of_ble_eq_true rfl) rfl (Nat.le_of_ble_eq_true rfl) dX7_init_27 ?_
  refine m_aload_n dX7_init_30 rfl rfl ?_
  refine m_iconst dX7_init_31 (by decide) ?_
  refine m_puti fl_RX7_22 (by decide) (Nat.le_of_ble_eq_true rfl) rfl (Nat.le_of_ble_eq_true rfl) dX7_init_32 ?_
  refine m_iconst dX7_init_35 (by decide) ?_
  refine m_istore_n (lv' := [some (.inr (.inr 0)), some (.inl 0), none, none, none]) dX7_init_36 rfl (Nat.le_of_ble_eq_true rfl) rfl ?_
  refine m_lconst (v := 0) dX7_init_37 (by decide) ?_
  refine m_lstore_n (lv' := [some (.inr (.inr 0)), some (.inl 0), some (.inr (.inl 0)), none, none]) dX7_init_38 rfl (Nat.le_of_ble_eq_true rfl) rfl ?_
  refine m_iconst dX7_init_39 (by decide) ?_
  refine m_istore (lv' := [some (.inr (.inr 0)), some (.inl 0), some (.inr (.inl 0)), none, some (.inl 0)]) dX7_init_40 (Nat.le_of_ble_eq_true rfl) rfl ?_
  refine GN.congr (fun q hq => ?_) (m_keys 131 0 rfl)
  rcases (show q = 0 ∨ q = 1 ∨ q = 2 ∨ q = 3 by omega) with rfl | rfl | rfl | rfl
  · exact ve.of rfl
  · exact ve.of rfl
  · exact ve.of rfl
  · exact ve.of rfl
def KPr : Ly := [.inl 4, .inr (1, 14), .inr (0, 8), .inr (0, 8), .inr (0, 8), .inr (0, 6), .inr (0, 6), .inr (0, 6), .inr (0, 48), .inr (0, 48), .inr (0, 18)]
def PPr : Nat → Nat → Nat := fun _ k => match k with | 0 => 1 | 1 => 2 | 2 => 3 | 3 => 4 | 4 => 5 | 5 => 6 | 6 => 7 | 7 => 8 | 8 => 9 | 9 => 10 | _ => 0
def zPr : Sg := fun q k => if q = 0 ∧ k = 14 then 3 else if q = 0 ∧ k = 15 then 1 else 0
theorem oi_RX4_3 : OI RX4 3 := ⟨tm 395 (by decide +kernel) rfl, tm 261 (by decide +kernel) rfl, tm 262 (by decide +kernel) rfl⟩
theorem fc_RX4_9 : FC RX4 9 4 0 := ⟨_, _, _, _, cw_4, by decide, by decide, by decide, (fun _ => ⟨rfl, rfl⟩), tm 396 (by decide +kernel) rfl⟩
theorem fc_RX4_15 : FC RX4 15 4 1 := ⟨_, _, _, _, cw_4, by decide, by decide, by decide, (fun _ => ⟨rfl, rfl⟩), tm 397 (by decide +kernel) rfl⟩
theorem fc_RX4_19 : FC RX4 19 4 2 := ⟨_, _, _, _, cw_4, by decide, by decide, by decide, (fun _ => ⟨rfl, rfl⟩), tm 399 (by decide +kernel) rfl⟩
theorem fc_RX4_22 : FC RX4 22 4 3 := ⟨_, _, _, _, cw_4, by decide, by decide, by decide, (fun _ => ⟨rfl, rfl⟩), tm 401 (by decide +kernel) rfl⟩
theorem fc_RX4_25 : FC RX4 25 4 4 := ⟨_, _, _, _, cw_4, by decide, by decide, by decide, (fun _ => ⟨rfl, rfl⟩), tm 404 (by decide +kernel) rfl⟩
theorem fc_RX4_28 : FC RX4 28 4 5 := ⟨_, _, _, _, cw_4, by decide, by decide, by decide, (fun _ => ⟨rfl, rfl⟩), tm 406 (by decide +kernel) rfl⟩
theorem fc_RX4_31 : FC RX4 31 4 6 := ⟨_, _, _, _, cw_4, by decide, by decide, by decide, (fun _ => ⟨rfl, rfl⟩), tm 409 (by decide +kernel) rfl⟩
theorem fc_RX4_34 : FC RX4 34 4 7 := ⟨_, _, _, _, cw_4, by decide, by decide, by decide, (fun _ => ⟨rfl, rfl⟩), tm 413 (by decide +kernel) rfl⟩
theorem fc_RX4_37 : FC RX4 37 4 8 := ⟨_, _, _, _, cw_4, by decide, by decide, by decide, (fun _ => ⟨rfl, rfl⟩), tm 415 (by decide +kernel) rfl⟩
theorem fc_RX4_40 : FC RX4 40 4 9 := ⟨_, _, _, _, cw_4, by decide, by decide, by decide, (fun _ => ⟨rfl, rfl⟩), tm 417 (by decide +kernel) rfl⟩
theorem dX4_init_0 : decode cX4_init 0 = .ok (.aload_n 0, 1) := by decide +kernel
theorem dX4_init_1 : decode cX4_init 1 = .ok (.invokespecial 3, 3) := by decide +kernel
theorem dX4_init_4 : decode cX4_init 4 = .ok (.aload_n 0, 1) := by decide +kernel
theorem dX4_init_5 : decode cX4_init 5 = .ok (.bipush 14, 2) := by decide +kernel
theorem dX4_init_7 : decode cX4_init 7 = .ok (.newarray .long, 2) := by decide +kernel
theorem dX4_init_9 : decode cX4_init 9 = .ok (.putfield 9, 3) := by decide +kernel
theorem dX4_init_12 : decode cX4_init 12 = .ok (.aload_n 0, 1) := by decide +kernel
theorem dX4_init_13 : decode cX4_init 13 = .ok (.bipush 8, 2) := by decide +kernel
theorem dX4_init_15 : decode cX4_init 15 = .ok (.newarray .int, 2) := by decide +kernel
theorem dX4_init_17 : decode cX4_init 17 = .ok (.putfield 15, 3) := by decide +kernel
theorem dX4_init_20 : decode cX4_init 20 = .ok (.aload_n 0, 1) := by decide +kernel
theorem dX4_init_21 : decode cX4_init 21 = .ok (.bipush 8, 2) := by decide +kernel
theorem dX4_init_23 : decode cX4_init 23 = .ok (.newarray .int, 2) := by decide +kernel
theorem dX4_init_25 : decode cX4_init 25 = .ok (.putfield 19, 3) := by decide +kernel
theorem dX4_init_28 : decode cX4_init 28 = .ok (.aload_n 0, 1) := by decide +kernel
theorem dX4_init_29 : decode cX4_init 29 = .ok (.bipush 8, 2) := by decide +kernel
theorem dX4_init_31 : decode cX4_init 31 = .ok (.newarray .int, 2) := by decide +kernel
theorem dX4_init_33 : decode cX4_init 33 = .ok (.putfield 22, 3) := by decide +kernel
theorem dX4_init_36 : decode cX4_init 36 = .ok (.aload_n 0, 1) := by decide +kernel
theorem dX4_init_37 : decode cX4_init 37 = .ok (.bipush 6, 2) := by decide +kernel
theorem dX4_init_39 : decode cX4_init 39 = .ok (.newarray .int, 2) := by decide +kernel
theorem dX4_init_41 : decode cX4_init 41 = .ok (.putfield 25, 3) := by decide +kernel
theorem dX4_init_44 : decode cX4_init 44 = .ok (.aload_n 0, 1) := by decide +kernel
theorem dX4_init_45 : decode cX4_init 45 = .ok (.bipush 6, 2) := by decide +kernel
theorem dX4_init_47 : decode cX4_init 47 = .ok (.newarray .int, 2) := by decide +kernel
theorem dX4_init_49 : decode cX4_init 49 = .ok (.putfield 28, 3) := by decide +kernel
theorem dX4_init_52 : decode cX4_init 52 = .ok (.aload_n 0, 1) := by decide +kernel
theorem dX4_init_53 : decode cX4_init 53 = .ok (.bipush 6, 2) := by decide +kernel
theorem dX4_init_55 : decode cX4_init 55 = .ok (.newarray .int, 2) := by decide +kernel
theorem dX4_init_57 : decode cX4_init 57 = .ok (.putfield 31, 3) := by decide +kernel
theorem dX4_init_60 : decode cX4_init 60 = .ok (.aload_n 0, 1) := by decide +kernel
theorem dX4_init_61 : decode cX4_init 61 = .ok (.bipush 48, 2) := by decide +kernel
theorem dX4_init_63 : decode cX4_init 63 = .ok (.newarray .int, 2) := by decide +kernel
theorem dX4_init_65 : decode cX4_init 65 = .ok (.putfield 34, 3) := by decide +kernel
theorem dX4_init_68 : decode cX4_init 68 = .ok (.aload_n 0, 1) := by decide +kernel
theorem dX4_init_69 : decode cX4_init 69 = .ok (.bipush 48, 2) := by decide +kernel
theorem dX4_init_71 : decode cX4_init 71 = .ok (.newarray .int, 2) := by decide +kernel
theorem dX4_init_73 : decode cX4_init 73 = .ok (.putfield 37, 3) := by decide +kernel
theorem dX4_init_76 : decode cX4_init 76 = .ok (.aload_n 0, 1) := by decide +kernel
theorem dX4_init_77 : decode cX4_init 77 = .ok (.bipush 18, 2) := by decide +kernel
theorem dX4_init_79 : decode cX4_init 79 = .ok (.newarray .int, 2) := by decide +kernel
theorem dX4_init_81 : decode cX4_init 81 = .ok (.putfield 40, 3) := by decide +kernel
theorem dX4_init_84 : decode cX4_init 84 = .ok (.aload_n 0, 1) := by decide +kernel
theorem dX4_init_85 : decode cX4_init 85 = .ok (.iconst 3, 1) := by decide +kernel
theorem dX4_init_86 : decode cX4_init 86 = .ok (.putfield 43, 3) := by decide +kernel
theorem dX4_init_89 : decode cX4_init 89 = .ok (.aload_n 0, 1) := by decide +kernel
theorem dX4_init_90 : decode cX4_init 90 = .ok (.iconst 1, 1) := by decide +kernel
theorem dX4_init_91 : decode cX4_init 91 = .ok (.putfield 47, 3) := by decide +kernel
theorem dX4_init_94 : decode cX4_init 94 = .ok (.return_, 1) := by decide +kernel
theorem mi_X4_init : Cond.code yX4_init cX4_init 1 none ∈ tbf ∧ Cond.initialized (yX4_init).cls ∈ tbf ∧ ((yX4_init).cls ≠ "java/lang/invoke/MethodHandle" ∧ (yX4_init).cls ≠ "java/lang/invoke/VarHandle" ∧ (parseMethodDescriptor (yX4_init).desc).map (fun d => d.parameters.length) = some 0) ∧ 1 ≤ 45 ∧ (yX4_init).name = "<init>" ∧ Cond.instanceMethod yX4_init ∈ tbf := ⟨tm 394 (by decide +kernel) rfl, tm 242 (by decide +kernel) rfl, by decide, by decide, rfl, tm 393 (by decide +kernel) rfl⟩
theorem ci_X4_init : CI l D dA a1 a2 4 yX4_init cX4_init 1 1 10 170 KPr PPr zPr := by
  refine ci_mk (by decide) rfl (Nat.le_of_ble_eq_true rfl) ?_
  intro base
  change GN l D dA a1 a2 RX4 cX4_init 1 1 base 0 [some (.inr (.inr 0))] [] 1 (fun _ => .inr (4, dflt 4)) 0 0 (QN D base 11 (cev dA base KPr PPr zPr)) 10 170
  refine m_aload_n dX4_init_0 rfl rfl ?_
  refine m_obj oi_RX4_3 (Nat.le_of_ble_eq_true rfl) (Nat.le_of_ble_eq_true rfl) dX4_init_1 ?_
  refine m_aload_n dX4_init_4 rfl rfl ?_
  refine m_bipush dX4_init_5 (by decide) ?_
  refine m_new1 (N := 14) rfl (Nat.le_of_ble_eq_true rfl) (Nat.le_of_ble_eq_true rfl) (Nat.le_of_ble_eq_true rfl) dX4_init_7 ?_
  refine m_putr fc_RX4_9 (Nat.le_of_ble_eq_true rfl) rfl (Nat.le_of_ble_eq_true rfl) dX4_init_9 ?_
  refine m_aload_n dX4_init_12 rfl rfl ?_
  refine m_bipush dX4_init_13 (by decide) ?_
  refine m_new0 (N := 8) rfl (Nat.le_of_ble_eq_true rfl) (Nat.le_of_ble_eq_true rfl) (Nat.le_of_ble_eq_true rfl) dX4_init_15 ?_
  refine m_putr fc_RX4_15 (Nat.le_of_ble_eq_true rfl) rfl (Nat.le_of_ble_eq_true rfl) dX4_init_17 ?_
  refine m_aload_n dX4_init_20 rfl rfl ?_
  refine m_bipush dX4_init_21 (by decide) ?_
  refine m_new0 (N := 8) rfl (Nat.le_of_ble_eq_true rfl) (Nat.le_of_ble_eq_true rfl) (Nat.le_of_ble_eq_true rfl) dX4_init_23 ?_
  refine m_putr fc_RX4_19 (Nat.le_of_ble_eq_true rfl) rfl (Nat.le_of_ble_eq_true rfl) dX4_init_25 ?_
  refine m_aload_n dX4_init_28 rfl rfl ?_
  refine m_bipush dX4_init_29 (by decide) ?_
  refine m_new0 (N := 8) rfl (Nat.le_of_ble_eq_true rfl) (Nat.le_of_ble_eq_true rfl) (Nat.le_of_ble_eq_true rfl) dX4_init_31 ?_
  refine m_putr fc_RX4_22 (Nat.le_of_ble_eq_true rfl) rfl (Nat.le_of_ble_eq_true rfl) dX4_init_33 ?_
  refine m_aload_n dX4_init_36 rfl rfl ?_
  refine m_bipush dX4_init_37 (by decide) ?_
  refine m_new0 (N := 6) rfl (Nat.le_of_ble_eq_true rfl) (Nat.le_of_ble_eq_true rfl) (Nat.le_of_ble_eq_true rfl) dX4_init_39 ?_
  refine m_putr fc_RX4_25 (Nat.le_of_ble_eq_true rfl) rfl (Nat.le_of_ble_eq_true rfl) dX4_init_41 ?_
  refine m_aload_n dX4_init_44 rfl rfl ?_
  refine m_bipush dX4_init_45 (by decide) ?_
  refine m_new0 (N := 6) rfl (Nat.le_of_ble_eq_true rfl) (Nat.le_of_ble_eq_true rfl) (Nat.le_of_ble_eq_true rfl) dX4_init_47 ?_
  refine m_putr fc_RX4_28 (Nat.le_of_ble_eq_true rfl) rfl (Nat.le_of_ble_eq_true rfl) dX4_init_49 ?_
  refine m_aload_n dX4_init_52 rfl rfl ?_
  refine m_bipush dX4_init_53 (by decide) ?_
  refine m_new0 (N := 6) rfl (Nat.le_of_ble_eq_true rfl) (Nat.le_of_ble_eq_true rfl) (Nat.le_of_ble_eq_true rfl) dX4_init_55 ?_
  refine m_putr fc_RX4_31 (Nat.le_of_ble_eq_true rfl) rfl (Nat.le_of_ble_eq_true rfl) dX4_init_57 ?_
  refine m_aload_n dX4_init_60 rfl rfl ?_
  refine m_bipush dX4_init_61 (by decide) ?_
  refine m_new0 (N := 48) rfl (Nat.le_of_ble_eq_true rfl) (Nat.le_of_ble_eq_true rfl) (Nat.le_of_ble_eq_true rfl) dX4_init_63 ?_
  refine m_putr fc_RX4_34 (Nat.le_of_ble_eq_true rfl) rfl (Nat.le_of_ble_eq_true rfl) dX4_init_65 ?_
  refine m_aload_n dX4_init_68 rfl rfl ?_
  refine m_bipush dX4_init_69 (by decide) ?_
  refine m_new0 (N := 48) rfl (Nat.le_of_ble_eq_true rfl) (Nat.le_of_ble_eq_true rfl) (Nat.le_of_ble_eq_true rfl) dX4_init_71 ?_
  refine m_putr fc_RX4_37 (Nat.le_of_ble_eq_true rfl) rfl (Nat.le_of_ble_eq_true rfl) dX4_init_73 ?_
  refine m_aload_n dX4_init_76 rfl rfl ?_
  refine m_bipush dX4_init_77 (by decide) ?_
  refine m_new0 (N := 18) rfl (Nat.le_of_ble_eq_true rfl) (Nat.le_of_ble_eq_true rfl) (Nat.le_of_ble_eq_true rfl) dX4_init_79 ?_
  refine m_putr fc_RX4_40 (Nat.le_of_ble_eq_true rfl) rfl (Nat.le_of_ble_eq_true rfl) dX4_init_81 ?_
  refine m_aload_n dX4_init_84 rfl rfl ?_
  refine m_iconst dX4_init_85 (by decide) ?_
  refine m_puti fl_RX4_43 (by decide) (Nat.le_of_ble_eq_true rfl) rfl (Nat.le_of_ble_eq_true rfl) dX4_init_86 ?_
  refine m_aload_n dX4_init_89 rfl rfl ?_
  refine m_iconst dX4_init_90 (by decide) ?_
  refine m_puti fl_RX4_47 (by decide) (Nat.le_of_ble_eq_true rfl) rfl (Nat.le_of_ble_eq_true rfl) dX4_init_91 ?_
  refine m_vret rfl ?_ (Nat.le_of_ble_eq_true rfl) (Nat.le_of_ble_eq_true rfl) dX4_init_94
  intro q hq
  rcases (show q = 0 ∨ q = 1 ∨ q = 2 ∨ q = 3 ∨ q = 4 ∨ q = 5 ∨ q = 6 ∨ q = 7 ∨ q = 8 ∨ q = 9 ∨ q = 10 by omega) with rfl | rfl | rfl | rfl | rfl | rfl | rfl | rfl | rfl | rfl | rfl
  · exact ve.of rfl
  · exact ve.of rfl
  · exact ve.of rfl
  · exact ve.of rfl
  · exact ve.of rfl
  · exact ve.of rfl
  · exact ve.of rfl
  · exact ve.of rfl
  · exact ve.of rfl
  · exact ve.of rfl
  · exact ve.of rfl
def KYe : Ly := [.inl 8, .inr (0, 60), .inr (0, 60), .inr (0, 60), .inr (0, 60), .inr (0, 60)]
def PYe : Nat → Nat → Nat := fun _ k => match k with | 0 => 1 | 1 => 2 | 2 => 3 | 3 => 4 | 4 => 5 | _ => 0
def zYe : Sg := fun _ _ => 0
theorem oi_RX9_5 : OI RX9 5 := ⟨tm 497 (by decide +kernel) rfl, tm 261 (by decide +kernel) rfl, tm 262 (by decide +kernel) rfl⟩
theorem fc_RX9_11 : FC RX9 11 8 0 := ⟨_, _, _, _, cw_8, by decide, by decide, by decide, (fun _ => ⟨rfl, rfl⟩), tm 498 (by decide +kernel) rfl⟩
theorem fc_RX9_15 : FC RX9 15 8 1 := ⟨_, _, _, _, cw_8, by decide, by decide, by decide, (fun _ => ⟨rfl, rfl⟩), tm 500 (by decide +kernel) rfl⟩
theorem fc_RX9_18 : FC RX9 18 8 2 := ⟨_, _, _, _, cw_8, by decide, by decide, by decide, (fun _ => ⟨rfl, rfl⟩), tm 502 (by decide +kernel) rfl⟩
theorem fc_RX9_21 : FC RX9 21 8 3 := ⟨_, _, _, _, cw_8, by decide, by decide, by decide, (fun _ => ⟨rfl, rfl⟩), tm 504 (by decide +kernel) rfl⟩
theorem fc_RX9_24 : FC RX9 24 8 4 := ⟨_, _, _, _, cw_8, by decide, by decide, by decide, (fun _ => ⟨rfl, rfl⟩), tm 506 (by decide +kernel) rfl⟩
theorem dX9_init_0 : decode cX9_init 0 = .ok (.aload_n 0, 1) := by decide +kernel
theorem dX9_init_1 : decode cX9_init 1 = .ok (.invokespecial 5, 3) := by decide +kernel
theorem dX9_init_4 : decode cX9_init 4 = .ok (.aload_n 0, 1) := by decide +kernel
theorem dX9_init_5 : decode cX9_init 5 = .ok (.bipush 60, 2) := by decide +kernel
theorem dX9_init_7 : decode cX9_init 7 = .ok (.newarray .int, 2) := by decide +kernel
theorem dX9_init_9 : decode cX9_init 9 = .ok (.putfield 11, 3) := by decide +kernel
theorem dX9_init_12 : decode cX9_init 12 = .ok (.aload_n 0, 1) := by decide +kernel
theorem dX9_init_13 : decode cX9_init 13 = .ok (.bipush 60, 2) := by decide +kernel
theorem dX9_init_15 : decode cX9_init 15 = .ok (.newarray .int, 2) := by decide +kernel
theorem dX9_init_17 : decode cX9_init 17 = .ok (.putfield 15, 3) := by decide +kernel
theorem dX9_init_20 : decode cX9_init 20 = .ok (.aload_n 0, 1) := by decide +kernel
theorem dX9_init_21 : decode cX9_init 21 = .ok (.bipush 60, 2) := by decide +kernel
theorem dX9_init_23 : decode cX9_init 23 = .ok (.newarray .int, 2) := by decide +kernel
theorem dX9_init_25 : decode cX9_init 25 = .ok (.putfield 18, 3) := by decide +kernel
theorem dX9_init_28 : decode cX9_init 28 = .ok (.aload_n 0, 1) := by decide +kernel
theorem dX9_init_29 : decode cX9_init 29 = .ok (.bipush 60, 2) := by decide +kernel
theorem dX9_init_31 : decode cX9_init 31 = .ok (.newarray .int, 2) := by decide +kernel
theorem dX9_init_33 : decode cX9_init 33 = .ok (.putfield 21, 3) := by decide +kernel
theorem dX9_init_36 : decode cX9_init 36 = .ok (.aload_n 0, 1) := by decide +kernel
theorem dX9_init_37 : decode cX9_init 37 = .ok (.bipush 60, 2) := by decide +kernel
theorem dX9_init_39 : decode cX9_init 39 = .ok (.newarray .int, 2) := by decide +kernel
theorem dX9_init_41 : decode cX9_init 41 = .ok (.putfield 24, 3) := by decide +kernel
theorem dX9_init_44 : decode cX9_init 44 = .ok (.return_, 1) := by decide +kernel
theorem mi_X9_init : Cond.code yX9_init cX9_init 1 none ∈ tbf ∧ Cond.initialized (yX9_init).cls ∈ tbf ∧ ((yX9_init).cls ≠ "java/lang/invoke/MethodHandle" ∧ (yX9_init).cls ≠ "java/lang/invoke/VarHandle" ∧ (parseMethodDescriptor (yX9_init).desc).map (fun d => d.parameters.length) = some 0) ∧ 1 ≤ 45 ∧ (yX9_init).name = "<init>" ∧ Cond.instanceMethod yX9_init ∈ tbf := ⟨tm 496 (by decide +kernel) rfl, tm 243 (by decide +kernel) rfl, by decide, by decide, rfl, tm 495 (by decide +kernel) rfl⟩
theorem ci_X9_init : CI l D dA a1 a2 8 yX9_init cX9_init 1 1 5 300 KYe PYe zYe := by
  refine ci_mk (by decide) rfl (Nat.le_of_ble_eq_true rfl) ?_
  intro base
  change GN l D dA a1 a2 RX9 cX9_init 1 1 base 0 [some (.inr (.inr 0))] [] 1 (fun _ => .inr (8, dflt 8)) 0 0 (QN D base 6 (cev dA base KYe PYe zYe)) 5 300
  refine m_aload_n dX9_init_0 rfl rfl ?_
  refine m_obj oi_RX9_5 (Nat.le_of_ble_eq_true rfl) (Nat.le_of_ble_eq_true rfl) dX9_init_1 ?_
  refine m_aload_n dX9_init_4 rfl rfl ?_
  refine m_bipush dX9_init_5 (by decide) ?_
  refine m_new0 (N := 60) rfl (Nat.le_of_ble_eq_true rfl) (Nat.le_of_ble_eq_true rfl) (Nat.le_of_ble_eq_true rfl) dX9_init_7 ?_
  refine m_putr fc_RX9_11 (Nat.le_of_ble_eq_true rfl) rfl (Nat.le_of_ble_eq_true rfl) dX9_init_9 ?_
  refine m_aload_n dX9_init_12 rfl rfl ?_
  refine m_bipush dX9_init_13 (by decide) ?_
  refine m_new0 (N := 60) rfl (Nat.le_of_ble_eq_true rfl) (Nat.le_of_ble_eq_true rfl) (Nat.le_of_ble_eq_true rfl) dX9_init_15 ?_
  refine m_putr fc_RX9_15 (Nat.le_of_ble_eq_true rfl) rfl (Nat.le_of_ble_eq_true rfl) dX9_init_17 ?_
  refine m_aload_n dX9_init_20 rfl rfl ?_
  refine m_bipush dX9_init_21 (by decide) ?_
  refine m_new0 (N := 60) rfl (Nat.le_of_ble_eq_true rfl) (Nat.le_of_ble_eq_true rfl) (Nat.le_of_ble_eq_true rfl) dX9_init_23 ?_
  refine m_putr fc_RX9_18 (Nat.le_of_ble_eq_true rfl) rfl (Nat.le_of_ble_eq_true rfl) dX9_init_25 ?_
  refine m_aload_n dX9_init_28 rfl rfl ?_
  refine m_bipush dX9_init_29 (by decide) ?_
  refine m_new0 (N := 60) rfl (Nat.le_of_ble_eq_true rfl) (Nat.le_of_ble_eq_true rfl) (Nat.le_of_ble_eq_true rfl) dX9_init_31 ?_
  refine m_putr fc_RX9_21 (Nat.le_of_ble_eq_true rfl) rfl (Nat.le_of_ble_eq_true rfl) dX9_init_33 ?_
  refine m_aload_n dX9_init_36 rfl rfl ?_
  refine m_bipush dX9_init_37 (by decide) ?_
  refine m_new0 (N := 60) rfl (Nat.le_of_ble_eq_true rfl) (Nat.le_of_ble_eq_true rfl) (Nat.le_of_ble_eq_true rfl) dX9_init_39 ?_
  refine m_putr fc_RX9_24 (Nat.le_of_ble_eq_true rfl) rfl (Nat.le_of_ble_eq_true rfl) dX9_init_41 ?_
  refine m_vret rfl ?_ (Nat.le_of_ble_eq_true rfl) (Nat.le_of_ble_eq_true rfl) dX9_init_44
  intro q hq
  rcases (show q = 0 ∨ q = 1 ∨ q = 2 ∨ q = 3 ∨ q = 4 ∨ q = 5 by omega) with rfl | rfl | rfl | rfl | rfl | rfl
  · exact ve.of rfl
  · exact ve.of rfl
  · exact ve.of rfl
  · exact ve.of rfl
  · exact ve.of rfl
  · exact ve.of rfl
def KLi : Ly := [.inl 2, .inr (0, 5), .inr (0, 60)]
def PLi : Nat → Nat → Nat := fun _ k => match k with | 0 => 1 | 1 => 2 | _ => 0
def zLi : Sg := fun _ _ => 0
theorem oi_RX2_5 : OI RX2 5 := ⟨tm 540 (by decide +kernel) rfl, tm 261 (by decide +kernel) rfl, tm 262 (by decide +kernel) rfl⟩
theorem fc_RX2_11 : FC RX2 11 2 0 := ⟨_, _, _, _, cw_2, by decide, by decide, by decide, (fun _ => ⟨rfl, rfl⟩), tm 541 (by decide +kernel) rfl⟩
theorem fc_RX2_17 : FC RX2 17 2 1 := ⟨_, _, _, _, cw_2, by decide, by decide, by decide, (fun _ => ⟨rfl, rfl⟩), tm 543 (by decide +kernel) rfl⟩
theorem dX2_init_0 : decode cX2_init 0 = .ok (.aload_n 0, 1) := by decide +kernel
theorem dX2_init_1 : decode cX2_init 1 = .ok (.invokespecial 5, 3) := by decide +kernel
theorem dX2_init_4 : decode cX2_init 4 = .ok (.aload_n 0, 1) := by decide +kernel
theorem dX2_init_5 : decode cX2_init 5 = .ok (.iconst 5, 1) := by decide +kernel
theorem dX2_init_6 : decode cX2_init 6 = .ok (.newarray .int, 2) := by decide +kernel
theorem dX2_init_8 : decode cX2_init 8 = .ok (.putfield 11, 3) := by decide +kernel
theorem dX2_init_11 : decode cX2_init 11 = .ok (.aload_n 0, 1) := by decide +kernel
theorem dX2_init_12 : decode cX2_init 12 = .ok (.bipush 60, 2) := by decide +kernel
theorem dX2_init_14 : decode cX2_init 14 = .ok (.newarray .int, 2) := by decide +kernel
theorem dX2_init_16 : decode cX2_init 16 = .ok (.putfield 17, 3) := by decide +kernel
theorem dX2_init_19 : decode cX2_init 19 = .ok (.return_, 1) := by decide +kernel
theorem mi_X2_init : Cond.code yX2_init cX2_init 1 none ∈ tbf ∧ Cond.initialized (yX2_init).cls ∈ tbf ∧ ((yX2_init).cls ≠ "java/lang/invoke/MethodHandle" ∧ (yX2_init).cls ≠ "java/lang/invoke/VarHandle" ∧ (parseMethodDescriptor (yX2_init).desc).map (fun d => d.parameters.length) = some 0) ∧ 1 ≤ 45 ∧ (yX2_init).name = "<init>" ∧ Cond.instanceMethod yX2_init ∈ tbf := ⟨tm 539 (by decide +kernel) rfl, tm 244 (by decide +kernel) rfl, by decide, by decide, rfl, tm 538 (by decide +kernel) rfl⟩
theorem ci_X2_init : CI l D dA a1 a2 2 yX2_init cX2_init 1 1 2 65 KLi PLi zLi := by
  refine ci_mk (by decide) rfl (Nat.le_of_ble_eq_true rfl) ?_
  intro base
  change GN l D dA a1 a2 RX2 cX2_init 1 1 base 0 [some (.inr (.inr 0))] [] 1 (fun _ => .inr (2, dflt 2)) 0 0 (QN D base 3 (cev dA base KLi PLi zLi)) 2 65
  refine m_aload_n dX2_init_0 rfl rfl ?_
  refine m_obj oi_RX2_5 (Nat.le_of_ble_eq_true rfl) (Nat.le_of_ble_eq_true rfl) dX2_init_1 ?_
  refine m_aload_n dX2_init_4 rfl rfl ?_
  refine m_iconst dX2_init_5 (by decide) ?_
  refine m_new0 (N := 5) rfl (Nat.le_of_ble_eq_true rfl) (Nat.le_of_ble_eq_true rfl) (Nat.le_of_ble_eq_true rfl) dX2_init_6 ?_
  refine m_putr fc_RX2_11 (Nat.le_of_ble_eq_true rfl) rfl (Nat.le_of_ble_eq_true rfl) dX2_init_8 ?_
  refine m_aload_n dX2_init_11 rfl rfl ?_
  refine m_bipush dX2_init_12 (by decide) ?_
  refine m_new0 (N := 60) rfl (Nat.le_of_ble_eq_true rfl) (Nat.le_of_ble_eq_true rfl) (Nat.le_of_ble_eq_true rfl) dX2_init_14 ?_
  refine m_putr fc_RX2_17 (Nat.le_of_ble_eq_true rfl) rfl (Nat.le_of_ble_eq_true rfl) dX2_init_16 ?_
  refine m_vret rfl ?_ (Nat.le_of_ble_eq_true rfl) (Nat.le_of_ble_eq_true rfl) dX2_init_19
  intro q hq
  rcases (show q = 0 ∨ q = 1 ∨ q = 2 by omega) with rfl | rfl | rfl
  · exact ve.of rfl
  · exact ve.of rfl
  · exact ve.of rfl
def KFi : Ly := [.inl 1, .inr (0, 256), .inr (0, 256), .inr (1, 112)]
def PFi : Nat → Nat → Nat := fun _ k => match k with | 0 => 1 | 2 => 2 | 3 => 3 | _ => 0
def zFi : Sg := fun _ _ => 0
theorem oi_RX1_3 : OI RX1 3 := ⟨tm 561 (by decide +kernel) rfl, tm 261 (by decide +kernel) rfl, tm 262 (by decide +kernel) rfl⟩
theorem fc_RX1_11 : FC RX1 11 1 0 := ⟨_, _, _, _, cw_1, by decide, by decide, by decide, (fun _ => ⟨rfl, rfl⟩), tm 562 (by decide +kernel) rfl⟩
theorem fc_RX1_15 : FC RX1 15 1 2 := ⟨_, _, _, _, cw_1, by decide, by decide, by decide, (fun _ => ⟨rfl, rfl⟩), tm 565 (by decide +kernel) rfl⟩
theorem fc_RX1_18 : FC RX1 18 1 3 := ⟨_, _, _, _, cw_1, by decide, by decide, by decide, (fun _ => ⟨rfl, rfl⟩), tm 566 (by decide +kernel) rfl⟩
theorem dX1_init_0 : decode cX1_init 0 = .ok (.aload_n 0, 1) := by decide +kernel
theorem dX1_init_1 : decode cX1_init 1 = .ok (.invokespecial 3, 3) := by decide +kernel
theorem dX1_init_4 : decode cX1_init 4 = .ok (.aload_n 0, 1) := by decide +kernel
theorem dX1_init_5 : decode cX1_init 5 = .ok (.sipush 256, 3) := by decide +kernel
theorem dX1_init_8 : decode cX1_init 8 = .ok (.newarray .int, 2) := by decide +kernel
theorem dX1_init_10 : decode cX1_init 10 = .ok (.putfield 11, 3) := by decide +kernel
theorem dX1_init_13 : decode cX1_init 13 = .ok (.aload_n 0, 1) := by decide +kernel
theorem dX1_init_14 : decode cX1_init 14 = .ok (.sipush 256, 3) := by decide +kernel
theorem dX1_init_17 : decode cX1_init 17 = .ok (.newarray .int, 2) := by decide +kernel
theorem dX1_init_19 : decode cX1_init 19 = .ok (.putfield 15, 3) := by decide +kernel
theorem dX1_init_22 : decode cX1_init 22 = .ok (.aload_n 0, 1) := by decide +kernel
theorem dX1_init_23 : decode cX1_init 23 = .ok (.bipush 112, 2) := by decide +kernel
theorem dX1_init_25 : decode cX1_init 25 = .ok (.newarray .long, 2) := by decide +kernel
theorem dX1_init_27 : decode cX1_init 27 = .ok (.putfield 18, 3) := by decide +kernel
theorem dX1_init_30 : decode cX1_init 30 = .ok (.return_, 1) := by decide +kernel
theorem mi_X1_init : Cond.code yX1_init cX1_init 1 none ∈ tbf ∧ Cond.initialized (yX1_init).cls ∈ tbf ∧ ((yX1_init).cls ≠ "java/lang/invoke/MethodHandle" ∧ (yX1_init).cls ≠ "java/lang/invoke/VarHandle" ∧ (parseMethodDescriptor (yX1_init).desc).map (fun d => d.parameters.length) = some 0) ∧ 1 ≤ 45 ∧ (yX1_init).name = "<init>" ∧ Cond.instanceMethod yX1_init ∈ tbf := ⟨tm 560 (by decide +kernel) rfl, tm 245 (by decide +kernel) rfl, by decide, by decide, rfl, tm 559 (by decide +kernel) rfl⟩
theorem ci_X1_init : CI l D dA a1 a2 1 yX1_init cX1_init 1 1 3 624 KFi PFi zFi := by
  refine ci_mk (by decide) rfl (Nat.le_of_ble_eq_true rfl) ?_
  intro base
  change GN l D dA a1 a2 RX1 cX1_init 1 1 base 0 [some (.inr (.inr 0))] [] 1 (fun _ => .inr (1, dflt 1)) 0 0 (QN D base 4 (cev dA base KFi PFi zFi)) 3 624
  refine m_aload_n dX1_init_0 rfl rfl ?_
  refine m_obj oi_RX1_3 (Nat.le_of_ble_eq_true rfl) (Nat.le_of_ble_eq_true rfl) dX1_init_1 ?_
  refine m_aload_n dX1_init_4 rfl rfl ?_
  refine m_sipush dX1_init_5 (by decide) ?_
  refine m_new0 (N := 256) rfl (Nat.le_of_ble_eq_true rfl) (Nat.le_of_ble_eq_true rfl) (Nat.le_of_ble_eq_true rfl) dX1_init_8 ?_
  refine m_putr fc_RX1_11 (Nat.le_of_ble_eq_true rfl) rfl (Nat.le_of_ble_eq_true rfl) dX1_init_10 ?_
  refine m_aload_n dX1_init_13 rfl rfl ?_
  refine m_sipush dX1_init_14 (by decide) ?_
  refine m_new0 (N := 256) rfl (Nat.le_of_ble_eq_true rfl) (Nat.le_of_ble_eq_true rfl) (Nat.le_of_ble_eq_true rfl) dX1_init_17 ?_
  refine m_putr fc_RX1_15 (Nat.le_of_ble_eq_true rfl) rfl (Nat.le_of_ble_eq_true rfl) dX1_init_19 ?_
  refine m_aload_n dX1_init_22 rfl rfl ?_
  refine m_bipush dX1_init_23 (by decide) ?_
  refine m_new1 (N := 112) rfl (Nat.le_of_ble_eq_true rfl) (Nat.le_of_ble_eq_true rfl) (Nat.le_of_ble_eq_true rfl) dX1_init_25 ?_
  refine m_putr fc_RX1_18 (Nat.le_of_ble_eq_true rfl) rfl (Nat.le_of_ble_eq_true rfl) dX1_init_27 ?_
  refine m_vret rfl ?_ (Nat.le_of_ble_eq_true rfl) (Nat.le_of_ble_eq_true rfl) dX1_init_30
  intro q hq
  rcases (show q = 0 ∨ q = 1 ∨ q = 2 ∨ q = 3 by omega) with rfl | rfl | rfl | rfl
  · exact ve.of rfl
  · exact ve.of rfl
  · exact ve.of rfl
  · exact ve.of rfl
def KRo : Ly := [.inl 5, .inr (0, 64)]
def PRo : Nat → Nat → Nat := fun _ k => match k with | 0 => 1 | _ => 0
def zRo : Sg := fun _ _ => 0
theorem oi_RX6_3 : OI RX6 3 := ⟨tm 581 (by decide +kernel) rfl, tm 261 (by decide +kernel) rfl, tm 262 (by decide +kernel) rfl⟩
theorem fc_RX6_11 : FC RX6 11 5 0 := ⟨_, _, _, _, cw_5, by decide, by decide, by decide, (fun _ => ⟨rfl, rfl⟩), tm 582 (by decide +kernel) rfl⟩
theorem dX6_init_0 : decode cX6_init 0 = .ok (.aload_n 0, 1) := by decide +kernel
theorem dX6_init_1 : decode cX6_init 1 = .ok (.invokespecial 3, 3) := by decide +kernel
theorem dX6_init_4 : decode cX6_init 4 = .ok (.aload_n 0, 1) := by decide +kernel
theorem dX6_init_5 : decode cX6_init 5 = .ok (.bipush 64, 2) := by decide +kernel
theorem dX6_init_7 : decode cX6_init 7 = .ok (.newarray .int, 2) := by decide +kernel
theorem dX6_init_9 : decode cX6_init 9 = .ok (.putfield 11, 3) := by decide +kernel
theorem dX6_init_12 : decode cX6_init 12 = .ok (.return_, 1) := by decide +kernel
theorem mi_X6_init : Cond.code yX6_init cX6_init 1 none ∈ tbf ∧ Cond.initialized (yX6_init).cls ∈ tbf ∧ ((yX6_init).cls ≠ "java/lang/invoke/MethodHandle" ∧ (yX6_init).cls ≠ "java/lang/invoke/VarHandle" ∧ (parseMethodDescriptor (yX6_init).desc).map (fun d => d.parameters.length) = some 0) ∧ 1 ≤ 45 ∧ (yX6_init).name = "<init>" ∧ Cond.instanceMethod yX6_init ∈ tbf := ⟨tm 580 (by decide +kernel) rfl, tm 246 (by decide +kernel) rfl, by decide, by decide, rfl, tm 579 (by decide +kernel) rfl⟩
theorem ci_X6_init : CI l D dA a1 a2 5 yX6_init cX6_init 1 1 1 64 KRo PRo zRo := by
  refine ci_mk (by decide) rfl (Nat.le_of_ble_eq_true rfl) ?_
  intro base
  change GN l D dA a1 a2 RX6 cX6_init 1 1 base 0 [some (.inr (.inr 0))] [] 1 (fun _ => .inr (5, dflt 5)) 0 0 (QN D base 2 (cev dA base KRo PRo zRo)) 1 64
  refine m_aload_n dX6_init_0 rfl rfl ?_
  refine m_obj oi_RX6_3 (Nat.le_of_ble_eq_true rfl) (Nat.le_of_ble_eq_true rfl) dX6_init_1 ?_
  refine m_aload_n dX6_init_4 rfl rfl ?_
  refine m_bipush dX6_init_5 (by decide) ?_
  refine m_new0 (N := 64) rfl (Nat.le_of_ble_eq_true rfl) (Nat.le_of_ble_eq_true rfl) (Nat.le_of_ble_eq_true rfl) dX6_init_7 ?_
  refine m_putr fc_RX6_11 (Nat.le_of_ble_eq_true rfl) rfl (Nat.le_of_ble_eq_true rfl) dX6_init_9 ?_
  refine m_vret rfl ?_ (Nat.le_of_ble_eq_true rfl) (Nat.le_of_ble_eq_true rfl) dX6_init_12
  intro q hq
  rcases (show q = 0 ∨ q = 1 by omega) with rfl | rfl
  · exact ve.of rfl
  · exact ve.of rfl
def KPl : Ly := [.inl 3, .inr (0, 8), .inr (0, 256)]
def PPl : Nat → Nat → Nat := fun _ k => match k with | 0 => 1 | 1 => 2 | _ => 0
def zPl : Sg := fun _ _ => 0
theorem oi_RX3_3 : OI RX3 3 := ⟨tm 591 (by decide +kernel) rfl, tm 261 (by decide +kernel) rfl, tm 262 (by decide +kernel) rfl⟩
theorem fc_RX3_9 : FC RX3 9 3 0 := ⟨_, _, _, _, cw_3, by decide, by decide, by decide, (fun _ => ⟨rfl, rfl⟩), tm 592 (by decide +kernel) rfl⟩
theorem fc_RX3_15 : FC RX3 15 3 1 := ⟨_, _, _, _, cw_3, by decide, by decide, by decide, (fun _ => ⟨rfl, rfl⟩), tm 593 (by decide +kernel) rfl⟩
theorem dX3_init_0 : decode cX3_init 0 = .ok (.aload_n 0, 1) := by decide +kernel
theorem dX3_init_1 : decode cX3_init 1 = .ok (.invokespecial 3, 3) := by decide +kernel
theorem dX3_init_4 : decode cX3_init 4 = .ok (.aload_n 0, 1) := by decide +kernel
theorem dX3_init_5 : decode cX3_init 5 = .ok (.bipush 8, 2) := by decide +kernel
theorem dX3_init_7 : decode cX3_init 7 = .ok (.newarray .int, 2) := by decide +kernel
theorem dX3_init_9 : decode cX3_init 9 = .ok (.putfield 9, 3) := by decide +kernel
theorem dX3_init_12 : decode cX3_init 12 = .ok (.aload_n 0, 1) := by decide +kernel
theorem dX3_init_13 : decode cX3_init 13 = .ok (.sipush 256, 3) := by decide +kernel
theorem dX3_init_16 : decode cX3_init 16 = .ok (.newarray .int, 2) := by decide +kernel
theorem dX3_init_18 : decode cX3_init 18 = .ok (.putfield 15, 3) := by decide +kernel
theorem dX3_init_21 : decode cX3_init 21 = .ok (.return_, 1) := by decide +kernel
theorem mi_X3_init : Cond.code yX3_init cX3_init 1 none ∈ tbf ∧ Cond.initialized (yX3_init).cls ∈ tbf ∧ ((yX3_init).cls ≠ "java/lang/invoke/MethodHandle" ∧ (yX3_init).cls ≠ "java/lang/invoke/VarHandle" ∧ (parseMethodDescriptor (yX3_init).desc).map (fun d => d.parameters.length) = some 0) ∧ 1 ≤ 45 ∧ (yX3_init).name = "<init>" ∧ Cond.instanceMethod yX3_init ∈ tbf := ⟨tm 590 (by decide +kernel) rfl, tm 247 (by decide +kernel) rfl, by decide, by decide, rfl, tm 589 (by decide +kernel) rfl⟩
theorem ci_X3_init : CI l D dA a1 a2 3 yX3_init cX3_init 1 1 2 264 KPl PPl zPl := by
  refine ci_mk (by decide) rfl (Nat.le_of_ble_eq_true rfl) ?_
  intro base
  change GN l D dA a1 a2 RX3 cX3_init 1 1 base 0 [some (.inr (.inr 0))] [] 1 (fun _ => .inr (3, dflt 3)) 0 0 (QN D base 3 (cev dA base KPl PPl zPl)) 2 264
  refine m_aload_n dX3_init_0 rfl rfl ?_
  refine m_obj oi_RX3_3 (Nat.le_of_ble_eq_true rfl) (Nat.le_of_ble_eq_true rfl) dX3_init_1 ?_
  refine m_aload_n dX3_init_4 rfl rfl ?_
  refine m_bipush dX3_init_5 (by decide) ?_
  refine m_new0 (N := 8) rfl (Nat.le_of_ble_eq_true rfl) (Nat.le_of_ble_eq_true rfl) (Nat.le_of_ble_eq_true rfl) dX3_init_7 ?_
  refine m_putr fc_RX3_9 (Nat.le_of_ble_eq_true rfl) rfl (Nat.le_of_ble_eq_true rfl) dX3_init_9 ?_
  refine m_aload_n dX3_init_12 rfl rfl ?_
  refine m_sipush dX3_init_13 (by decide) ?_
  refine m_new0 (N := 256) rfl (Nat.le_of_ble_eq_true rfl) (Nat.le_of_ble_eq_true rfl) (Nat.le_of_ble_eq_true rfl) dX3_init_16 ?_
  refine m_putr fc_RX3_15 (Nat.le_of_ble_eq_true rfl) rfl (Nat.le_of_ble_eq_true rfl) dX3_init_18 ?_
  refine m_vret rfl ?_ (Nat.le_of_ble_eq_true rfl) (Nat.le_of_ble_eq_true rfl) dX3_init_21
  intro q hq
  rcases (show q = 0 ∨ q = 1 ∨ q = 2 by omega) with rfl | rfl | rfl
  · exact ve.of rfl
  · exact ve.of rfl
  · exact ve.of rfl
def KDu : Ly := [.inl 0, .inr (0, 8), .inr (0, 8), .inr (0, 64), .inr (0, 64)]
def PDu : Nat → Nat → Nat := fun _ k => match k with | 0 => 1 | 1 => 2 | 2 => 3 | 3 => 4 | _ => 0
def zDu : Sg := fun _ _ => 0
theorem oi_RX0_5 : OI RX0 5 := ⟨tm 604 (by decide +kernel) rfl, tm 261 (by decide +kernel) rfl, tm 262 (by decide +kernel) rfl⟩
theorem fc_RX0_11 : FC RX0 11 0 0 := ⟨_, _, _, _, cw_0, by decide, by decide, by decide, (fun _ => ⟨rfl, rfl⟩), tm 605 (by decide +kernel) rfl⟩
theorem fc_RX0_15 : FC RX0 15 0 1 := ⟨_, _, _, _, cw_0, by decide, by decide, by decide, (fun _ => ⟨rfl, rfl⟩), tm 606 (by decide +kernel) rfl⟩
theorem fc_RX0_18 : FC RX0 18 0 2 := ⟨_, _, _, _, cw_0, by decide, by decide, by decide, (fun _ => ⟨rfl, rfl⟩), tm 607 (by decide +kernel) rfl⟩
theorem fc_RX0_21 : FC RX0 21 0 3 := ⟨_, _, _, _, cw_0, by decide, by decide, by decide, (fun _ => ⟨rfl, rfl⟩), tm 608 (by decide +kernel) rfl⟩
theorem dX0_init_0 : decode cX0_init 0 = .ok (.aload_n 0, 1) := by decide +kernel
theorem dX0_init_1 : decode cX0_init 1 = .ok (.invokespecial 5, 3) := by decide +kernel
theorem dX0_init_4 : decode cX0_init 4 = .ok (.aload_n 0, 1) := by decide +kernel
theorem dX0_init_5 : decode cX0_init 5 = .ok (.bipush 8, 2) := by decide +kernel
theorem dX0_init_7 : decode cX0_init 7 = .ok (.newarray .int, 2) := by decide +kernel
theorem dX0_init_9 : decode cX0_init 9 = .ok (.putfield 11, 3) := by decide +kernel
theorem dX0_init_12 : decode cX0_init 12 = .ok (.aload_n 0, 1) := by decide +kernel
theorem dX0_init_13 : decode cX0_init 13 = .ok (.bipush 8, 2) := by decide +kernel
theorem dX0_init_15 : decode cX0_init 15 = .ok (.newarray .int, 2) := by decide +kernel
theorem dX0_init_17 : decode cX0_init 17 = .ok (.putfield 15, 3) := by decide +kernel
theorem dX0_init_20 : decode cX0_init 20 = .ok (.aload_n 0, 1) := by decide +kernel
theorem dX0_init_21 : decode cX0_init 21 = .ok (.bipush 64, 2) := by decide +kernel
theorem dX0_init_23 : decode cX0_init 23 = .ok (.newarray .int, 2) := by decide +kernel
theorem dX0_init_25 : decode cX0_init 25 = .ok (.putfield 18, 3) := by decide +kernel
theorem dX0_init_28 : decode cX0_init 28 = .ok (.aload_n 0, 1) := by decide +kernel
theorem dX0_init_29 : decode cX0_init 29 = .ok (.bipush 64, 2) := by decide +kernel
theorem dX0_init_31 : decode cX0_init 31 = .ok (.newarray .int, 2) := by decide +kernel
theorem dX0_init_33 : decode cX0_init 33 = .ok (.putfield 21, 3) := by decide +kernel
theorem dX0_init_36 : decode cX0_init 36 = .ok (.return_, 1) := by decide +kernel
theorem mi_X0_init : Cond.code yX0_init cX0_init 1 none ∈ tbf ∧ Cond.initialized (yX0_init).cls ∈ tbf ∧ ((yX0_init).cls ≠ "java/lang/invoke/MethodHandle" ∧ (yX0_init).cls ≠ "java/lang/invoke/VarHandle" ∧ (parseMethodDescriptor (yX0_init).desc).map (fun d => d.parameters.length) = some 0) ∧ 1 ≤ 45 ∧ (yX0_init).name = "<init>" ∧ Cond.instanceMethod yX0_init ∈ tbf := ⟨tm 603 (by decide +kernel) rfl, tm 248 (by decide +kernel) rfl, by decide, by decide, rfl, tm 602 (by decide +kernel) rfl⟩
theorem ci_X0_init : CI l D dA a1 a2 0 yX0_init cX0_init 1 1 4 144 KDu PDu zDu := by
  refine ci_mk (by decide) rfl (Nat.le_of_ble_eq_true rfl) ?_
  intro base
  change GN l D dA a1 a2 RX0 cX0_init 1 1 base 0 [some (.inr (.inr 0))] [] 1 (fun _ => .inr (0, dflt 0)) 0 0 (QN D base 5 (cev dA base KDu PDu zDu)) 4 144
  refine m_aload_n dX0_init_0 rfl rfl ?_
  refine m_obj oi_RX0_5 (Nat.le_of_ble_eq_true rfl) (Nat.le_of_ble_eq_true rfl) dX0_init_1 ?_
  refine m_aload_n dX0_init_4 rfl rfl ?_
  refine m_bipush dX0_init_5 (by decide) ?_
  refine m_new0 (N := 8) rfl (Nat.le_of_ble_eq_true rfl) (Nat.le_of_ble_eq_true rfl) (Nat.le_of_ble_eq_true rfl) dX0_init_7 ?_
  refine m_putr fc_RX0_11 (Nat.le_of_ble_eq_true rfl) rfl (Nat.le_of_ble_eq_true rfl) dX0_init_9 ?_
  refine m_aload_n dX0_init_12 rfl rfl ?_
  refine m_bipush dX0_init_13 (by decide) ?_
  refine m_new0 (N := 8) rfl (Nat.le_of_ble_eq_true rfl) (Nat.le_of_ble_eq_true rfl) (Nat.le_of_ble_eq_true rfl) dX0_init_15 ?_
  refine m_putr fc_RX0_15 (Nat.le_of_ble_eq_true rfl) rfl (Nat.le_of_ble_eq_true rfl) dX0_init_17 ?_
  refine m_aload_n dX0_init_20 rfl rfl ?_
  refine m_bipush dX0_init_21 (by decide) ?_
  refine m_new0 (N := 64) rfl (Nat.le_of_ble_eq_true rfl) (Nat.le_of_ble_eq_true rfl) (Nat.le_of_ble_eq_true rfl) dX0_init_23 ?_
  refine m_putr fc_RX0_18 (Nat.le_of_ble_eq_true rfl) rfl (Nat.le_of_ble_eq_true rfl) dX0_init_25 ?_
  refine m_aload_n dX0_init_28 rfl rfl ?_
  refine m_bipush dX0_init_29 (by decide) ?_
  refine m_new0 (N := 64) rfl (Nat.le_of_ble_eq_true rfl) (Nat.le_of_ble_eq_true rfl) (Nat.le_of_ble_eq_true rfl) dX0_init_31 ?_
  refine m_putr fc_RX0_21 (Nat.le_of_ble_eq_true rfl) rfl (Nat.le_of_ble_eq_true rfl) dX0_init_33 ?_
  refine m_vret rfl ?_ (Nat.le_of_ble_eq_true rfl) (Nat.le_of_ble_eq_true rfl) dX0_init_36
  intro q hq
  rcases (show q = 0 ∨ q = 1 ∨ q = 2 ∨ q = 3 ∨ q = 4 by omega) with rfl | rfl | rfl | rfl | rfl
  · exact ve.of rfl
  · exact ve.of rfl
  · exact ve.of rfl
  · exact ve.of rfl
  · exact ve.of rfl
end CT
