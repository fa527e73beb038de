/-! the String constant's signs -/
section GY
variable {l : Launch} {K : Ly} {P : Nat → Nat → Nat} {own : String} {cc : ByteArray} {nL rt d pc : Nat} {lv : List (Option Pv)} {st : List Pv} {σ : Sg} {R A B : Rs}
theorem ok_pchk {adr : Nat → Nat} {D : va_G} {dA : Nat → ClassId} {i n : Int} {v : Value} (hi : 0 ≤ i ∧ i < n) (hv : v.category = 1) : Met l yJ3_checkIndex_8e157 [.code yJ3_checkIndex_8e157 cJ3_checkIndex_8e157 3 (rty 0)] (rmd 1) (va_Pc [.int (Int32.ofInt i), .int (Int32.ofInt n), v] (BB K P adr D dA [.inl i, .inl n] σ)) (QQ K P adr D dA 0 i σ) 0 0 (Ad K adr) := by
  refine Met.ofW (cc := cJ3_checkIndex_8e157) (maxL := 3) (ret := rty 0) (by decide) rfl ?_
  intro p e s m args below meth c s₁ B hml hx0
  obtain ⟨rfl, hP, hD, hK, hT, hS, hc, ha⟩ := hx0
  have hx := B.exec
  have hb := B.bytes
  have ci : c32 i := ha (.inl i) List.mem_cons_self
  have cn : c32 n := ha (.inl n) (List.mem_cons_of_mem _ List.mem_cons_self)
  rw [lg_entry_eq]
  have hlen : (lg_sl [.int (Int32.ofInt i), .int (Int32.ofInt n), v]).length ≤ 3 := by
    have h2 : ¬ v.category = 2 := by omega
    show (([Slot.val (Value.int (Int32.ofInt i))] : List Slot) ++ ([Slot.val (Value.int (Int32.ofInt n))] ++ ((if v.category = 2 then [Slot.val v, .second] else [Slot.val v]) ++ []))).length ≤ 3
    rw [if_neg h2]; exact Nat.le_refl _
  have hl := lv_entry [.int (Int32.ofInt i), .int (Int32.ofInt n), v] (n := 3) hlen
  generalize (lg_sl [Value.int (Int32.ofInt i), .int (Int32.ofInt n), v] ++ List.replicate (3 - (lg_sl [Value.int (Int32.ofInt i), .int (Int32.ofInt n), v]).length) Slot.unset).toArray = ls at hl ⊢
  have h0 : ls[0]? = some (.val (.int (Int32.ofInt i))) := hl.2.2 (0, _) List.mem_cons_self
  have h1 : ls[1]? = some (.val (.int (Int32.ofInt n))) := hl.2.2 (1, _) (List.mem_cons_of_mem _ List.mem_cons_self)
  refine lv_iload_n hx hb dJ3_checkIndex_8e157_0 rfl h0 ?_
  refine lv_if_lt (tgt := 9) hx hb dJ3_checkIndex_8e157_1 (by decide) (fun q => absurd ((i32_lt ci c32_0).mp q) (by omega)) (fun _ => ?_)
  refine lv_iload_n hx hb dJ3_checkIndex_8e157_4 rfl h0 ?_
  refine lv_iload_n hx hb dJ3_checkIndex_8e157_5 rfl h1 ?_
  refine lv_icmp_lt (tgt := 16) hx hb dJ3_checkIndex_8e157_6 (by decide) (fun _ => ?_) (fun q => absurd ((i32_lt ci cn).mpr hi.2) q)
  refine lv_iload_n hx hb dJ3_checkIndex_8e157_16 rfl h0 ?_
  exact W.iret hx hb B.returns (fun t ht hW => ⟨⟨rfl, ci, hc, by rw [ht]; exact hP⟩, va_S.rf.F ht⟩) (fun q h => by cases h) dJ3_checkIndex_8e157_17 B.notSynchronized
theorem ok_sck {i n : Int} : MC l K P yJ0_checkIndex_df160 cJ0_checkIndex_df160 2 2 2 [.inl i, .inl n] σ (if 0 ≤ i ∧ i < n then some (0, σ) else none) := by
  refine mc_of (by decide) (Nat.le_of_ble_eq_true rfl) ?_
  intro p e s m args below meth c adr D dA r σ' ok H locs ls hin hl hst hR
  obtain ⟨hx, hb, hml, hown, hT, hK, hr, hlk, hs⟩ := id ok
  by_cases hi : 0 ≤ i ∧ i < n
  rotate_left
  · rw [if_neg hi] at hR; cases hR
  rw [if_pos hi] at hR
  cases hR
  have hl' : LR adr 2 [some (.inl i), some (.inl n)] ls := hl
  have ci : c32 i := hl'.cn (i := 0) (v := .inl i) rfl
  have cn : c32 n := hl'.cn (i := 1) (v := .inl n) rfl
  have a0 : ls[0]? = some (.val (.int (Int32.ofInt i))) := hl'.at_ (i := 0) (v := .inl i) rfl
  have a1 : ls[1]? = some (.val (.int (Int32.ofInt n))) := hl'.at_ (i := 1) (v := .inl n) rfl
  have key : ∀ v : Value, v.category = 1 → va_Z "jdk/internal/util/Preconditions" "SIOOBE_FORMATTER" "Ljava/util/function/BiFunction;" v (Ad K adr) s s.heap → W p l e (rmd 2) s m args below meth c H locs 0 0 (MQ below (QQ K P adr D dA 2 0 σ) args s 0 0 (Ad K adr)) (F0 m 0 ls ([] : List Value)) := by
    intro v hv hz
    refine lv_iload_n hx hb dJ0_checkIndex_df160_0 rfl a0 ?_
    refine lv_iload_n hx hb dJ0_checkIndex_df160_1 rfl a1 ?_
    refine va_gets hx hb hz hin.2.2.1 hown (hT.hts (.fieldLink RJ0 1053 "jdk/internal/util/Preconditions" "SIOOBE_FORMATTER" "Ljava/util/function/BiFunction;") (tm 312 (by decide +kernel) rfl)) (fun _ q => q) dJ0_checkIndex_df160_2 ?_
    obtain ⟨m1, m2, m3, m4, m5⟩ := mw_J3_checkIndex_8e157
    rw [if_pos rfl] at m5
    have hpre : PreS s H (va_Pc [.int (Int32.ofInt i), .int (Int32.ofInt n), v] (BB K P adr D dA [.inl i, .inl n] σ)) [.int (Int32.ofInt i), .int (Int32.ofInt n), v] := by
      refine ⟨?_, fun U hU hW => ⟨rfl, by rw [hU]; exact hin.1, hin.2.1, va_K.moved hW.alike hK, hT.warm hW, hs.moved hW (fun a h1 h2 => by rw [hU]; exact hin.2.2.1.2.1 a h1 h2), hin.2.2.2, cn_c ci (cn_c cn (fun _ h => by cases h))⟩⟩
      intro a U g mk h
      obtain ⟨h0, h1, h2, h3, h4, h5, h6, h7⟩ := h
      have hvm : (U.calling g mk a).vm = U.vm := rfl
      have hW : U.WarmedH (U.calling g mk a).vm := by rw [hvm]; exact State.WarmedH.refl U
      exact ⟨h0, h1, h2, va_K.moved hW.alike h3, h4.warm hW, h5.moved hW (fun _ _ _ => rfl), h6, h7⟩
    have hlink : Cond.methodLink RJ0 1059 yJ3_checkIndex_8e157 ∈ tbf := tm 314 (by decide +kernel) rfl
    have hgo : va_Run p l e (rmd 2) s m args below meth c H locs 0 0 0 0 (F0 m 5 ls [v, .int (Int32.ofInt n), .int (Int32.ofInt i)]) [] (QQ K P adr D dA 0 i σ [.int (Int32.ofInt i), .int (Int32.ofInt n), v].toArray) (Ad K adr) :=
      va_runS (Ts := tbf) (As := [.int (Int32.ofInt i), .int (Int32.ofInt n), v]) (rest := []) (n := 3) ⟨hx, hb, hml, hown, hT.hts⟩ (ok_pchk hi hv) ⟨⟨rfl, rfl, Nat.le_of_ble_eq_true rfl, Nat.le_of_ble_eq_true rfl, (fun w hw a' U hW => by
        rw [List.mem_singleton.mp hw]
        exact (hT.warm hW).hts _ m1), List.mem_singleton.mpr rfl, hT.hts _ m1, hT.hts _ m2, ⟨m3.1, m3.2.1⟩, (fun sig h => by
          have h2 := m3.2.2
          rw [h] at h2
          exact (Option.some.inj h2).symm), hT.hts _ hlink⟩, hT.hts _ m5⟩ hpre rfl rfl hl.1.1 rfl (lv_room (Nat.le_of_ble_eq_true rfl)) dJ0_checkIndex_df160_5 ⟨Nat.le_refl _, Nat.le_refl _⟩
    refine w_call (pc := 5) hgo hin.2.2.1 (fun H1 locs1 q1 q2 q3 q4 => ?_)
    refine lv_pop hx hb dJ0_checkIndex_df160_8 rfl ?_
    exact W.vret hx hb hr (fun t ht hW => ⟨⟨rfl, trivial, q2, by rw [ht]; exact q3⟩, q4.F ht⟩) q4.2.2 dJ0_checkIndex_df160_9 hlk
  rcases hs.2.2.2 with h | ⟨t, h⟩
  · exact key _ rfl h
  · exact key _ rfl h
theorem ok_lch {i : Int} : MC l K P yJ1_charAt_3b067 cJ1_charAt_3b067 2 4 3 [.inr (.inr 9998), .inl i] σ (if 0 ≤ i ∧ i < 131 then some (ks_c i.toNat, σ) else none) := by
  refine mc_of (by decide) (Nat.le_of_ble_eq_true rfl) ?_
  have h : G l K P RJ1 cJ1_charAt_3b067 2 4 3 0 [some (.inr (.inr 9998)), some (.inl i)] [] σ (bd (if 0 ≤ i ∧ i < 131 then some (0, σ) else none) (fun _ s => rd 131 i (ks_c i.toNat) (fun z => if 0 ≤ ch32 (an32 z 255) ∧ ch32 (an32 z 255) < 65536 then some (ch32 (an32 z 255), s) else none))) := by
    refine g_iload_n dJ1_charAt_3b067_0 rfl rfl ?_
    refine g_aload_n dJ1_charAt_3b067_1 rfl rfl ?_
    refine g_alenK dJ1_charAt_3b067_2 ?_
    refine g_calls2 (st := []) mw_J0_checkIndex_df160 lk_RJ1_9 ok_sck (Nat.le_of_ble_eq_true rfl) rfl rfl (Nat.le_of_ble_eq_true rfl) dJ1_charAt_3b067_3 ?_
    intro r s1
    refine g_aload_n dJ1_charAt_3b067_6 rfl rfl ?_
    refine g_iload_n dJ1_charAt_3b067_7 rfl rfl ?_
    refine g_baldK dJ1_charAt_3b067_8 ?_
    intro z
    refine g_sipush dJ1_charAt_3b067_9 (by decide) ?_
    refine g_iand dJ1_charAt_3b067_12 ?_
    refine g_i2c dJ1_charAt_3b067_13 ?_
    generalize ch32 (an32 z 255) = q
    by_cases hq : 0 ≤ q ∧ q < 65536
    · rw [if_pos hq]
      refine g_nret (Or.inl ⟨rfl, rfl⟩) ?_ dJ1_charAt_3b067_14
      have e : Int32.ofInt q = nI q.toNat := by
        have : q = (q.toNat : Int) := by omega
        rw [this]; exact Int32.ofInt_eq_ofNat ..
      rw [e]
      exact (pk_charN (by omega)).1
    · rw [if_neg hq]; exact G.none_
  have e : (bd (if 0 ≤ i ∧ i < 131 then some ((0 : Int), σ) else none) (fun _ s => rd 131 i (ks_c i.toNat) (fun z => if 0 ≤ ch32 (an32 z 255) ∧ ch32 (an32 z 255) < 65536 then some (ch32 (an32 z 255), s) else none))) = (if 0 ≤ i ∧ i < 131 then some (ks_c i.toNat, σ) else none) := by
    by_cases hi : 0 ≤ i ∧ i < 131
    · rw [if_pos hi, if_pos hi]
      simp only [bd, rd]
      rw [if_pos (by omega), ks_cc]
      have h2 : ∀ j, j < 131 → 0 ≤ ks_c j ∧ ks_c j < 65536 := by decide +kernel
      rw [if_pos (h2 _ (by omega))]
    · rw [if_neg hi, if_neg hi]; rfl
  rw [e] at h
  exact h
theorem ok_sch {i : Int} : MC l K P yJ0_charAt_5068e cJ0_charAt_5068e 2 4 4 [.inr (.inr 9999), .inl i] σ (if 0 ≤ i ∧ i < 131 then some (ks_c i.toNat, σ) else none) := by
  refine mc_of (by decide) (Nat.le_of_ble_eq_true rfl) ?_
  have h : G l K P RJ0 cJ0_charAt_5068e 2 4 4 0 [some (.inr (.inr 9999)), some (.inl i)] [] σ (bd (some (1, σ)) (fun r s => if r = 0 then none else bd (if 0 ≤ i ∧ i < 131 then some (ks_c i.toNat, s) else none) (fun q s => if 0 ≤ q ∧ q < 65536 then some (q, s) else none))) := by
    refine g_aload_n dJ0_charAt_5068e_0 rfl rfl ?_
    refine g_callK (rt' := 3) (st := []) mw_J0_isLatin1_aae02 lk_RJ0_492 rfl ok_isLatin1 (Nat.le_of_ble_eq_true rfl) rfl rfl (Nat.le_of_ble_eq_true rfl) dJ0_charAt_5068e_1 ?_
    intro r s1
    refine g_ifeq (tgt := 16) dJ0_charAt_5068e_4 (by decide) G.none_ ?_
    refine g_aload_n dJ0_charAt_5068e_7 rfl rfl ?_
    refine g_getV dJ0_charAt_5068e_8 ?_
    refine g_iload_n dJ0_charAt_5068e_11 rfl rfl ?_
    refine g_calls (rt' := 4) (st := []) mw_J1_charAt_3b067 lk_RJ0_495 ok_lch (Nat.le_of_ble_eq_true rfl) rfl rfl (Nat.le_of_ble_eq_true rfl) dJ0_charAt_5068e_12 ?_
    intro q s2
    by_cases hq : 0 ≤ q ∧ q < 65536
    · rw [if_pos hq]
      refine g_nret (Or.inl ⟨rfl, rfl⟩) ?_ dJ0_charAt_5068e_15
      have e : Int32.ofInt q = nI q.toNat := by
        have : q = (q.toNat : Int) := by omega
        rw [this]; exact Int32.ofInt_eq_ofNat ..
      rw [e]
      exact (pk_charN (by omega)).1
    · rw [if_neg hq]; exact G.none_
  have e : (bd (some ((1 : Int), σ)) (fun r s => if r = 0 then none else bd (if 0 ≤ i ∧ i < 131 then some (ks_c i.toNat, s) else none) (fun q s => if 0 ≤ q ∧ q < 65536 then some (q, s) else none))) = (if 0 ≤ i ∧ i < 131 then some (ks_c i.toNat, σ) else none) := by
    have b1 : ∀ B : Int → Sg → Rs, bd (some (1, σ)) B = B 1 σ := fun _ => rfl
    rw [b1, if_neg (by decide)]
    by_cases hi : 0 ≤ i ∧ i < 131
    · rw [if_pos hi]
      have h2 : ∀ j, j < 131 → 0 ≤ ks_c j ∧ ks_c j < 65536 := by decide +kernel
      simp only [bd]
      rw [if_pos (h2 _ (by omega))]
    · rw [if_neg hi]; rfl
  rw [e] at h
  exact h
theorem g_schar {i : Int} {F : Int → Rs} (hd : decode cc pc = .ok (.invokevirtual 34, 3)) (hd2 : 4 < d) (hsw : stw st ≤ 8) (kk : ∀ z, G l K P RX7 cc nL rt d (pc + 3) lv (.inl z :: st) σ (F z)) : G l K P RX7 cc nL rt d pc lv (.inl i :: .inr (.inr 9999) :: st) σ (rd 131 i (ks_c (Int.toNat i)) F) := by
  by_cases hi : 0 ≤ i ∧ i < ((131 : Nat) : Int)
  · unfold rd
    rw [if_pos hi]
    have h := ok_sch (l := l) (K := K) (P := P) (σ := σ) (i := i)
    rw [if_pos (by omega)] at h
    exact g_callK1 (rt' := 4) (st := st) mw_J0_charAt_5068e lk_RX7_34 rfl h hd2 rfl rfl hsw hd (kk _)
  · unfold rd
    rw [if_neg hi]
    exact G.none_
end GY
