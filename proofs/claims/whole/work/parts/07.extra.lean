/-! further rows; the String constant -/
theorem dJ0_length_8abf5_0 : decode cJ0_length_8abf5 0 = .ok (.aload_n 0, 1) := by decide +kernel
theorem dJ0_length_8abf5_1 : decode cJ0_length_8abf5 1 = .ok (.getfield 9, 3) := by decide +kernel
theorem dJ0_length_8abf5_4 : decode cJ0_length_8abf5 4 = .ok (.arraylength, 1) := by decide +kernel
theorem dJ0_length_8abf5_5 : decode cJ0_length_8abf5 5 = .ok (.aload_n 0, 1) := by decide +kernel
theorem dJ0_length_8abf5_6 : decode cJ0_length_8abf5 6 = .ok (.invokevirtual 335, 3) := by decide +kernel
theorem dJ0_length_8abf5_9 : decode cJ0_length_8abf5 9 = .ok (.ishr, 1) := by decide +kernel
theorem dJ0_length_8abf5_10 : decode cJ0_length_8abf5 10 = .ok (.ireturn, 1) := by decide +kernel
theorem mw_J0_length_8abf5 : MW yJ0_length_8abf5 cJ0_length_8abf5 1 0 0 false := ⟨tm 291 (by decide +kernel) rfl, tm 238 (by decide +kernel) rfl, by decide, by decide, (by rw [if_neg (by decide)]; exact ⟨tm 289 (by decide +kernel) rfl, tm 290 (by decide +kernel) rfl⟩)⟩
theorem dJ0_charAt_5068e_0 : decode cJ0_charAt_5068e 0 = .ok (.aload_n 0, 1) := by decide +kernel
theorem dJ0_charAt_5068e_1 : decode cJ0_charAt_5068e 1 = .ok (.invokevirtual 492, 3) := by decide +kernel
theorem dJ0_charAt_5068e_4 : decode cJ0_charAt_5068e 4 = .ok (.ifCond .eq 12, 3) := by decide +kernel
theorem dJ0_charAt_5068e_7 : decode cJ0_charAt_5068e 7 = .ok (.aload_n 0, 1) := by decide +kernel
theorem dJ0_charAt_5068e_8 : decode cJ0_charAt_5068e 8 = .ok (.getfield 9, 3) := by decide +kernel
theorem dJ0_charAt_5068e_11 : decode cJ0_charAt_5068e 11 = .ok (.iload_n 1, 1) := by decide +kernel
theorem dJ0_charAt_5068e_12 : decode cJ0_charAt_5068e 12 = .ok (.invokestatic 495, 3) := by decide +kernel
theorem dJ0_charAt_5068e_15 : decode cJ0_charAt_5068e 15 = .ok (.ireturn, 1) := by decide +kernel
theorem dJ0_charAt_5068e_16 : decode cJ0_charAt_5068e 16 = .ok (.aload_n 0, 1) := by decide +kernel
theorem dJ0_charAt_5068e_17 : decode cJ0_charAt_5068e 17 = .ok (.getfield 9, 3) := by decide +kernel
theorem dJ0_charAt_5068e_20 : decode cJ0_charAt_5068e 20 = .ok (.iload_n 1, 1) := by decide +kernel
theorem dJ0_charAt_5068e_21 : decode cJ0_charAt_5068e 21 = .ok (.invokestatic 498, 3) := by decide +kernel
theorem dJ0_charAt_5068e_24 : decode cJ0_charAt_5068e 24 = .ok (.ireturn, 1) := by decide +kernel
theorem mw_J0_charAt_5068e : MW yJ0_charAt_5068e cJ0_charAt_5068e 2 4 1 false := ⟨tm 301 (by decide +kernel) rfl, tm 238 (by decide +kernel) rfl, by decide, by decide, (by rw [if_neg (by decide)]; exact ⟨tm 299 (by decide +kernel) rfl, tm 300 (by decide +kernel) rfl⟩)⟩
theorem dJ0_coder_7d493_0 : decode cJ0_coder_7d493 0 = .ok (.getstatic 38, 3) := by decide +kernel
theorem dJ0_coder_7d493_3 : decode cJ0_coder_7d493 3 = .ok (.ifCond .eq 10, 3) := by decide +kernel
theorem dJ0_coder_7d493_6 : decode cJ0_coder_7d493 6 = .ok (.aload_n 0, 1) := by decide +kernel
theorem dJ0_coder_7d493_7 : decode cJ0_coder_7d493 7 = .ok (.getfield 15, 3) := by decide +kernel
theorem dJ0_coder_7d493_10 : decode cJ0_coder_7d493 10 = .ok (.goto 4, 3) := by decide +kernel
theorem dJ0_coder_7d493_13 : decode cJ0_coder_7d493 13 = .ok (.iconst 1, 1) := by decide +kernel
theorem dJ0_coder_7d493_14 : decode cJ0_coder_7d493 14 = .ok (.ireturn, 1) := by decide +kernel
theorem mw_J0_coder_7d493 : MW yJ0_coder_7d493 cJ0_coder_7d493 1 5 0 false := ⟨tm 295 (by decide +kernel) rfl, tm 238 (by decide +kernel) rfl, by decide, by decide, (by rw [if_neg (by decide)]; exact ⟨tm 293 (by decide +kernel) rfl, tm 294 (by decide +kernel) rfl⟩)⟩
theorem dJ0_isLatin1_aae02_0 : decode cJ0_isLatin1_aae02 0 = .ok (.getstatic 38, 3) := by decide +kernel
theorem dJ0_isLatin1_aae02_3 : decode cJ0_isLatin1_aae02 3 = .ok (.ifCond .eq 14, 3) := by decide +kernel
theorem dJ0_isLatin1_aae02_6 : decode cJ0_isLatin1_aae02 6 = .ok (.aload_n 0, 1) := by decide +kernel
theorem dJ0_isLatin1_aae02_7 : decode cJ0_isLatin1_aae02 7 = .ok (.getfield 15, 3) := by decide +kernel
theorem dJ0_isLatin1_aae02_10 : decode cJ0_isLatin1_aae02 10 = .ok (.ifCond .ne 7, 3) := by decide +kernel
theorem dJ0_isLatin1_aae02_13 : decode cJ0_isLatin1_aae02 13 = .ok (.iconst 1, 1) := by decide +kernel
theorem dJ0_isLatin1_aae02_14 : decode cJ0_isLatin1_aae02 14 = .ok (.goto 4, 3) := by decide +kernel
theorem dJ0_isLatin1_aae02_17 : decode cJ0_isLatin1_aae02 17 = .ok (.iconst 0, 1) := by decide +kernel
theorem dJ0_isLatin1_aae02_18 : decode cJ0_isLatin1_aae02 18 = .ok (.ireturn, 1) := by decide +kernel
theorem mw_J0_isLatin1_aae02 : MW yJ0_isLatin1_aae02 cJ0_isLatin1_aae02 1 3 0 false := ⟨tm 305 (by decide +kernel) rfl, tm 238 (by decide +kernel) rfl, by decide, by decide, (by rw [if_neg (by decide)]; exact ⟨tm 303 (by decide +kernel) rfl, tm 304 (by decide +kernel) rfl⟩)⟩
theorem dJ0_checkIndex_df160_0 : decode cJ0_checkIndex_df160 0 = .ok (.iload_n 0, 1) := by decide +kernel
theorem dJ0_checkIndex_df160_1 : decode cJ0_checkIndex_df160 1 = .ok (.iload_n 1, 1) := by decide +kernel
theorem dJ0_checkIndex_df160_2 : decode cJ0_checkIndex_df160 2 = .ok (.getstatic 1053, 3) := by decide +kernel
theorem dJ0_checkIndex_df160_5 : decode cJ0_checkIndex_df160 5 = .ok (.invokestatic 1059, 3) := by decide +kernel
theorem dJ0_checkIndex_df160_8 : decode cJ0_checkIndex_df160 8 = .ok (.pop, 1) := by decide +kernel
theorem dJ0_checkIndex_df160_9 : decode cJ0_checkIndex_df160 9 = .ok (.return_, 1) := by decide +kernel
theorem mw_J0_checkIndex_df160 : MW yJ0_checkIndex_df160 cJ0_checkIndex_df160 2 2 2 true := ⟨tm 311 (by decide +kernel) rfl, tm 238 (by decide +kernel) rfl, by decide, by decide, (by rw [if_pos rfl]; exact tm 310 (by decide +kernel) rfl)⟩
theorem dJ1_charAt_3b067_0 : decode cJ1_charAt_3b067 0 = .ok (.iload_n 1, 1) := by decide +kernel
theorem dJ1_charAt_3b067_1 : decode cJ1_charAt_3b067 1 = .ok (.aload_n 0, 1) := by decide +kernel
theorem dJ1_charAt_3b067_2 : decode cJ1_charAt_3b067 2 = .ok (.arraylength, 1) := by decide +kernel
theorem dJ1_charAt_3b067_3 : decode cJ1_charAt_3b067 3 = .ok (.invokestatic 9, 3) := by decide +kernel
theorem dJ1_charAt_3b067_6 : decode cJ1_charAt_3b067 6 = .ok (.aload_n 0, 1) := by decide +kernel
theorem dJ1_charAt_3b067_7 : decode cJ1_charAt_3b067 7 = .ok (.iload_n 1, 1) := by decide +kernel
theorem dJ1_charAt_3b067_8 : decode cJ1_charAt_3b067 8 = .ok (.baload, 1) := by decide +kernel
theorem dJ1_charAt_3b067_9 : decode cJ1_charAt_3b067 9 = .ok (.sipush 255, 3) := by decide +kernel
theorem dJ1_charAt_3b067_12 : decode cJ1_charAt_3b067 12 = .ok (.iand, 1) := by decide +kernel
theorem dJ1_charAt_3b067_13 : decode cJ1_charAt_3b067 13 = .ok (.i2c, 1) := by decide +kernel
theorem dJ1_charAt_3b067_14 : decode cJ1_charAt_3b067 14 = .ok (.ireturn, 1) := by decide +kernel
theorem mw_J1_charAt_3b067 : MW yJ1_charAt_3b067 cJ1_charAt_3b067 2 4 2 true := ⟨tm 308 (by decide +kernel) rfl, tm 239 (by decide +kernel) rfl, by decide, by decide, (by rw [if_pos rfl]; exact tm 307 (by decide +kernel) rfl)⟩
theorem dJ3_checkIndex_8e157_0 : decode cJ3_checkIndex_8e157 0 = .ok (.iload_n 0, 1) := by decide +kernel
theorem dJ3_checkIndex_8e157_1 : decode cJ3_checkIndex_8e157 1 = .ok (.ifCond .lt 8, 3) := by decide +kernel
theorem dJ3_checkIndex_8e157_4 : decode cJ3_checkIndex_8e157 4 = .ok (.iload_n 0, 1) := by decide +kernel
theorem dJ3_checkIndex_8e157_5 : decode cJ3_checkIndex_8e157 5 = .ok (.iload_n 1, 1) := by decide +kernel
theorem dJ3_checkIndex_8e157_6 : decode cJ3_checkIndex_8e157 6 = .ok (.if_icmp .lt 10, 3) := by decide +kernel
theorem dJ3_checkIndex_8e157_9 : decode cJ3_checkIndex_8e157 9 = .ok (.aload_n 2, 1) := by decide +kernel
theorem dJ3_checkIndex_8e157_10 : decode cJ3_checkIndex_8e157 10 = .ok (.iload_n 0, 1) := by decide +kernel
theorem dJ3_checkIndex_8e157_11 : decode cJ3_checkIndex_8e157 11 = .ok (.iload_n 1, 1) := by decide +kernel
theorem dJ3_checkIndex_8e157_12 : decode cJ3_checkIndex_8e157 12 = .ok (.invokestatic 95, 3) := by decide +kernel
theorem dJ3_checkIndex_8e157_15 : decode cJ3_checkIndex_8e157 15 = .ok (.athrow, 1) := by decide +kernel
theorem dJ3_checkIndex_8e157_16 : decode cJ3_checkIndex_8e157 16 = .ok (.iload_n 0, 1) := by decide +kernel
theorem dJ3_checkIndex_8e157_17 : decode cJ3_checkIndex_8e157 17 = .ok (.ireturn, 1) := by decide +kernel
theorem mw_J3_checkIndex_8e157 : MW yJ3_checkIndex_8e157 cJ3_checkIndex_8e157 3 0 3 true := ⟨tm 316 (by decide +kernel) rfl, tm 240 (by decide +kernel) rfl, by decide, by decide, (by rw [if_pos rfl]; exact tm 315 (by decide +kernel) rfl)⟩
theorem lk_RX7_28 : LK RX7 28 yJ0_length_8abf5 := Or.inl (tm 288 (by decide +kernel) rfl)
theorem lk_RJ0_335 : LK RJ0 335 yJ0_coder_7d493 := Or.inl (tm 292 (by decide +kernel) rfl)
theorem lk_RX7_34 : LK RX7 34 yJ0_charAt_5068e := Or.inl (tm 298 (by decide +kernel) rfl)
theorem lk_RJ0_492 : LK RJ0 492 yJ0_isLatin1_aae02 := Or.inl (tm 302 (by decide +kernel) rfl)
theorem lk_RJ0_495 : LK RJ0 495 yJ1_charAt_3b067 := Or.inl (tm 306 (by decide +kernel) rfl)
theorem lk_RJ1_9 : LK RJ1 9 yJ0_checkIndex_df160 := Or.inl (tm 309 (by decide +kernel) rfl)
theorem lk_RJ0_1059 : LK RJ0 1059 yJ3_checkIndex_8e157 := Or.inl (tm 314 (by decide +kernel) rfl)
def ks_c (j : Nat) : Int := (ks_b.getD j 0).toInt
theorem ks_cc : ∀ j, ch32 (an32 (ks_c j) 255) = ks_c j := by
  have h : ∀ j, j < 131 → ch32 (an32 (ks_c j) 255) = ks_c j := by decide +kernel
  intro j
  by_cases hj : j < 131
  · exact h j hj
  · have e : ks_c j = 0 := by
      unfold ks_c
      have hn : ks_b[j]? = none := List.getElem?_eq_none (by rw [ks_n]; omega)
      rw [List.getD, hn]
      rfl
    rw [e]; decide +kernel
def MX (own : String) (idx : Nat) (y : MethodName) (cc : ByteArray) (n : Nat) (ty : Option FieldType) : Prop := Cond.methodLink own idx y ∈ tbf ∧ Cond.static y ∈ tbf ∧ Cond.initialized "java/lang/Math" ∈ tbf ∧ Cond.code y cc n ty ∈ tbf
def ab64 (x : Int) : Int := if 0 < x then x else w64 (-x)
section GX
variable {l : Launch} {K : Ly} {P : Nat → Nat → Nat} {own : String} {cc : ByteArray} {nL rt d pc : Nat} {lv : List (Option Pv)} {st : List Pv} {σ : Sg} {R A B : Rs}
theorem mc_none {y : MethodName} {as : List Pv} : MC l K P y cc nL rt d as σ none := by
  intro adr D dA r σ' h
  cases h
theorem g_lneg {x : Int} (hd : decode cc pc = .ok (.lneg, 1)) (kk : G l K P own cc nL rt d (pc + 1) lv (.inr (.inl (w64 (-x))) :: st) σ R) : G l K P own cc nL rt d pc lv (.inr (.inl x) :: st) σ R := by
  intro p e s m args below meth c adr D dA r σ' ok H locs ls hin hl hst hR
  obtain ⟨hx, hb, hml, hown, hT, hK, hr, hlk, hs⟩ := id ok
  obtain ⟨h0, hst⟩ := List.forall_mem_cons.mp hst
  refine lv_lneg hx hb hd ?_
  rw [← Int64.ofInt_neg, ← i64_ow]
  exact kk p e s m args below meth c adr D dA r σ' ok H locs ls hin hl (cn_c (w64_c _) hst) hR
theorem g_lsw2 {x dflt k1 k2 o1 o2 : Int} {len t1 t2 td : Nat} {A1 A2 Z : Rs} (hd : decode cc pc = .ok (.lookupswitch dflt #[(k1, o1), (k2, o2)], len)) (ht : k1 < k2 ∧ (pc : Int) + o1 = t1 ∧ (pc : Int) + o2 = t2 ∧ (pc : Int) + dflt = td) (h1 : G l K P own cc nL rt d t1 lv st σ A1) (h2 : G l K P own cc nL rt d t2 lv st σ A2) (h3 : G l K P own cc nL rt d td lv st σ Z) : G l K P own cc nL rt d pc lv (.inl x :: st) σ (if x = k1 then A1 else if x = k2 then A2 else Z) := by
  intro p e s m args below meth c adr D dA r σ' ok H locs ls hin hl hst hR
  obtain ⟨hx, hb, hml, hown, hT, hK, hr, hlk, hs⟩ := id ok
  obtain ⟨h0, hst⟩ := List.forall_mem_cons.mp hst
  obtain ⟨e0, e1, e2, e3⟩ := ht
  have hp : (#[(k1, o1), (k2, o2)].toList.zip (#[(k1, o1), (k2, o2)].toList.drop 1)).all (fun (a, next) => a.1 < next.1) = true := by simp [e0]
  by_cases c1 : x = k1
  · rw [if_pos c1] at hR
    refine lv_lookup hx hb hd hp (off := o1) ?_ e1 (h1 p e s m args below meth c adr D dA r σ' ok H locs ls hin hl hst hR)
    rw [i32_of h0]; simp [Op.lookupswitch.offset, c1]
  · rw [if_neg c1] at hR
    by_cases c2 : x = k2
    · rw [if_pos c2] at hR
      refine lv_lookup hx hb hd hp (off := o2) ?_ e2 (h2 p e s m args below meth c adr D dA r σ' ok H locs ls hin hl hst hR)
      rw [i32_of h0]; subst c2; simp [Op.lookupswitch.offset, show ¬ k1 = x from fun q => c1 q.symm, c1]
    · rw [if_neg c2] at hR
      refine lv_lookup hx hb hd hp (off := dflt) ?_ e3 (h3 p e s m args below meth c adr D dA r σ' ok H locs ls hin hl hst hR)
      rw [i32_of h0]; simp [Op.lookupswitch.offset, show ¬ k1 = x from fun q => c1 q.symm, show ¬ k2 = x from fun q => c2 q.symm, c1, c2]
theorem g_nret {x : Int} {ty : FieldType} (h45 : rt = 4 ∧ ty = .char ∨ rt = 5 ∧ ty = .byte) (hn : narrow ty (.int (Int32.ofInt x)) = .int (Int32.ofInt x)) (hd : decode cc pc = .ok (.ireturn, 1)) : G l K P own cc nL rt d pc lv [.inl x] σ (some (x, σ)) := by
  intro p e s m args below meth c adr D dA r σ' ok H locs ls hin hl hst hR
  obtain ⟨hx, hb, hml, hown, hT, hK, hr, hlk, hs⟩ := id ok
  obtain ⟨h0, hst⟩ := List.forall_mem_cons.mp hst
  cases hR
  rcases h45 with ⟨rfl, rfl⟩ | ⟨rfl, rfl⟩
  · exact W.zret hx hb hr hn (fun t ht hW => ⟨⟨rfl, h0, hin.2.2.2, by rw [ht]; exact hin.1⟩, hin.2.2.1.F ht⟩) hin.2.2.1.2.2 hd hlk
  · exact W.zret hx hb hr hn (fun t ht hW => ⟨⟨rfl, h0, hin.2.2.2, by rw [ht]; exact hin.1⟩, hin.2.2.1.F ht⟩) hin.2.2.1.2.2 hd hlk
theorem g_ldcK (hd : decode cc pc = .ok (.ldc 26, 2)) (kk : G l K P RX7 cc nL rt d (pc + 2) lv (.inr (.inr 9999) :: st) σ R) : G l K P RX7 cc nL rt d pc lv st σ R := by
  intro p e s m args below meth c adr D dA r σ' ok H locs ls hin hl hst hR
  obtain ⟨hx, hb, hml, hown, hT, hK, hr, hlk, hs⟩ := id ok
  exact va_ldcS hx hb hown hs.1 hd (kk p e s m args below meth c adr D dA r σ' ok H locs ls hin hl (cn_c trivial hst) hR)
theorem g_getsC (hd : decode cc pc = .ok (.getstatic 38, 3)) (kk : G l K P RJ0 cc nL rt d (pc + 3) lv (.inl 1 :: st) σ R) : G l K P RJ0 cc nL rt d pc lv st σ R := by
  intro p e s m args below meth c adr D dA r σ' ok H locs ls hin hl hst hR
  obtain ⟨hx, hb, hml, hown, hT, hK, hr, hlk, hs⟩ := id ok
  exact va_gets hx hb hs.2.2.1 hin.2.2.1 hown (hT.hts (.fieldLink RJ0 38 "java/lang/String" "COMPACT_STRINGS" "Z") (tm 296 (by decide +kernel) rfl)) (fun _ q => q) hd (kk p e s m args below meth c adr D dA r σ' ok H locs ls hin hl (cn_c (show c32 1 by unfold c32; omega) hst) hR)
theorem g_getK (hd : decode cc pc = .ok (.getfield 15, 3)) (kk : G l K P RJ0 cc nL rt d (pc + 3) lv (.inl 0 :: st) σ R) : G l K P RJ0 cc nL rt d pc lv (.inr (.inr 9999) :: st) σ R := by
  intro p e s m args below meth c adr D dA r σ' ok H locs ls hin hl hst hR
  obtain ⟨hx, hb, hml, hown, hT, hK, hr, hlk, hs⟩ := id ok
  obtain ⟨h0, hst⟩ := List.forall_mem_cons.mp hst
  exact vk_getf hx hb (hs.2.1.1 0 (by decide)).2.1 hin.2.2.1 hown (hT.hts (.fieldLink RJ0 15 "java/lang/String" "coder" "B") (tm 2422 (by decide +kernel) rfl)) (fun _ q => q) hd (kk p e s m args below meth c adr D dA r σ' ok H locs ls hin hl (cn_c c32_0 hst) hR)
theorem g_getV (hd : decode cc pc = .ok (.getfield 9, 3)) (kk : G l K P RJ0 cc nL rt d (pc + 3) lv (.inr (.inr 9998) :: st) σ R) : G l K P RJ0 cc nL rt d pc lv (.inr (.inr 9999) :: st) σ R := by
  intro p e s m args below meth c adr D dA r σ' ok H locs ls hin hl hst hR
  obtain ⟨hx, hb, hml, hown, hT, hK, hr, hlk, hs⟩ := id ok
  obtain ⟨h0, hst⟩ := List.forall_mem_cons.mp hst
  exact vk_getf hx hb (hs.2.1.1 0 (by decide)).2.2.1 hin.2.2.1 hown (hT.hts (.fieldLink RJ0 9 "java/lang/String" "value" "[B") (tm 2421 (by decide +kernel) rfl)) (fun _ q => q) hd (kk p e s m args below meth c adr D dA r σ' ok H locs ls hin hl (cn_c trivial hst) hR)
theorem g_alenK (hd : decode cc pc = .ok (.arraylength, 1)) (kk : G l K P own cc nL rt d (pc + 1) lv (.inl 131 :: st) σ R) : G l K P own cc nL rt d pc lv (.inr (.inr 9998) :: st) σ R := by
  intro p e s m args below meth c adr D dA r σ' ok H locs ls hin hl hst hR
  obtain ⟨hx, hb, hml, hown, hT, hK, hr, hlk, hs⟩ := id ok
  obtain ⟨h0, hst⟩ := List.forall_mem_cons.mp hst
  exact va_tlen hx hb (hs.2.1.1 0 (by decide)).2.2.2 hin.2.2.1 (v := Int32.ofInt 131) (by decide) hd (kk p e s m args below meth c adr D dA r σ' ok H locs ls hin hl (cn_c (show c32 131 by unfold c32; omega) hst) hR)
theorem g_baldK {i : Int} {F : Int → Rs} (hd : decode cc pc = .ok (.baload, 1)) (kk : ∀ z, G l K P own cc nL rt d (pc + 1) lv (.inl z :: st) σ (F z)) : G l K P own cc nL rt d pc lv (.inl i :: .inr (.inr 9998) :: st) σ (rd 131 i (ks_c i.toNat) F) := by
  intro p e s m args below meth c adr D dA r σ' ok H locs ls hin hl hst hR
  obtain ⟨hx, hb, hml, hown, hT, hK, hr, hlk, hs⟩ := id ok
  obtain ⟨h0, hst⟩ := List.forall_mem_cons.mp hst
  obtain ⟨h1, hst⟩ := List.forall_mem_cons.mp hst
  unfold rd at hR
  by_cases hi : 0 ≤ i ∧ i < ((131 : Nat) : Int)
  rotate_left
  · rw [if_neg hi] at hR; cases hR
  rw [if_pos hi] at hR
  refine va_tb hx hb (hs.2.1.1 0 (by decide)).2.2.2 hin.2.2.1 (ix_in h0 hi) (v := .int (Int32.ofInt (ks_c i.toNat))) ?_ hd (kk _ p e s m args below meth c adr D dA r σ' ok H locs ls hin hl (cn_c (i32_c _) hst) hR)
  rw [ix_cl h0]
  have e1 : Int32.ofInt (ks_c i.toNat) = ks_b.getD i.toNat 0 := Int32.ofInt_toInt _
  rw [e1]
  simp only [List.getD_cons_zero]
/-- a call of a method of the String constant -/
theorem g_callK1 {y : MethodName} {cc' : ByteArray} {nL' rt' d' n idx : Nat} {as stk : List Pv} {r1 : Int} {σ1 : Sg} (hm : MW y cc' nL' rt' n false) (hl' : LK own idx y) (hy : y.cls = "java/lang/String") (hc : MC l K P y cc' nL' rt' d' (.inr (.inr 9999) :: as) σ (some (r1, σ1))) (hd' : d' < d) (hn : as.length = n) (hstk : stk = as.reverse ++ .inr (.inr 9999) :: st) (hsw : stw st ≤ 8) (hd : decode cc pc = .ok (.invokevirtual idx, 3)) (kk : G l K P own cc nL rt d (pc + 3) lv (rpv rt' r1 ++ st) σ1 R) : G l K P own cc nL rt d pc lv stk σ R := by
  intro p e s m args below meth c adr D dA r σ' ok H locs ls hin hl hst hR
  obtain ⟨hx, hb, hml, hown, hT, hK, hr, hlk, hs⟩ := id ok
  obtain ⟨m1, m2, m3, m4, m5⟩ := hm
  rw [if_neg (by decide)] at m5
  subst hstk
  have hst1 : ∀ v ∈ (.inr (.inr 9999) :: as : List Pv), cn_v v := cn_c trivial (fun v hv => hst v (List.mem_append_left _ (List.mem_reverse.mpr hv)))
  have hst2 : ∀ v ∈ st, cn_v v := fun v hv => hst v (List.mem_append_right _ (List.mem_cons_of_mem _ hv))
  have hM := hc adr D dA r1 σ1 rfl
  have hpre : PreV s H y.cls (adr 9999) (va_Pc ((.inr (.inr 9999) :: as : List Pv).map (en_v adr)) (BB K P adr D dA (.inr (.inr 9999) :: as) σ)) (as.map (en_v adr)) :=
    ⟨BB.blind, (by rw [hy]; exact vk_recv hs.2.1 (i := 0) (by decide) hin.2.2.1), fun U hU hW => ⟨rfl, by rw [hU]; exact hin.1, hin.2.1, va_K.moved hW.alike hK, hT.warm hW, hs.moved hW (fun a h1 h2 => by rw [hU]; exact hin.2.2.1.2.1 a h1 h2), hin.2.2.2, hst1⟩⟩
  have hws : ∀ w ∈ [Cond.code y cc' nL' (rty rt')], ∀ (a' : Array Value) (U : State), s.WarmedH U.vm → w.before a' U = true := by
    intro w hw a' U hW
    rw [List.mem_singleton.mp hw]
    exact (hT.warm hW).hts _ m1
  have hroom : (rmd d').frames + 1 ≤ (rmd d).frames ∧ 8 + (nL' + 11) + (rmd d').locals ≤ (rmd d).locals := by
    refine ⟨hd', ?_⟩
    show 8 + (nL' + 11) + 64 * d' ≤ 64 * d
    omega
  have hlen : ∀ sig, parseMethodDescriptor y.desc = some sig → n = sig.parameters.length := fun sig h => by
    have h2 := m3.2.2
    rw [h] at h2
    exact (Option.some.inj h2).symm
  have hstack : ((as.reverse ++ .inr (.inr 9999) :: st).map (en_v adr)) = (as.map (en_v adr)).reverse ++ .ref (adr 9999) :: st.map (en_v adr) := by rw [List.map_append, List.map_reverse]; rfl
  have hgo : va_Run p l e (rmd d) s m args below meth c H locs 0 0 0 0 (F0 m pc ls ((as.reverse ++ .inr (.inr 9999) :: st).map (en_v adr))) (st.map (en_v adr)) (QQ K P adr D dA rt' r1 σ1 (Value.ref (adr 9999) :: as.map (en_v adr)).toArray) (Ad K adr) := by
    rcases hl' with h | ⟨host, h⟩
    · exact va_runV (Ts := tbf) ⟨hx, hb, hml, hown, hT.hts⟩ hM ⟨⟨rfl, rfl, hroom.1, hroom.2, hws, List.mem_singleton.mpr rfl, hT.hts _ m1, hT.hts _ m2, ⟨m3.1, m3.2.1⟩, hlen, hT.hts _ h⟩, hT.hts _ m5.1, hT.hts _ m5.2⟩ hpre rfl (by simpa using hn) hl.1.1 hstack (lv_room (by rw [en_stw]; exact hsw)) hd ⟨Nat.le_refl _, Nat.le_refl _⟩
    · exact va_runVN (Ts := tbf) ⟨hx, hb, hml, hown, hT.hts⟩ hM ⟨⟨⟨rfl, rfl, hroom.1, hroom.2, hws, List.mem_singleton.mpr rfl⟩, hT.hts _ m1, hT.hts _ m2, ⟨m3.1, m3.2.1⟩, hlen, hT.hts _ h⟩, hT.hts _ m5.1, hT.hts _ m5.2⟩ hpre rfl (by simpa using hn) hl.1.1 hstack (lv_room (by rw [en_stw]; exact hsw)) hd ⟨Nat.le_refl _, Nat.le_refl _⟩
  refine w_call hgo hin.2.2.1 (fun H1 locs1 q1 q2 q3 q4 => ?_)
  rw [rv_rp]
  exact kk p e s m args below meth c adr D dA r σ' ok H1 locs1 ls ⟨q3, ad_ws hin.2.1, q4, q2⟩ hl (cn_rp q1 hst2) hR
theorem g_callK {y : MethodName} {cc' : ByteArray} {nL' rt' d' n idx : Nat} {as stk : List Pv} {F : Rs} {B : Int → Sg → Rs} (hm : MW y cc' nL' rt' n false) (hl' : LK own idx y) (hy : y.cls = "java/lang/String") (hc : MC l K P y cc' nL' rt' d' (.inr (.inr 9999) :: as) σ F) (hd' : d' < d) (hn : as.length = n) (hstk : stk = as.reverse ++ .inr (.inr 9999) :: st) (hsw : stw st ≤ 8) (hd : decode cc pc = .ok (.invokevirtual idx, 3)) (kk : ∀ r σ1, G l K P own cc nL rt d (pc + 3) lv (rpv rt' r ++ st) σ1 (B r σ1)) : G l K P own cc nL rt d pc lv stk σ (bd F B) := by
  intro p e s m args below meth c adr D dA r σ' ok H locs ls hin hl hst hR
  obtain ⟨hx, hb, hml, hown, hT, hK, hr, hlk, hs⟩ := id ok
  obtain ⟨m1, m2, m3, m4, m5⟩ := hm
  rw [if_neg (by decide)] at m5
  subst hstk
  have hst1 : ∀ v ∈ (.inr (.inr 9999) :: as : List Pv), cn_v v := cn_c trivial (fun v hv => hst v (List.mem_append_left _ (List.mem_reverse.mpr hv)))
  have hst2 : ∀ v ∈ st, cn_v v := fun v hv => hst v (List.mem_append_right _ (List.mem_cons_of_mem _ hv))
  cases F with
  | none => cases hR
  | some q =>
    obtain ⟨r1, σ1⟩ := q
    have hM := hc adr D dA r1 σ1 rfl
    have hpre : PreV s H y.cls (adr 9999) (va_Pc ((.inr (.inr 9999) :: as : List Pv).map (en_v adr)) (BB K P adr D dA (.inr (.inr 9999) :: as) σ)) (as.map (en_v adr)) :=
      ⟨BB.blind, (by rw [hy]; exact vk_recv hs.2.1 (i := 0) (by decide) hin.2.2.1), fun U hU hW => ⟨rfl, by rw [hU]; exact hin.1, hin.2.1, va_K.moved hW.alike hK, hT.warm hW, hs.moved hW (fun a h1 h2 => by rw [hU]; exact hin.2.2.1.2.1 a h1 h2), hin.2.2.2, hst1⟩⟩
    have hws : ∀ w ∈ [Cond.code y cc' nL' (rty rt')], ∀ (a' : Array Value) (U : State), s.WarmedH U.vm → w.before a' U = true := by
      intro w hw a' U hW
      rw [List.mem_singleton.mp hw]
      exact (hT.warm hW).hts _ m1
    have hroom : (rmd d').frames + 1 ≤ (rmd d).frames ∧ 8 + (nL' + 11) + (rmd d').locals ≤ (rmd d).locals := by
      refine ⟨hd', ?_⟩
      show 8 + (nL' + 11) + 64 * d' ≤ 64 * d
      omega
    have hlen : ∀ sig, parseMethodDescriptor y.desc = some sig → n = sig.parameters.length := fun sig h => by
      have h2 := m3.2.2
      rw [h] at h2
      exact (Option.some.inj h2).symm
    have hstack : ((as.reverse ++ .inr (.inr 9999) :: st).map (en_v adr)) = (as.map (en_v adr)).reverse ++ .ref (adr 9999) :: st.map (en_v adr) := by rw [List.map_append, List.map_reverse]; rfl
    have hgo : va_Run p l e (rmd d) s m args below meth c H locs 0 0 0 0 (F0 m pc ls ((as.reverse ++ .inr (.inr 9999) :: st).map (en_v adr))) (st.map (en_v adr)) (QQ K P adr D dA rt' r1 σ1 (Value.ref (adr 9999) :: as.map (en_v adr)).toArray) (Ad K adr) := by
      rcases hl' with h | ⟨host, h⟩
      · exact va_runV (Ts := tbf) ⟨hx, hb, hml, hown, hT.hts⟩ hM ⟨⟨rfl, rfl, hroom.1, hroom.2, hws, List.mem_singleton.mpr rfl, hT.hts _ m1, hT.hts _ m2, ⟨m3.1, m3.2.1⟩, hlen, hT.hts _ h⟩, hT.hts _ m5.1, hT.hts _ m5.2⟩ hpre rfl (by simpa using hn) hl.1.1 hstack (lv_room (by rw [en_stw]; exact hsw)) hd ⟨Nat.le_refl _, Nat.le_refl _⟩
      · exact va_runVN (Ts := tbf) ⟨hx, hb, hml, hown, hT.hts⟩ hM ⟨⟨⟨rfl, rfl, hroom.1, hroom.2, hws, List.mem_singleton.mpr rfl⟩, hT.hts _ m1, hT.hts _ m2, ⟨m3.1, m3.2.1⟩, hlen, hT.hts _ h⟩, hT.hts _ m5.1, hT.hts _ m5.2⟩ hpre rfl (by simpa using hn) hl.1.1 hstack (lv_room (by rw [en_stw]; exact hsw)) hd ⟨Nat.le_refl _, Nat.le_refl _⟩
    refine w_call hgo hin.2.2.1 (fun H1 locs1 q1 q2 q3 q4 => ?_)
    rw [rv_rp]
    exact kk r1 σ1 p e s m args below meth c adr D dA r σ' ok H1 locs1 ls ⟨q3, ad_ws hin.2.1, q4, q2⟩ hl (cn_rp q1 hst2) hR
theorem ok_coder : MC l K P yJ0_coder_7d493 cJ0_coder_7d493 1 5 1 [.inr (.inr 9999)] σ (some (0, σ)) := by
  refine mc_of (by decide) (Nat.le_of_ble_eq_true rfl) ?_
  have h : G l K P RJ0 cJ0_coder_7d493 1 5 1 0 [some (.inr (.inr 9999))] [] σ (if (1 : Int) = 0 then none else some (0, σ)) := by
    refine g_getsC dJ0_coder_7d493_0 ?_
    refine g_ifeq (tgt := 13) dJ0_coder_7d493_3 (by decide) G.none_ ?_
    refine g_aload_n dJ0_coder_7d493_6 rfl rfl ?_
    refine g_getK dJ0_coder_7d493_7 ?_
    refine g_goto (tgt := 14) dJ0_coder_7d493_10 (by decide) ?_
    exact g_nret (Or.inr ⟨rfl, rfl⟩) rfl dJ0_coder_7d493_14
  rw [if_neg (by decide)] at h
  exact h
theorem ok_isLatin1 : MC l K P yJ0_isLatin1_aae02 cJ0_isLatin1_aae02 1 3 1 [.inr (.inr 9999)] σ (some (1, σ)) := by
  refine mc_of (by decide) (Nat.le_of_ble_eq_true rfl) ?_
  have h : G l K P RJ0 cJ0_isLatin1_aae02 1 3 1 0 [some (.inr (.inr 9999))] [] σ (if (1 : Int) = 0 then none else if (0 : Int) = 0 then some (1, σ) else none) := by
    refine g_getsC dJ0_isLatin1_aae02_0 ?_
    refine g_ifeq (tgt := 17) dJ0_isLatin1_aae02_3 (by decide) G.none_ ?_
    refine g_aload_n dJ0_isLatin1_aae02_6 rfl rfl ?_
    refine g_getK dJ0_isLatin1_aae02_7 ?_
    refine g_ifne (tgt := 17) dJ0_isLatin1_aae02_10 (by decide) ?_ G.none_
    refine g_iconst dJ0_isLatin1_aae02_13 (by decide) ?_
    refine g_goto (tgt := 18) dJ0_isLatin1_aae02_14 (by decide) ?_
    exact g_zret1 dJ0_isLatin1_aae02_18
  rw [if_neg (by decide), if_pos rfl] at h
  exact h
theorem ok_slen : MC l K P yJ0_length_8abf5 cJ0_length_8abf5 1 0 2 [.inr (.inr 9999)] σ (some (131, σ)) := by
  refine mc_of (by decide) (Nat.le_of_ble_eq_true rfl) ?_
  have h : G l K P RJ0 cJ0_length_8abf5 1 0 2 0 [some (.inr (.inr 9999))] [] σ (bd (some (0, σ)) (fun r s => some (sr32 131 r, s))) := by
    refine g_aload_n dJ0_length_8abf5_0 rfl rfl ?_
    refine g_getV dJ0_length_8abf5_1 ?_
    refine g_alenK dJ0_length_8abf5_4 ?_
    refine g_aload_n dJ0_length_8abf5_5 rfl rfl ?_
    refine g_callK (st := [.inl 131]) mw_J0_coder_7d493 lk_RJ0_335 rfl ok_coder (Nat.le_of_ble_eq_true rfl) rfl rfl (Nat.le_of_ble_eq_true rfl) dJ0_length_8abf5_6 ?_
    intro r s1
    refine g_ishr dJ0_length_8abf5_9 ?_
    exact g_iret dJ0_length_8abf5_10
  have e : bd (some ((0 : Int), σ)) (fun r s => some (sr32 131 r, s)) = some (131, σ) := by
    show some (sr32 131 0, σ) = some (131, σ)
    rw [show sr32 131 0 = 131 by decide +kernel]
  rw [e] at h
  exact h
theorem ok_chk {p : Program} {e : Env} {s : State} {m : MethodId} {args : Array Value} {below : List Frame} : True := trivial
theorem g_slen (hd : decode cc pc = .ok (.invokevirtual 28, 3)) (hd2 : 2 < d) (hsw : stw st ≤ 8) (kk : G l K P RX7 cc nL rt d (pc + 3) lv (.inl 131 :: st) σ R) : G l K P RX7 cc nL rt d pc lv (.inr (.inr 9999) :: st) σ R := by
  exact g_callK1 (st := st) mw_J0_length_8abf5 lk_RX7_28 rfl ok_slen hd2 rfl rfl hsw hd kk
theorem g_mmax {idx : Nat} {x y : Int} (hw : MX own idx Lib.Math.max.name Lib.Math.max.code 2 (some .int)) (hdp : 1 ≤ d) (hsw : stw st ≤ 8) (hd : decode cc pc = .ok (.invokestatic idx, 3)) (kk : G l K P own cc nL rt d (pc + 3) lv (.inl (max x y) :: st) σ R) : G l K P own cc nL rt d pc lv (.inl y :: .inl x :: st) σ R := by
  intro p e s m args below meth c adr D dA r σ' ok H locs ls hin hl hst hR
  obtain ⟨hx, hb, hml, hown, hT, hK, hr, hlk, hs⟩ := id ok
  obtain ⟨h0, hst⟩ := List.forall_mem_cons.mp hst
  obtain ⟨h1, hst⟩ := List.forall_mem_cons.mp hst
  have ee : (if Int32.ofInt x < Int32.ofInt y then Int32.ofInt y else Int32.ofInt x) = Int32.ofInt (max x y) := by
    simp only [i32_lt h1 h0]
    split <;> congr 1 <;> omega
  refine va_mmax hx hb (hml.trans hl.1.1.symm) hown (hT.hts _ hw.1) (hT.hts _ hw.2.1) (hT.hts _ hw.2.2.1) (hT.hts _ hw.2.2.2) hdp (by rw [en_stw]; show _ ≤ 64 * d; omega) (Nat.le_refl _) (Nat.le_refl _) hd ?_
  rw [ee]
  refine kk p e s m args below meth c adr D dA r σ' ok H locs ls hin hl (cn_c ?_ hst) hR
  show c32 _
  have g0 : c32 y := h0
  have g1 : c32 x := h1
  unfold c32 at g0 g1 ⊢
  omega
theorem g_mmin {idx : Nat} {x y : Int} (hw : MX own idx Lib.Math.min.name Lib.Math.min.code 2 (some .int)) (hdp : 1 ≤ d) (hsw : stw st ≤ 8) (hd : decode cc pc = .ok (.invokestatic idx, 3)) (kk : G l K P own cc nL rt d (pc + 3) lv (.inl (min x y) :: st) σ R) : G l K P own cc nL rt d pc lv (.inl y :: .inl x :: st) σ R := by
  intro p e s m args below meth c adr D dA r σ' ok H locs ls hin hl hst hR
  obtain ⟨hx, hb, hml, hown, hT, hK, hr, hlk, hs⟩ := id ok
  obtain ⟨h0, hst⟩ := List.forall_mem_cons.mp hst
  obtain ⟨h1, hst⟩ := List.forall_mem_cons.mp hst
  have ee : (if Int32.ofInt y < Int32.ofInt x then Int32.ofInt y else Int32.ofInt x) = Int32.ofInt (min x y) := by
    simp only [i32_lt h0 h1]
    split <;> congr 1 <;> omega
  refine va_mmin hx hb (hml.trans hl.1.1.symm) hown (hT.hts _ hw.1) (hT.hts _ hw.2.1) (hT.hts _ hw.2.2.1) (hT.hts _ hw.2.2.2) hdp (by rw [en_stw]; show _ ≤ 64 * d; omega) (Nat.le_refl _) (Nat.le_refl _) hd ?_
  rw [ee]
  refine kk p e s m args below meth c adr D dA r σ' ok H locs ls hin hl (cn_c ?_ hst) hR
  show c32 _
  have g0 : c32 y := h0
  have g1 : c32 x := h1
  unfold c32 at g0 g1 ⊢
  omega
theorem g_mabs {idx : Nat} {x : Int} (hw : MX own idx Lib.MathLoose.abs_long.x Lib.MathLoose.abs_long.code 2 (some .long)) (hdp : 1 ≤ d) (hsw : stw st ≤ 8) (hd : decode cc pc = .ok (.invokestatic idx, 3)) (kk : G l K P own cc nL rt d (pc + 3) lv (.inr (.inl (ab64 x)) :: st) σ R) : G l K P own cc nL rt d pc lv (.inr (.inl x) :: st) σ R := by
  intro p e s m args below meth c adr D dA r σ' ok H locs ls hin hl hst hR
  obtain ⟨hx, hb, hml, hown, hT, hK, hr, hlk, hs⟩ := id ok
  obtain ⟨h0, hst⟩ := List.forall_mem_cons.mp hst
  have ee : (if 0 < Int64.ofInt x then Int64.ofInt x else -Int64.ofInt x) = Int64.ofInt (ab64 x) := by
    have h : (0 < Int64.ofInt x) ↔ 0 < x := i64_lt c64_0 h0
    unfold ab64
    simp only [h]
    split
    · rfl
    · rw [i64_ow, Int64.ofInt_neg]
  refine va_mabs_long hx hb (hml.trans hl.1.1.symm) hown (hT.hts _ hw.1) (hT.hts _ hw.2.1) (hT.hts _ hw.2.2.1) (hT.hts _ hw.2.2.2) hdp (by rw [en_stw]; show _ ≤ 64 * d; omega) (Nat.le_refl _) (Nat.le_refl _) hd ?_
  rw [ee]
  refine kk p e s m args below meth c adr D dA r σ' ok H locs ls hin hl (cn_c ?_ hst) hR
  show c64 _
  unfold ab64
  split
  · exact h0
  · exact w64_c _
end GX
