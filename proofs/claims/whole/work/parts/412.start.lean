/-! the law's start -/
theorem dL_law_0 : decode code 0 = .ok (.new 7, 3) := by decide +kernel
theorem dL_law_3 : decode code 3 = .ok (.dup, 1) := by decide +kernel
theorem dL_law_4 : decode code 4 = .ok (.invokespecial 9, 3) := by decide +kernel
theorem dL_law_7 : decode code 7 = .ok (.astore_n 1, 1) := by decide +kernel
theorem dL_law_8 : decode code 8 = .ok (.new 10, 3) := by decide +kernel
theorem dL_law_11 : decode code 11 = .ok (.dup, 1) := by decide +kernel
theorem dL_law_12 : decode code 12 = .ok (.invokespecial 12, 3) := by decide +kernel
theorem dL_law_15 : decode code 15 = .ok (.astore_n 2, 1) := by decide +kernel
theorem dL_law_16 : decode code 16 = .ok (.iconst 0, 1) := by decide +kernel
theorem dL_law_17 : decode code 17 = .ok (.istore_n 3, 1) := by decide +kernel
theorem lk_RL_9 : LK R_law 9 yX11_init := Or.inl (tm 257 (by decide +kernel) rfl)
theorem lk_RL_12 : LK R_law 12 yX12_init := Or.inl (tm 1560 (by decide +kernel) rfl)
/-- a constructor's call out of the law -/
theorem l_init {p : Program} {l : Launch} {e : Env} {s : State} {m : MethodId} {args : Array Value} {below : List Frame} {meth : Method} {c : Code} {H : Heap} {locs : List Loc} {cells slots : Nat} {Q : State → Prop} {pc : Nat} {ls : Array Slot} {rest : List Value} {D : va_G} {dA : Nat → ClassId} {a1 a2 ci idx nL' d' mc' ms' base : Nat} {y : MethodName} {cc' : ByteArray} {Qf : Nat → Array Value → State → Outcome → State → Prop}
    (hx : p.tables.exec = Jvm.exec) (hb : c.code = code) (hml : c.maxLocals = 4) (hown : s.vm.findClass R_law = some m.cls) (hT : TB s) (hK : va_K D vwCl (tyl dA) s)
    (hm : Cond.code y cc' nL' none ∈ tbf ∧ Cond.initialized y.cls ∈ tbf ∧ (y.cls ≠ "java/lang/invoke/MethodHandle" ∧ y.cls ≠ "java/lang/invoke/VarHandle" ∧ (parseMethodDescriptor y.desc).map (fun d => d.parameters.length) = some 0) ∧ nL' ≤ 45 ∧ y.name = "<init>" ∧ Cond.instanceMethod y ∈ tbf) (hl' : LK R_law idx y)
    (hc : CQ l D dA a1 a2 ci y cc' nL' d' mc' ms' Qf) (hd' : d' < 1000) (hcs : cells + mc' ≤ 600000) (hsl : slots + ms' ≤ 7302250) (hz : H.size = base + 1) (hP : va_P D vwCl (wn base 1 (fun _ => .inr (ci, dflt ci))) H) (hS : va_S (fun q => s.heap.size ≤ q) s.heap H locs) (hbase : s.heap.size ≤ base) (hs : SS (adS base a1 a2) (fun q => s.heap.size ≤ q) s) (hao : AO s) (hls : ls.size = 4) (hw : (rest.map fun v => v.category).sum ≤ 8) (hd : decode code pc = .ok (.invokespecial idx, 3))
    (kk : ∀ (H1 : Heap) (locs1 : List Loc) (st0 t : State) (a : Array Value) (oc : Option Value), Qf base a st0 (.returned oc) t → t.heap = H1 → st0.heap = H → va_S (fun q => s.heap.size ≤ q) s.heap H1 locs1 → W p l e room_1 s m args below meth c H1 locs1 (cells + mc') (slots + ms') Q (F0 m (pc + 3) ls (oc.toList ++ rest)))
    (hfr : ∀ a st0 oc t, Qf base a st0 oc t → va_F (fun q => base ≤ q) st0 t) : W p l e room_1 s m args below meth c H locs cells slots Q (F0 m pc ls (.ref base :: rest)) := by
  obtain ⟨m1, m2, m3, m4, m5, m6⟩ := hm
  have hM := hc base
  have hpre : PreS s H (va_Pc [.ref base] (fun U => U.heap.size = base + 1 ∧ va_P D vwCl (wn base 1 (fun _ => .inr (ci, dflt ci))) U.heap ∧ va_K D vwCl (tyl dA) U ∧ TB U ∧ SS (adS base a1 a2) (fun z => base ≤ z) U ∧ AO U)) (.ref base :: []) := by
    refine ⟨?_, fun U hU hW => ⟨rfl, by rw [hU]; exact hz, by rw [hU]; exact hP, va_K.moved hW.alike hK, hT.warm hW, (hs.moved hW (fun a h1 h2 => by rw [hU]; exact hS.2.1 a h1 h2)).narrow (adS_1.trans adS_1.symm) (adS_2.trans adS_2.symm) (fun z (h : base ≤ z) => by show s.heap.size ≤ z; omega), hao.moved hW.alike⟩⟩
    intro a U g mk h
    obtain ⟨h0, h1, h2, h3, h4, h5, h6⟩ := h
    have hW : U.WarmedH (U.calling g mk a).vm := State.WarmedH.refl U
    exact ⟨h0, h1, h2, va_K.moved hW.alike h3, h4.warm hW, h5.moved hW (fun _ _ _ => rfl), h6.moved hW.alike⟩
  have hws : ∀ w ∈ [Cond.code y cc' nL' none], ∀ (a' : Array Value) (U : State), s.WarmedH U.vm → w.before a' U = true := by
    intro w hw a' U hW
    rw [List.mem_singleton.mp hw]
    exact (hT.warm hW).hts _ m1
  have hroom : (rmn d' mc' ms').frames + 1 ≤ room_1.frames ∧ 8 + (nL' + 11) + (rmn d' mc' ms').locals ≤ room_1.locals := by
    refine ⟨?_, ?_⟩
    · show d' + 1 ≤ 2048
      omega
    · show 8 + (nL' + 11) + 64 * d' ≤ 84000
      omega
  have hlen : ∀ sig, parseMethodDescriptor y.desc = some sig → 0 = sig.parameters.length := fun sig h => by
    have h2 := m3.2.2
    rw [h] at h2
    exact (Option.some.inj h2).symm
  have hgo : va_Run p l e room_1 s m args below meth c H locs cells slots mc' ms' (F0 m pc ls (.ref base :: rest)) rest (Qf base (Value.ref base :: []).toArray) (fun z => base ≤ z) := by
    rcases hl' with h | ⟨host, h⟩
    · exact va_runI (Ts := tbf) (As := []) ⟨hx, hb, hml, hown, hT.hts⟩ hM ⟨⟨rfl, rfl, hroom.1, hroom.2, hws, List.mem_singleton.mpr rfl, hT.hts _ m1, hT.hts _ m2, ⟨m3.1, m3.2.1⟩, hlen, hT.hts _ h⟩, m5, hT.hts _ m6⟩ hpre rfl rfl hls rfl (lv_room hw) hd ⟨hcs, hsl⟩
    · exact va_runIN (Ts := tbf) (As := []) ⟨hx, hb, hml, hown, hT.hts⟩ hM ⟨⟨⟨rfl, rfl, hroom.1, hroom.2, hws, List.mem_singleton.mpr rfl⟩, hT.hts _ m1, hT.hts _ m2, ⟨m3.1, m3.2.1⟩, hlen, hT.hts _ h⟩, m5, hT.hts _ m6⟩ hpre rfl rfl hls rfl (lv_room hw) hd ⟨hcs, hsl⟩
  intro T0 hT0 X
  obtain ⟨v, st₀, t, T', L, g0, X', hL, e1, e2, hq, stp⟩ := hgo T0 hT0 X
  obtain ⟨hzz, hkk⟩ := hfr _ _ _ _ hq
  rw [g0] at hzz hkk
  obtain ⟨t2, b1, b2⟩ := kk T'.heap (locs ++ L) st₀ t _ v hq e1.symm g0
    ⟨by rw [e1]; exact Nat.le_trans hS.1 hzz, fun z h1 h2 => by
      rw [e1, hkk z (Nat.lt_of_lt_of_le h1 hS.1) (fun (h : base ≤ z) => h2 (by show s.heap.size ≤ z; omega))]
      exact hS.2.1 z h1 h2, fun z hz => by
      rcases List.mem_append.mp hz with h | h
      · exact hS.2.2 z h
      · have : base ≤ z.base := hL z h
        show s.heap.size ≤ z.base
        omega⟩ T' rfl X'
  exact ⟨t2, stp t2 b1, b2⟩
theorem ks_el : ∀ j, j < 131 → Cond.eq (.elem (.field (Term.string "HairProvince$Tokens" 26) "java/lang/String" "value" "[B") (.int (Int32.ofNat j))) (.int (ks_b.getD j 0)) ∈ flatC (Jvm.Cond.and given_1 narrow_1) := by decide +kernel
set_option maxRecDepth 100000 in
theorem whole_from {Rel : Sg → Sg → Prop} (hst : STL Rel) (h0 : Rel zh zm) (hcz : cn_s Kh zh) (hcm : cn_s Km zm) {p : Program} {e : Env} {s : State} {m : MethodId} {below : List Frame} {meth : Method} {c : Code} (l : Launch) {b L : Nat} {xs : Nat → Int32} (hL : L ≤ 3072) (C0 : lw_At p s m meth c b L xs) : W p l e room_1 s m #[Value.ref b] below meth c s.heap [] 0 0 (lw_Z below #[Value.ref b] s) (entryFrame m ([Value.ref b] : List Value).toArray 4) := by
  obtain ⟨hx, hb, hr, hml, hown, hts, hX, hbl, hlocks, hgv⟩ := id C0
  have hT : TB s := fun w hw ho => ok_w_warm (State.WarmedH.refl s) ho (hts w hw)
  have hAn : ∀ a : Nat, a < s.heap.size → ¬ (fun q => s.heap.size ≤ q) a := fun a h => Nat.not_le.mpr h
  obtain ⟨c0, i0, hKn0⟩ := u_known (C := RX0) (T := TX0) (N := 5) (n := 5) (hT.hts (A := #[Value.ref b])) cw_0.2.2.1 (hts (.instantiable RX0 5) (List.mem_of_getElem? (i := 600) (by decide +kernel)))
  obtain ⟨c1, i1, hKn1⟩ := u_known (C := RX1) (T := TX1) (N := 4) (n := 4) (hT.hts (A := #[Value.ref b])) cw_1.2.2.1 (hts (.instantiable RX1 4) (List.mem_of_getElem? (i := 557) (by decide +kernel)))
  obtain ⟨c2, i2, hKn2⟩ := u_known (C := RX2) (T := TX2) (N := 4) (n := 4) (hT.hts (A := #[Value.ref b])) cw_2.2.2.1 (hts (.instantiable RX2 4) (List.mem_of_getElem? (i := 536) (by decide +kernel)))
  obtain ⟨c3, i3, hKn3⟩ := u_known (C := RX3) (T := TX3) (N := 2) (n := 2) (hT.hts (A := #[Value.ref b])) cw_3.2.2.1 (hts (.instantiable RX3 2) (List.mem_of_getElem? (i := 587) (by decide +kernel)))
  obtain ⟨c4, i4, hKn4⟩ := u_known (C := RX4) (T := TX4) (N := 20) (n := 20) (hT.hts (A := #[Value.ref b])) cw_4.2.2.1 (hts (.instantiable RX4 20) (List.mem_of_getElem? (i := 391) (by decide +kernel)))
  obtain ⟨c5, i5, hKn5⟩ := u_known (C := RX6) (T := TX6) (N := 1) (n := 1) (hT.hts (A := #[Value.ref b])) cw_5.2.2.1 (hts (.instantiable RX6 1) (List.mem_of_getElem? (i := 577) (by decide +kernel)))
  obtain ⟨c6, i6, hKn6⟩ := u_known (C := RX7) (T := TX7) (N := 14) (n := 14) (hT.hts (A := #[Value.ref b])) cw_6.2.2.1 (hts (.instantiable RX7 14) (List.mem_of_getElem? (i := 282) (by decide +kernel)))
  obtain ⟨c7, i7, hKn7⟩ := u_known (C := RX8) (T := TX8) (N := 3) (n := 3) (hT.hts (A := #[Value.ref b])) cw_7.2.2.1 (hts (.instantiable RX8 3) (List.mem_of_getElem? (i := 264) (by decide +kernel)))
  obtain ⟨c8, i8, hKn8⟩ := u_known (C := RX9) (T := TX9) (N := 8) (n := 8) (hT.hts (A := #[Value.ref b])) cw_8.2.2.1 (hts (.instantiable RX9 8) (List.mem_of_getElem? (i := 493) (by decide +kernel)))
  obtain ⟨c9, i9, hKn9⟩ := u_known (C := RX11) (T := TX11) (N := 20) (n := 20) (hT.hts (A := #[Value.ref b])) cw_9.2.2.1 (hts (.instantiable RX11 20) (List.mem_of_getElem? (i := 256) (by decide +kernel)))
  obtain ⟨c10, i10, hKn10⟩ := u_known (C := RX12) (T := TX12) (N := 44) (n := 44) (hT.hts (A := #[Value.ref b])) cw_10.2.2.1 (hts (.instantiable RX12 44) (List.mem_of_getElem? (i := 1559) (by decide +kernel)))
  obtain ⟨dC, dI, hKc⟩ : ∃ (dC : Nat → ClassId) (dI : Nat → Nat → Nat), ∀ (k : Nat) (q : vw_C), vwCl[k]? = some q → u_Kn s q.1 q.2.1 q.2.2 (dC k) (dI k) := by
    refine ⟨fun k => if k = 0 then c0 else if k = 1 then c1 else if k = 2 then c2 else if k = 3 then c3 else if k = 4 then c4 else if k = 5 then c5 else if k = 6 then c6 else if k = 7 then c7 else if k = 8 then c8 else if k = 9 then c9 else c10, fun k => if k = 0 then i0 else if k = 1 then i1 else if k = 2 then i2 else if k = 3 then i3 else if k = 4 then i4 else if k = 5 then i5 else if k = 6 then i6 else if k = 7 then i7 else if k = 8 then i8 else if k = 9 then i9 else i10, ?_⟩
    intro k q hq
    match k, hq with
    | 0, hq => cases hq; exact hKn0
    | 1, hq => cases hq; exact hKn1
    | 2, hq => cases hq; exact hKn2
    | 3, hq => cases hq; exact hKn3
    | 4, hq => cases hq; exact hKn4
    | 5, hq => cases hq; exact hKn5
    | 6, hq => cases hq; exact hKn6
    | 7, hq => cases hq; exact hKn7
    | 8, hq => cases hq; exact hKn8
    | 9, hq => cases hq; exact hKn9
    | 10, hq => cases hq; exact hKn10
    | k + 11, hq => simp [vwCl] at hq
  obtain ⟨cI, kI, pI, fI, gI, jI⟩ := Cond.arrayClass_spec (hts (.arrayClass .int) (List.mem_of_getElem? (i := 279) (by decide +kernel)))
  obtain ⟨cJ, kJ, pJ, fJ, gJ, jJ⟩ := Cond.arrayClass_spec (hts (.arrayClass .long) (List.mem_of_getElem? (i := 280) (by decide +kernel)))
  obtain ⟨cB, kB, pB, fB, gB, jB⟩ := Cond.arrayClass_spec (hts (.arrayClass .byte) (List.mem_of_getElem? (i := 389) (by decide +kernel)))
  obtain ⟨cZ, kZ, pZ, fZ, gZ, jZ⟩ := Cond.arrayClass_spec (hts (.arrayClass .boolean) (List.mem_of_getElem? (i := 1701) (by decide +kernel)))
  have haoP := hts (.arrayOver (.object "HairProvince$Province")) (List.mem_of_getElem? (i := 533) (by decide +kernel))
  obtain ⟨pP, cP, kP, uP, -, gP, jP, fP⟩ := Cond.arrayOver_spec haoP
  have haoY := hts (.arrayOver (.object "HairProvince$Years")) (List.mem_of_getElem? (i := 534) (by decide +kernel))
  obtain ⟨pY, cY, kY, uY, -, gY, jY, fY⟩ := Cond.arrayOver_spec haoY
  have hK : ∃ dA : Nat → ClassId, va_K (dC, dI) vwCl (tyl dA) s := by
    refine ⟨fun k => if k = 0 then cI else if k = 1 then cJ else if k = 2 then cB else if k = 3 then cZ else if k = 4 then cP else cY, hKc, ?_⟩
    intro k q hq
    match k, hq with
    | 0, hq => cases hq; exact ⟨fun n z => ⟨fun k h => (by cases h), kI, gI, pI, jI⟩, fI⟩
    | 1, hq => cases hq; exact ⟨fun n z => ⟨fun k h => (by cases h), kJ, gJ, pJ, jJ⟩, fJ⟩
    | 2, hq => cases hq; exact ⟨fun n z => ⟨fun k h => (by cases h), kB, gB, pB, jB⟩, fB⟩
    | 3, hq => cases hq; exact ⟨fun n z => ⟨fun k h => (by cases h), kZ, gZ, pZ, jZ⟩, fZ⟩
    | 4, hq => cases hq; exact ⟨fun n z => ⟨fun k h => (by cases h), kP, gP, pP, jP⟩, kP, pP, gP, jP, uP, fP⟩
    | 5, hq => cases hq; exact ⟨fun n z => ⟨fun k h => (by cases h), kY, gY, pY, jY⟩, kY, pY, gY, jY, uY, fY⟩
    | k + 6, hq => simp [tyl] at hq
  obtain ⟨dA, hK⟩ := hK
  have hfl := flat_of_before _ hgv
  have i0 : ∀ {i : Nat}, i < 1 → i = 0 := fun h => by omega
  obtain ⟨adK, adV, hvS, hvE⟩ := vk_Sof (args := #[Value.ref b]) (s := s) (N := 1) (tm := fun _ => (Term.string "HairProvince$Tokens" 26)) (len := [131]) (byt := [ks_b]) (A := fun q => s.heap.size ≤ q) (fun i hi => by rw [i0 hi]; decide) (fun _ _ => hfl _ (by decide +kernel)) (fun _ _ => hfl _ (by decide +kernel)) (fun _ _ => hfl _ (by decide +kernel)) (fun i hi => by rw [i0 hi]; exact hfl _ (by decide +kernel)) (fun i hi j hj => by have e := i0 hi; subst e; exact hfl _ (ks_el j hj)) (fun i j hi hj hne => absurd ((i0 hi).trans (i0 hj).symm) hne) hAn
  have hSS : ∀ base : Nat, SS (adS base (adK 0) (adV 0)) (fun q => s.heap.size ≤ q) s := by
    intro base
    refine ⟨vk_R.of (hts (.stringRef "HairProvince$Tokens" 26 ks_t) (List.mem_of_getElem? (i := 287) (by decide +kernel))) (hvE 0 (by decide)), ⟨fun i hi => ?_, fun i j hi hj _ => (i0 hi).trans (i0 hj).symm⟩, va_Zof (hts (.laysStatic "java/lang/String" "COMPACT_STRINGS" "Z") (List.mem_of_getElem? (i := 297) (by decide +kernel))) (hts (.initialized "java/lang/String") (List.mem_of_getElem? (i := 238) (by decide +kernel))) (va_eqi (hfl (.eq (.static "java/lang/String" "COMPACT_STRINGS" "Z") (.int 1)) (by decide +kernel))) hAn, va_Zqof (hts (.laysStatic "jdk/internal/util/Preconditions" "SIOOBE_FORMATTER" "Ljava/util/function/BiFunction;") (List.mem_of_getElem? (i := 313) (by decide +kernel))) (hts (.initialized "jdk/internal/util/Preconditions") (List.mem_of_getElem? (i := 240) (by decide +kernel))) (hfl (.isRef (.static "jdk/internal/util/Preconditions" "SIOOBE_FORMATTER" "Ljava/util/function/BiFunction;")) (by decide +kernel)) hAn⟩
    have e := i0 hi
    subst e
    exact hvS.1 0 hi
  have hAO : AO s := ⟨va_AO.of haoP, va_AO.of haoY⟩
  have hl := lv_entry ([.ref b]) (n := 4) (Nat.le_of_ble_eq_true rfl)
  rw [lg_entry_eq]
  generalize (lg_sl ([.ref b]) ++ List.replicate (4 - (lg_sl ([.ref b])).length) Slot.unset).toArray = ls at hl ⊢
  have hl : lv_has ls 4 [(0, .ref b)] := hl
  refine W.newcK hx hb hown (hts (.classLink R_law 7 "HairProvince") (List.mem_of_getElem? (i := 255) (by decide +kernel))) (hts (.instantiable "HairProvince" 20) (List.mem_of_getElem? (i := 256) (by decide +kernel))) (hts (.initialized "HairProvince") (List.mem_of_getElem? (i := 235) (by decide +kernel))) rfl dL_law_0 (Nat.le_of_ble_eq_true rfl) (Nat.le_of_ble_eq_true rfl) hKn9.2.1 rfl (fun H1 kC hkC e1 z1 o1 => ?_)
  have hS1 : va_S (fun q => s.heap.size ≤ q) s.heap H1 [] := ⟨by omega, fun q h1 _ => o1 q h1, fun _ h => by cases h⟩
  have hP1 : va_P (dC, dI) vwCl (wn s.heap.size 1 (fun _ => .inr (9, dflt 9))) H1 := by
    intro k x hx'
    obtain ⟨hk, rfl⟩ := wn_of hx'
    have e := i0 hk
    subst e
    obtain ⟨hc, hN, hws, hty, hnm⟩ := cw_9
    have hKn := hK.1 9 _ hc
    have hcc : (dC 9) = c9 := Option.some.inj (hKn.2.1.symm.trans hKn9.2.1)
    refine ⟨_, hc, ?_⟩
    rw [← hcc] at e1 hkC
    exact (u_born (args := #[Value.ref b]) tyX11 hT.hts hws hKn hkC e1 hty).to (by decide)
  refine lv_dup hx hb dL_law_3 rfl ?_
  refine l_init hx hb hml hown hT hK mi_X11_init lk_RL_9 (ci_X11_init (a1 := adK 0) (a2 := adV 0)) (Nat.le_of_ble_eq_true rfl) (Nat.le_of_ble_eq_true rfl) (Nat.le_of_ble_eq_true rfl) z1 hP1 hS1 (Nat.le_refl _) (hSS _) hAO hl.1 (Nat.le_of_ble_eq_true rfl) dL_law_4 ?_ (fun _ _ _ _ h => h.2)
  intro H2 locs2 st0 t a oc hq ht hst0 hS2
  obtain ⟨⟨hoc, hsz, hPh⟩, hzz, hkk⟩ := hq
  cases hoc
  rw [ht] at hsz hPh
  have hPh := px_P (wn_ws (K' := KhA) (P' := PhA) (σ' := zhA) (a1 := adK 0) (a2 := adV 0) (dA := dA) (Nat.le_of_ble_eq_true rfl) rfl (fun q hq => ve.rf) hPh)
  refine lv_astore_n (lv' := [(1, .ref s.heap.size), (0, .ref b)]) hx hb dL_law_7 rfl hl (by decide) rfl (fun ls hl => ?_)
  refine W.newcK hx hb hown (hts (.classLink R_law 10 "HairProvinceModel") (List.mem_of_getElem? (i := 1558) (by decide +kernel))) (hts (.instantiable "HairProvinceModel" 44) (List.mem_of_getElem? (i := 1559) (by decide +kernel))) (hts (.initialized "HairProvinceModel") (List.mem_of_getElem? (i := 249) (by decide +kernel))) rfl dL_law_8 (Nat.le_of_ble_eq_true rfl) (Nat.le_of_ble_eq_true rfl) hKn10.2.1 hsz (fun H3 kC3 hkC3 e3 z3 o3 => ?_)
  have hS3 : va_S (fun q => s.heap.size ≤ q) s.heap H3 locs2 := ⟨by omega, fun q h1 h2 => (o3 q (by omega)).trans (hS2.2.1 q h1 h2), hS2.2.2⟩
  have hPh3 : va_P (dC, dI) vwCl (ws_l Kh Ph (adX s.heap.size (adK 0) (adV 0)) dA zh) H3 := by
    refine hPh.kept (fun k x hx' => o3 x.1 ?_)
    have := (hPh k x hx').lt
    omega
  have hP3 : va_P (dC, dI) vwCl (wn (s.heap.size + 114) 1 (fun _ => .inr (10, dflt 10))) H3 := by
    intro k x hx'
    obtain ⟨hk, rfl⟩ := wn_of hx'
    have e := i0 hk
    subst e
    obtain ⟨hc, hN, hws, hty, hnm⟩ := cw_10
    have hKn := hK.1 10 _ hc
    have hcc : (dC 10) = c10 := Option.some.inj (hKn.2.1.symm.trans hKn10.2.1)
    refine ⟨_, hc, ?_⟩
    rw [← hcc] at e3 hkC3
    exact (u_born (args := #[Value.ref b]) tyX12 hT.hts hws hKn hkC3 e3 hty).to (by decide)
  refine lv_dup hx hb dL_law_11 rfl ?_
  refine l_init hx hb hml hown hT hK mi_X12_init lk_RL_12 (ci_X12_init (a1 := adK 0) (a2 := adV 0)) (Nat.le_of_ble_eq_true rfl) (Nat.le_of_ble_eq_true rfl) (Nat.le_of_ble_eq_true rfl) z3 hP3 hS3 (by omega) (hSS _) hAO hl.1 (Nat.le_of_ble_eq_true rfl) dL_law_12 ?_ (fun _ _ _ _ h => h.2)
  intro H4 locs4 st4 t4 a4 oc4 hq4 ht4 hst4 hS4
  obtain ⟨⟨hoc4, hPm4⟩, hzz4, hkk4⟩ := hq4
  cases hoc4
  rw [ht4] at hPm4
  rw [ht4, hst4] at hkk4
  have hPh4 : va_P (dC, dI) vwCl (ws_l Kh Ph (adX s.heap.size (adK 0) (adV 0)) dA zh) H4 := by
    refine hPh3.kept (fun k x hx' => hkk4 x.1 (hPh3 k x hx').lt ?_)
    have h1 := (hPh k x hx').lt
    show ¬ s.heap.size + 114 ≤ x.1
    omega
  refine lv_astore_n (lv' := [(2, .ref (s.heap.size + 114)), (1, .ref s.heap.size), (0, .ref b)]) hx hb dL_law_15 rfl hl (by decide) rfl (fun ls hl => ?_)
  refine lv_iconst (v := 0) hx hb dL_law_16 (by decide) ?_
  refine lv_istore_n (lv' := [(3, .int 0), (2, .ref (s.heap.size + 114)), (1, .ref s.heap.size), (0, .ref b)]) hx hb dL_law_17 rfl hl (by decide) rfl (fun ls hl => ?_)
  refine W.widen (k := 600000) (n := 7302250) (Nat.le_of_ble_eq_true rfl) (Nat.le_of_ble_eq_true rfl) ?_
  have hgl := law_loop (l := l) (xs := xs) hst hL (L + 7) 0 zh zm (by omega) (by omega) (by omega) h0
  refine hgl p e s m below meth c b s.heap.size (s.heap.size + 114) (adK 0) (adV 0) (dC, dI) dA ⟨C0, hT, hK, hSS _, Nat.le_refl _, Nat.le_refl _⟩ H4 locs4 ls ⟨hPh4, hPm4, hcz, hcm, hS4⟩ ⟨lv_sub hl [3, 2, 1, 0] rfl, ?_⟩ (fun _ h => by cases h)
  intro v hv
  rcases List.mem_cons.mp hv with e | hv
  · cases e; trivial
  rcases List.mem_cons.mp hv with e | hv
  · cases e; trivial
  rcases List.mem_cons.mp hv with e | hv
  · cases e; trivial
  rcases List.mem_cons.mp hv with e | hv
  · cases e; exact c32_0
  cases hv
