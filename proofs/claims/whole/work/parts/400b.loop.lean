/-! more rows of constructors: a loop over the String constant's signs -/
theorem met_sz {l : Launch} {y : MethodName} {ws : List Cond} {rm : Room} {Pc : Array Value → State → Prop} {Q : Array Value → State → Outcome → State → Prop} {free : Addr → Prop} (h : Met l y ws rm Pc Q 0 0 free) : Met l y ws rm Pc (fun a st o t => Q a st o t ∧ t.heap.size ≤ st.heap.size) 0 0 free :=
  Jvm.Free.MetFree.mono h (fun _ _ h => h) (fun _ _ _ _ _ h => h) (fun a s o s' _ h => by
    obtain ⟨hq, L, hF, hL⟩ := h
    exact ⟨⟨hq, hF.2.2.2.2.1⟩, L, hF, hL⟩)
section KL
variable {l : Launch} {D : va_G} {dA : Nat → ClassId} {a1 a2 : Nat} {own : String} {cc : ByteArray} {nL d base pc n cs sl mc ms : Nat} {lv : List (Option Pv)} {st : List Pv} {ev : Nat → va_E} {Qc : Array Value → State → Outcome → State → Prop}
theorem no_ad {adr : Nat → Nat} {z : Nat} : ¬ Ad [] adr z := fun h => by
  obtain ⟨o, ho, _⟩ := h
  exact absurd ho (Nat.not_lt_zero _)
theorem no_ws {P : Nat → Nat → Nat} {adr : Nat → Nat} {σ : Sg} (k : Nat) (x : Nat × va_E) : ¬ (ws_l [] P adr dA σ)[k]? = some x := by
  intro h; simp [ws_l] at h
theorem m_iload {i : Nat} {x : Int} (hd : decode cc pc = .ok (.iload i, 2)) (hi : lv[i]? = some (some (.inl x))) (kk : GN l D dA a1 a2 own cc nL d base (pc + 2) lv (.inl x :: st) n ev cs sl Qc mc ms) : GN l D dA a1 a2 own cc nL d base pc lv st n ev cs sl Qc mc ms := by
  intro p e s m args below meth c ok H locs ls hz hP hS hl hst
  obtain ⟨hx, hb, hml, hown, hT, hK, hr, hlk, hin, hs, hao⟩ := id ok
  exact lv_iload hx hb hd (hl.at_ hi) (kk p e s m args below meth c ok H locs ls hz hP hS hl (cn_c (hl.cn hi) hst))
theorem m_lload_n {k : Fin 4} {i : Nat} {x : Int} (hd : decode cc pc = .ok (.lload_n k, 1)) (hk : (k : Nat) = i) (hi : lv[i]? = some (some (.inr (.inl x)))) (kk : GN l D dA a1 a2 own cc nL d base (pc + 1) lv (.inr (.inl x) :: st) n ev cs sl Qc mc ms) : GN l D dA a1 a2 own cc nL d base pc lv st n ev cs sl Qc mc ms := by
  intro p e s m args below meth c ok H locs ls hz hP hS hl hst
  obtain ⟨hx, hb, hml, hown, hT, hK, hr, hlk, hin, hs, hao⟩ := id ok
  exact lv_lload_n hx hb hd hk (hl.at_ hi) (kk p e s m args below meth c ok H locs ls hz hP hS hl (cn_c (hl.cn hi) hst))
theorem m_istore {i : Nat} {x : Int} {lv' : List (Option Pv)} (hd : decode cc pc = .ok (.istore i, 2)) (hn : i < nL) (hl' : s1_l lv i (.inl x) = lv') (kk : GN l D dA a1 a2 own cc nL d base (pc + 2) lv' st n ev cs sl Qc mc ms) : GN l D dA a1 a2 own cc nL d base pc lv (.inl x :: st) n ev cs sl Qc mc ms := by
  intro p e s m args below meth c ok H locs ls hz hP hS hl hst
  obtain ⟨hx, hb, hml, hown, hT, hK, hr, hlk, hin, hs, hao⟩ := id ok
  obtain ⟨h0, hst⟩ := List.forall_mem_cons.mp hst
  exact lv_istore hx hb hd hl.1 hn rfl (fun ls' hl2 => kk p e s m args below meth c ok H locs ls' hz hP hS (hl' ▸ LR.s1 (w := .inl x) h0 hl.2 hl2) hst)
theorem m_lstore_n {k : Fin 4} {i : Nat} {x : Int} {lv' : List (Option Pv)} (hd : decode cc pc = .ok (.lstore_n k, 1)) (hk : (k : Nat) = i) (hn : i + 1 < nL) (hl' : s2_l lv i (.inr (.inl x)) = lv') (kk : GN l D dA a1 a2 own cc nL d base (pc + 1) lv' st n ev cs sl Qc mc ms) : GN l D dA a1 a2 own cc nL d base pc lv (.inr (.inl x) :: st) n ev cs sl Qc mc ms := by
  intro p e s m args below meth c ok H locs ls hz hP hS hl hst
  obtain ⟨hx, hb, hml, hown, hT, hK, hr, hlk, hin, hs, hao⟩ := id ok
  obtain ⟨h0, hst⟩ := List.forall_mem_cons.mp hst
  exact lv_lstore_n hx hb hd hk hl.1 hn rfl (fun ls' hl2 => kk p e s m args below meth c ok H locs ls' hz hP hS (hl' ▸ LR.s2 (w := .inr (.inl x)) h0 hl.2 hl2) hst)
theorem m_icmpne_f {x y off : Int} {tgt : Nat} (hd : decode cc pc = .ok (.if_icmp .ne off, 3)) (ht : (pc : Int) + off = (tgt : Int)) (hxy : x = y) (kk : GN l D dA a1 a2 own cc nL d base (pc + 3) lv st n ev cs sl Qc mc ms) : GN l D dA a1 a2 own cc nL d base pc lv (.inl y :: .inl x :: st) n ev cs sl Qc mc ms := by
  intro p e s m args below meth c ok H locs ls hz hP hS hl hst
  obtain ⟨hx, hb, hml, hown, hT, hK, hr, hlk, hin, hs, hao⟩ := id ok
  obtain ⟨h0, hst⟩ := List.forall_mem_cons.mp hst
  obtain ⟨h1, hst⟩ := List.forall_mem_cons.mp hst
  exact lv_icmp_ne hx hb hd ht (fun q => absurd (by rw [hxy]) q) (fun _ => kk p e s m args below meth c ok H locs ls hz hP hS hl hst)
theorem m_icmpne_t {x y off : Int} {tgt : Nat} (hd : decode cc pc = .ok (.if_icmp .ne off, 3)) (ht : (pc : Int) + off = (tgt : Int)) (hxy : ¬ x = y) (kk : GN l D dA a1 a2 own cc nL d base tgt lv st n ev cs sl Qc mc ms) : GN l D dA a1 a2 own cc nL d base pc lv (.inl y :: .inl x :: st) n ev cs sl Qc mc ms := by
  intro p e s m args below meth c ok H locs ls hz hP hS hl hst
  obtain ⟨hx, hb, hml, hown, hT, hK, hr, hlk, hin, hs, hao⟩ := id ok
  obtain ⟨h0, hst⟩ := List.forall_mem_cons.mp hst
  obtain ⟨h1, hst⟩ := List.forall_mem_cons.mp hst
  exact lv_icmp_ne hx hb hd ht (fun _ => kk p e s m args below meth c ok H locs ls hz hP hS hl hst) (fun q => absurd ((i32_inj h1 h0).mp q) hxy)
theorem m_lst {q N : Nat} {i x : Int} {f : Nat → Int64} (hq : q < n) (he : ev q = .inl (dA 1, N, .inr (.inl f))) (hi : 0 ≤ i ∧ i < (N : Int)) (hd : decode cc pc = .ok (.lastore, 1)) (kk : GN l D dA a1 a2 own cc nL d base (pc + 1) lv st n (va_up ev q (.inl (dA 1, N, .inr (.inl (vp_updL f i.toNat (Int64.ofInt x)))))) cs sl Qc mc ms) : GN l D dA a1 a2 own cc nL d base pc lv (.inr (.inl x) :: .inl i :: .inr (.inr q) :: st) n ev cs sl Qc mc ms := by
  intro p e s m args below meth c ok H locs ls hz hP hS hl hst
  obtain ⟨hx, hb, hml, hown, hT, hK, hr, hlk, hin, hs, hao⟩ := id ok
  obtain ⟨h0, hst⟩ := List.forall_mem_cons.mp hst
  obtain ⟨h1, hst⟩ := List.forall_mem_cons.mp hst
  obtain ⟨h2, hst⟩ := List.forall_mem_cons.mp hst
  have hat : (wn base n ev)[q]? = some (base + q, .inl (dA 1, N, .inr (.inl f))) := by rw [wn_at hq, he]
  have hin' := ix_in h1 hi
  refine W.last hx hb (hP q _ hat) ((hK.2 1 (dA 1, .long) rfl).1 N (fun j => .long (f j))) (fun q => by cases q) (by show ¬ (_ ∨ (arrV _ _ _).slots.size ≤ _); rw [arrV_size]; exact hin') rfl rfl hd fun H1 e1 e2 e3 => ?_
  have hP' := hP.set (e := .inl (dA 1, N, .inr (.inl (vp_updL f i.toNat (Int64.ofInt x))))) wn_D hat (by
    show H1[base + q]? = some (vp_cell _ _)
    rw [e1, vp_cell_l, vp_cell_l, arrV_store, ix_cl h1]
    congr 2
    funext y
    by_cases hy : y = i.toNat
    · subst hy; simp [updV, vp_updL]
    · simp [updV, vp_updL, hy]) e3
  rw [wn_set hq] at hP'
  exact kk p e s m args below meth c ok H1 _ ls (e2.trans hz) hP' (hS.put e2 e3 (by show base ≤ base + q; omega)) hl hst
/-- a call of a String's method, out of a constructor -/
theorem m_str {y : MethodName} {cc' : ByteArray} {nL' rt' d' n'' idx : Nat} {as : List Pv} {r1 : Int} (hm : MW y cc' nL' rt' n'' false) (hl' : LK own idx y) (hy : y.cls = "java/lang/String") (hc : MC l [] (fun _ _ => 0) y cc' nL' rt' d' (.inr (.inr 9999) :: as) (fun _ _ => 0) (some (r1, fun _ _ => 0))) (hd' : d' < d) (hn : as.length = n'') (has : ∀ ad ad' : Nat → Nat, as.map (en_v ad) = as.map (en_v ad')) (hcs : cs ≤ mc) (hsl : sl ≤ ms) (hsw : stw st ≤ 8) (hd : decode cc pc = .ok (.invokevirtual idx, 3)) (kk : GN l D dA a1 a2 own cc nL d base (pc + 3) lv (rpv rt' r1 ++ st) n ev cs sl Qc mc ms)
    {p : Program} {e : Env} {s : State} {m : MethodId} {args : Array Value} {below : List Frame} {meth : Method} {c : Code} (ok : OKN own cc nL p s m meth c D dA a1 a2 base) {H : Heap} {locs : List Loc} {ls : Array Slot} (hz : H.size = base + n) (hP : va_P D vwCl (wn base n ev) H) (hS : va_S (fun q => base ≤ q) s.heap H locs) (hl : LR (fun z => base + z) nL lv ls) (hst1' : ∀ v ∈ as, cn_v v) (hst2 : ∀ v ∈ st, cn_v v) :
    W p l e (rmn d mc ms) s m args below meth c H locs cs sl (MQ below Qc args s mc ms (fun q => base ≤ q)) (F0 m pc ls ((as.map (en_v (fun z => base + z))).reverse ++ .ref a1 :: st.map (en_v (fun z => base + z)))) := by
  obtain ⟨hx, hb, hml, hown, hT, hK, hr, hlk, hin, hs, hao⟩ := id ok
  have hst1 : ∀ v ∈ (.inr (.inr 9999) :: as : List Pv), cn_v v := cn_c trivial hst1'
  obtain ⟨m1, m2, m3, m4, m5⟩ := hm
  rw [if_neg (by decide)] at m5
  have hM := met_sz (hc (adS base a1 a2) D dA r1 _ rfl)
  have hSx : ∀ U : State, s.WarmedH U.vm → U.heap = H → SS (adS base a1 a2) (Ad [] (adS base a1 a2)) U := fun U hW hU =>
    (hs.moved hW (fun a h1 h2 => by rw [hU]; exact hS.2.1 a h1 h2)).narrow (adS_1.trans adS_1.symm) (adS_2.trans adS_2.symm) (fun z h => absurd h no_ad)
  have hpre : PreV s H y.cls a1 (va_Pc ((.inr (.inr 9999) :: as : List Pv).map (en_v (adS base a1 a2))) (BB [] (fun _ _ => 0) (adS base a1 a2) D dA (.inr (.inr 9999) :: as) (fun _ _ => 0))) (as.map (en_v (adS base a1 a2))) := by
    refine ⟨BB.blind, ?_, fun U hU hW => ⟨?_, fun k x hx => absurd hx (no_ws k x), ⟨fun i j x y hx => absurd hx (no_ws i x), fun k q hq => absurd hq (no_ws k q)⟩, va_K.moved hW.alike hK, hT.warm hW, hSx U hW hU, (fun o κ h => by simp at h), hst1⟩⟩
    · have h : ∃ cell : Cell, H[adS base a1 a2 9999]? = some cell ∧ cell.vm.isStatics = false ∧ s.vm.findClass "java/lang/String" = some cell.cls := vk_recv hs.2.1 (i := 0) (by decide) hS
      rw [adS_1] at h
      rw [hy]
      exact h
    · show (Value.ref a1 :: _).toArray = (Value.ref (adS base a1 a2 9999) :: _).toArray
      rw [adS_1]
  have hws : ∀ w ∈ [Cond.code y cc' nL' (rty rt')], ∀ (a' : Array Value) (U : State), s.WarmedH U.vm → w.before a' U = true := by
    intro w hw a' U hW
    rw [List.mem_singleton.mp hw]
    exact (hT.warm hW).hts _ m1
  have hroom : (rmd d').frames + 1 ≤ (rmn d mc ms).frames ∧ 8 + (nL' + 11) + (rmd d').locals ≤ (rmn d mc ms).locals := by
    refine ⟨hd', ?_⟩
    show 8 + (nL' + 11) + 64 * d' ≤ 64 * d
    omega
  have hlen : ∀ sig, parseMethodDescriptor y.desc = some sig → n'' = sig.parameters.length := fun sig h => by
    have h2 := m3.2.2
    rw [h] at h2
    exact (Option.some.inj h2).symm
  have hstack : (as.map (en_v (fun z => base + z))).reverse ++ .ref a1 :: st.map (en_v (fun z => base + z)) = (as.map (en_v (adS base a1 a2))).reverse ++ .ref a1 :: st.map (en_v (fun z => base + z)) := by rw [has (fun z => base + z) (adS base a1 a2)]
  have hgo : va_Run p l e (rmn d mc ms) s m args below meth c H locs cs sl 0 0 (F0 m pc ls ((as.map (en_v (fun z => base + z))).reverse ++ .ref a1 :: st.map (en_v (fun z => base + z)))) (st.map (en_v (fun z => base + z))) ((fun a st o t => QQ [] (fun _ _ => 0) (adS base a1 a2) D dA rt' r1 (fun _ _ => 0) a st o t ∧ t.heap.size ≤ st.heap.size) (Value.ref a1 :: as.map (en_v (adS base a1 a2))).toArray) (Ad [] (adS base a1 a2)) := by
    rcases hl' with h | ⟨host, h⟩
    · exact va_runV (Ts := tbf) ⟨hx, hb, hml, hown, hT.hts⟩ hM ⟨⟨rfl, rfl, hroom.1, hroom.2, hws, List.mem_singleton.mpr rfl, hT.hts _ m1, hT.hts _ m2, ⟨m3.1, m3.2.1⟩, hlen, hT.hts _ h⟩, hT.hts _ m5.1, hT.hts _ m5.2⟩ hpre rfl (by simpa using hn) hl.1.1 hstack (lv_room (by rw [en_stw]; exact hsw)) hd ⟨hcs, hsl⟩
    · exact va_runVN (Ts := tbf) ⟨hx, hb, hml, hown, hT.hts⟩ hM ⟨⟨⟨rfl, rfl, hroom.1, hroom.2, hws, List.mem_singleton.mpr rfl⟩, hT.hts _ m1, hT.hts _ m2, ⟨m3.1, m3.2.1⟩, hlen, hT.hts _ h⟩, hT.hts _ m5.1, hT.hts _ m5.2⟩ hpre rfl (by simpa using hn) hl.1.1 hstack (lv_room (by rw [en_stw]; exact hsw)) hd ⟨hcs, hsl⟩
  intro T0 hT0 X
  obtain ⟨v, st₀, t, T', L, g0, X', hL, e1, e2, ⟨⟨⟨hv, hcr, hcn1, hpp⟩, hzz, hkk⟩, hsz⟩, stp⟩ := hgo T0 hT0 X
  cases hv
  rw [g0] at hzz hkk hsz
  have hkk' : ∀ q, q < H.size → T'.heap[q]? = H[q]? := fun q hq => by rw [e1]; exact hkk q hq no_ad
  have hz1 : T'.heap.size = base + n := by rw [e1]; omega
  obtain ⟨t2, b1, b2⟩ := kk p e s m args below meth c ok T'.heap (locs ++ L) ls hz1 (hP.kept (fun k x hx => hkk' x.1 (hP k x hx).lt))
    ⟨Nat.le_trans hS.1 (by rw [e1]; exact hzz), fun z h1 h2 => (hkk' z (Nat.lt_of_lt_of_le h1 hS.1)).trans (hS.2.1 z h1 h2), fun z hz => by
      rcases List.mem_append.mp hz with h | h
      · exact hS.2.2 z h
      · exact absurd (hL z h) no_ad⟩ hl (cn_rp hcr hst2) T' rfl X'
  rw [← rv_rp] at b1
  exact ⟨t2, stp t2 b1, b2⟩
/-- a call of a static method that looks at no cell, out of a constructor -/
theorem m_stat {y : MethodName} {cc' : ByteArray} {nL' rt' d' n'' idx : Nat} {as stk : List Pv} {r1 : Int} (hm : MW y cc' nL' rt' n'' true) (hl' : LK own idx y) (hc : MC l [] (fun _ _ => 0) y cc' nL' rt' d' as (fun _ _ => 0) (some (r1, fun _ _ => 0))) (hd' : d' < d) (hn : as.length = n'') (has : ∀ ad ad' : Nat → Nat, as.map (en_v ad) = as.map (en_v ad')) (hcs : cs ≤ mc) (hsl : sl ≤ ms) (hsw : stw st ≤ 8) (hstk : stk = as.reverse ++ st) (hd : decode cc pc = .ok (.invokestatic idx, 3)) (kk : GN l D dA a1 a2 own cc nL d base (pc + 3) lv (rpv rt' r1 ++ st) n ev cs sl Qc mc ms) : GN l D dA a1 a2 own cc nL d base pc lv stk n ev cs sl Qc mc ms := by
  intro p e s m args below meth c ok H locs ls hz hP hS hl hst
  obtain ⟨hx, hb, hml, hown, hT, hK, hr, hlk, hin, hs, hao⟩ := id ok
  subst hstk
  have hst1 : ∀ v ∈ as, cn_v v := fun v hv => hst v (List.mem_append_left _ (List.mem_reverse.mpr hv))
  have hst2 : ∀ v ∈ st, cn_v v := fun v hv => hst v (List.mem_append_right _ hv)
  obtain ⟨m1, m2, m3, m4, m5⟩ := hm
  rw [if_pos rfl] at m5
  have hM := met_sz (hc (adS base a1 a2) D dA r1 _ rfl)
  have hSx : ∀ U : State, s.WarmedH U.vm → U.heap = H → SS (adS base a1 a2) (Ad [] (adS base a1 a2)) U := fun U hW hU =>
    (hs.moved hW (fun a h1 h2 => by rw [hU]; exact hS.2.1 a h1 h2)).narrow (adS_1.trans adS_1.symm) (adS_2.trans adS_2.symm) (fun z h => absurd h no_ad)
  have hpre : PreS s H (va_Pc (as.map (en_v (adS base a1 a2))) (BB [] (fun _ _ => 0) (adS base a1 a2) D dA as (fun _ _ => 0))) (as.map (en_v (adS base a1 a2))) :=
    ⟨BB.blind, fun U hU hW => ⟨rfl, fun k x hx => absurd hx (no_ws k x), ⟨fun i j x y hx => absurd hx (no_ws i x), fun k q hq => absurd hq (no_ws k q)⟩, va_K.moved hW.alike hK, hT.warm hW, hSx U hW hU, (fun o κ h => by simp at h), hst1⟩⟩
  have hws : ∀ w ∈ [Cond.code y cc' nL' (rty rt')], ∀ (a' : Array Value) (U : State), s.WarmedH U.vm → w.before a' U = true := by
    intro w hw a' U hW
    rw [List.mem_singleton.mp hw]
    exact (hT.warm hW).hts _ m1
  have hroom : (rmd d').frames + 1 ≤ (rmn d mc ms).frames ∧ 8 + (nL' + 11) + (rmd d').locals ≤ (rmn d mc ms).locals := by
    refine ⟨hd', ?_⟩
    show 8 + (nL' + 11) + 64 * d' ≤ 64 * d
    omega
  have hlen : ∀ sig, parseMethodDescriptor y.desc = some sig → n'' = sig.parameters.length := fun sig h => by
    have h2 := m3.2.2
    rw [h] at h2
    exact (Option.some.inj h2).symm
  have hstack : ((as.reverse ++ st).map (en_v (fun z => base + z))) = (as.map (en_v (adS base a1 a2))).reverse ++ st.map (en_v (fun z => base + z)) := by rw [List.map_append, List.map_reverse, has (fun z => base + z) (adS base a1 a2)]
  have hgo : va_Run p l e (rmn d mc ms) s m args below meth c H locs cs sl 0 0 (F0 m pc ls ((as.reverse ++ st).map (en_v (fun z => base + z)))) (st.map (en_v (fun z => base + z))) ((fun a st o t => QQ [] (fun _ _ => 0) (adS base a1 a2) D dA rt' r1 (fun _ _ => 0) a st o t ∧ t.heap.size ≤ st.heap.size) (as.map (en_v (adS base a1 a2))).toArray) (Ad [] (adS base a1 a2)) := by
    rcases hl' with h | ⟨host, h⟩
    · exact va_runS (Ts := tbf) ⟨hx, hb, hml, hown, hT.hts⟩ hM ⟨⟨rfl, rfl, hroom.1, hroom.2, hws, List.mem_singleton.mpr rfl, hT.hts _ m1, hT.hts _ m2, ⟨m3.1, m3.2.1⟩, hlen, hT.hts _ h⟩, hT.hts _ m5⟩ hpre rfl (by simpa using hn) hl.1.1 hstack (lv_room (by rw [en_stw]; exact hsw)) hd ⟨hcs, hsl⟩
    · exact va_runSN (Ts := tbf) ⟨hx, hb, hml, hown, hT.hts⟩ hM ⟨⟨⟨rfl, rfl, hroom.1, hroom.2, hws, List.mem_singleton.mpr rfl⟩, hT.hts _ m1, hT.hts _ m2, ⟨m3.1, m3.2.1⟩, hlen, hT.hts _ h⟩, hT.hts _ m5, trivial⟩ hpre rfl (by simpa using hn) hl.1.1 hstack (lv_room (by rw [en_stw]; exact hsw)) hd ⟨hcs, hsl⟩
  intro T0 hT0 X
  obtain ⟨v, st₀, t, T', L, g0, X', hL, e1, e2, ⟨⟨⟨hv, hcr, hcn1, hpp⟩, hzz, hkk⟩, hsz⟩, stp⟩ := hgo T0 hT0 X
  cases hv
  rw [g0] at hzz hkk hsz
  have hkk' : ∀ q, q < H.size → T'.heap[q]? = H[q]? := fun q hq => by rw [e1]; exact hkk q hq no_ad
  have hz1 : T'.heap.size = base + n := by rw [e1]; omega
  obtain ⟨t2, b1, b2⟩ := kk p e s m args below meth c ok T'.heap (locs ++ L) ls hz1 (hP.kept (fun k x hx => hkk' x.1 (hP k x hx).lt))
    ⟨Nat.le_trans hS.1 (by rw [e1]; exact hzz), fun z h1 h2 => (hkk' z (Nat.lt_of_lt_of_le h1 hS.1)).trans (hS.2.1 z h1 h2), fun z hz => by
      rcases List.mem_append.mp hz with h | h
      · exact hS.2.2 z h
      · exact absurd (hL z h) no_ad⟩ hl (cn_rp hcr hst2) T' rfl X'
  rw [← rv_rp] at b1
  exact ⟨t2, stp t2 b1, b2⟩
/-- the String constant and its length -/
theorem m_len (hd : decode cc pc = .ok (.ldc 26, 2)) (hd2 : decode cc (pc + 2) = .ok (.invokevirtual 28, 3)) (hd' : 2 < d) (hcs : cs ≤ mc) (hsl : sl ≤ ms) (hsw : stw st ≤ 8) (kk : GN l D dA a1 a2 RX7 cc nL d base (pc + 2 + 3) lv (.inl 131 :: st) n ev cs sl Qc mc ms) : GN l D dA a1 a2 RX7 cc nL d base pc lv st n ev cs sl Qc mc ms := by
  intro p e s m args below meth c ok H locs ls hz hP hS hl hst
  obtain ⟨hx, hb, hml, hown, hT, hK, hr, hlk, hin, hs, hao⟩ := id ok
  have h1 := hs.1
  rw [adS_1] at h1
  exact va_ldcS hx hb hown h1 hd (m_str (as := []) mw_J0_length_8abf5 lk_RX7_28 rfl ok_slen hd' rfl (fun _ _ => rfl) hcs hsl hsw hd2 kk ok hz hP hS hl (fun _ h => by cases h) hst)
/-- the String constant, a number out of the locals, the sign there -/
theorem m_chr {i : Nat} {x : Int} (hx' : 0 ≤ x ∧ x < 131) (hd : decode cc pc = .ok (.ldc 26, 2)) (hd1 : decode cc (pc + 2) = .ok (.iload i, 2)) (hi : lv[i]? = some (some (.inl x))) (hd2 : decode cc (pc + 2 + 2) = .ok (.invokevirtual 34, 3)) (hd' : 4 < d) (hcs : cs ≤ mc) (hsl : sl ≤ ms) (hsw : stw st ≤ 8) (kk : GN l D dA a1 a2 RX7 cc nL d base (pc + 2 + 2 + 3) lv (.inl (ks_c x.toNat) :: st) n ev cs sl Qc mc ms) : GN l D dA a1 a2 RX7 cc nL d base pc lv st n ev cs sl Qc mc ms := by
  intro p e s m args below meth c ok H locs ls hz hP hS hl hst
  obtain ⟨hx, hb, hml, hown, hT, hK, hr, hlk, hin, hs, hao⟩ := id ok
  have h1 := hs.1
  rw [adS_1] at h1
  have hsc := ok_sch (l := l) (K := []) (P := fun _ _ => 0) (σ := fun _ _ => 0) (i := x)
  rw [if_pos hx'] at hsc
  refine va_ldcS hx hb hown h1 hd (lv_iload hx hb hd1 (hl.at_ hi) ?_)
  exact m_str (as := [.inl x]) mw_J0_charAt_5068e lk_RX7_34 rfl hsc hd' rfl (fun _ _ => rfl) hcs hsl hsw hd2 kk ok hz hP hS hl (cn_c (hl.cn hi) (fun _ h => by cases h)) hst
end KL
