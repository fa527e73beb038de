/-! the law: two worlds, the script -/
def R_law : String := "HairProvinceLaw"
def lw_P (b : Addr) (xs : List Int32) (args : Array Value) (s : State) : Prop := args = #[.ref b] ∧ s.IntsAt b xs ∧ xs.length ≤ 3072 ∧ (Jvm.Cond.and given_1 narrow_1).before args s = true
def lw_Q (_ : Array Value) (s : State) (o : Outcome) (t : State) : Prop := o = .returned (some (.int 1)) ∧ Framed s o t [] 600000 7302250
def lw_Z (below : List Frame) (a : Array Value) (s : State) : State → Prop := fun t => ∃ o, t.status = .running ∧ Ended t below o ∧ lw_Q a s o t
/-- the law's own end, with 1 on the stack, nothing written that was there before, its room as the claim has it -/
theorem lw_ret {p : Program} {l : Launch} {e : Env} {s : State} {m : MethodId} {below : List Frame} {meth : Method} {c : Code} {b : Nat} (hx : p.tables.exec = Jvm.exec) (hb : c.code = code) (hr : meth.sig.returnType = ret) (hlocks : meth.locks = false) {pc : Nat} {H : Heap} {ls : Array Slot} (hdg : decode code pc = .ok (.ireturn, 1)) : W p l e room_1 s m #[Value.ref b] below meth c H [] 600000 7302250 (lw_Z below #[Value.ref b] s) (F0 m pc ls [.int 1]) := by
  intro T hT X
  obtain ⟨fs, hret, hrun, hended, hW, hframe⟩ := X.leave (v := some (.int 1)) (hlocks := hlocks) (fun h => by rw [hr] at h; cases h)
  have hmeth' : T.vm.method? m = some meth := X.method'
  refine ⟨T.setFrames fs, ?_, .returned (some (.int 1)), hrun, hended, rfl, ⟨_, rfl⟩, hW, hframe⟩
  jvm_step X.here [X.here.top, hx, hb, hdg, hmeth', hr, ret, narrow_b1]
  (try refine ⟨rfl, ?_⟩); (try refine ⟨rfl, ?_⟩)
  first | (intro acts; rw [hret _ acts rfl rfl rfl]) | rw [hret _ _ rfl rfl rfl]
  exact Steps.refl _
/-- what holds at the law's entry: the machine, the code, the tables' words (any of lw_tbl by 'hts w (by decide +kernel)'), the script of L ints xs at the cell b, what the Statement gives of the start (any of its parts by flat_of_before) -/
def lw_At (p : Program) (s : State) (m : MethodId) (meth : Method) (c : Code) (b L : Nat) (xs : Nat → Int32) : Prop :=
  p.tables.exec = Jvm.exec ∧ c.code = code ∧ meth.sig.returnType = ret ∧ c.maxLocals = 4 ∧ s.vm.findClass R_law = some m.cls ∧ (∀ w ∈ lw_tbl, w.before #[Value.ref b] s = true) ∧ va_X b L xs s s.heap ∧ b < s.heap.size ∧ meth.locks = false ∧ (Jvm.Cond.and given_1 narrow_1).before #[Value.ref b] s = true
def adL (b B1 B2 : Nat) : Nat → Nat := fun q => if q = 0 then b else if q = 1 then B1 else B2
def OKL (p : Program) (s : State) (m : MethodId) (meth : Method) (c : Code) (L : Nat) (xs : Nat → Int32) (b B1 B2 a1 a2 : Nat) (D : va_G) (dA : Nat → ClassId) : Prop :=
  lw_At p s m meth c b L xs ∧ TB s ∧ va_K D vwCl (tyl dA) s ∧ SS (adS B1 a1 a2) (fun q => s.heap.size ≤ q) s ∧ s.heap.size ≤ B1 ∧ B1 + 114 ≤ B2
def LI (s : State) (B1 B2 a1 a2 : Nat) (D : va_G) (dA : Nat → ClassId) (σ τ : Sg) (H : Heap) (locs : List Loc) : Prop :=
  va_P D vwCl (ws_l Kh Ph (adX B1 a1 a2) dA σ) H ∧ va_P D vwCl (ws_l Km Pm (adS B2 a1 a2) dA τ) H ∧ cn_s Kh σ ∧ cn_s Km τ ∧ va_S (fun q => s.heap.size ≤ q) s.heap H locs
def GL (l : Launch) (L : Nat) (xs : Nat → Int32) (pc : Nat) (lv : List (Option Pv)) (st : List Pv) (σ τ : Sg) : Prop :=
  ∀ (p : Program) (e : Env) (s : State) (m : MethodId) (below : List Frame) (meth : Method) (c : Code) (b B1 B2 a1 a2 : Nat) (D : va_G) (dA : Nat → ClassId), OKL p s m meth c L xs b B1 B2 a1 a2 D dA →
    ∀ (H : Heap) (locs : List Loc) (ls : Array Slot), LI s B1 B2 a1 a2 D dA σ τ H locs → LR (adL b B1 B2) 4 lv ls → (∀ v ∈ st, cn_v v) →
    W p l e room_1 s m #[Value.ref b] below meth c H locs 600000 7302250 (lw_Z below #[Value.ref b] s) (F0 m pc ls (st.map (en_v (adL b B1 B2))))
section GLR
variable {l : Launch} {L : Nat} {xs : Nat → Int32} {pc : Nat} {lv : List (Option Pv)} {st : List Pv} {σ τ : Sg}
theorem l_iload_n {k : Fin 4} {i : Nat} {x : Int} (hd : decode code pc = .ok (.iload_n k, 1)) (hk : (k : Nat) = i) (hi : lv[i]? = some (some (.inl x))) (kk : GL l L xs (pc + 1) lv (.inl x :: st) σ τ) : GL l L xs pc lv st σ τ := by
  intro p e s m below meth c b B1 B2 a1 a2 D dA ok H locs ls hin hl hst
  obtain ⟨hC0, hT, hK, hS0, hB1, hB2⟩ := id ok
  obtain ⟨hx, hb, hr, hml, hown, hts0, hX, hbl, hlocks, hgv⟩ := id hC0
  exact lv_iload_n hx hb hd hk (hl.at_ hi) (kk p e s m below meth c b B1 B2 a1 a2 D dA ok H locs ls hin hl (cn_c (hl.cn hi) hst))
theorem l_aload_n {k : Fin 4} {i : Nat} {x : Nat} (hd : decode code pc = .ok (.aload_n k, 1)) (hk : (k : Nat) = i) (hi : lv[i]? = some (some (.inr (.inr x)))) (kk : GL l L xs (pc + 1) lv (.inr (.inr x) :: st) σ τ) : GL l L xs pc lv st σ τ := by
  intro p e s m below meth c b B1 B2 a1 a2 D dA ok H locs ls hin hl hst
  obtain ⟨hC0, hT, hK, hS0, hB1, hB2⟩ := id ok
  obtain ⟨hx, hb, hr, hml, hown, hts0, hX, hbl, hlocks, hgv⟩ := id hC0
  exact lv_aload_n hx hb hd hk (hl.at_ hi) (kk p e s m below meth c b B1 B2 a1 a2 D dA ok H locs ls hin hl (cn_c (hl.cn hi) hst))
theorem l_iconst {n : Int} (hd : decode code pc = .ok (.iconst n, 1)) (hn : -2147483648 ≤ n ∧ n < 2147483648) (kk : GL l L xs (pc + 1) lv (.inl n :: st) σ τ) : GL l L xs pc lv st σ τ := by
  intro p e s m below meth c b B1 B2 a1 a2 D dA ok H locs ls hin hl hst
  obtain ⟨hC0, hT, hK, hS0, hB1, hB2⟩ := id ok
  obtain ⟨hx, hb, hr, hml, hown, hts0, hX, hbl, hlocks, hgv⟩ := id hC0
  exact lv_iconst hx hb hd rfl (kk p e s m below meth c b B1 B2 a1 a2 D dA ok H locs ls hin hl (cn_c hn hst))
theorem l_bipush {n : Int} (hd : decode code pc = .ok (.bipush n, 2)) (hn : (-128 ≤ n ∧ n < 128) ∧ (Int8.ofInt n).toInt32 = Int32.ofInt n) (kk : GL l L xs (pc + 2) lv (.inl n :: st) σ τ) : GL l L xs pc lv st σ τ := by
  intro p e s m below meth c b B1 B2 a1 a2 D dA ok H locs ls hin hl hst
  obtain ⟨hC0, hT, hK, hS0, hB1, hB2⟩ := id ok
  obtain ⟨hx, hb, hr, hml, hown, hts0, hX, hbl, hlocks, hgv⟩ := id hC0
  exact lv_bipush hx hb hd hn.2 (kk p e s m below meth c b B1 B2 a1 a2 D dA ok H locs ls hin hl (cn_c (show c32 n by unfold c32; omega) hst))
theorem l_ldc2 {idx : Nat} {n : Int} (hw : Cond.constantLong R_law idx (Int64.ofInt n) ∈ tbf) (hn : -9223372036854775808 ≤ n ∧ n < 9223372036854775808) (hd : decode code pc = .ok (.ldc2_w idx, 3)) (kk : GL l L xs (pc + 3) lv (.inr (.inl n) :: st) σ τ) : GL l L xs pc lv st σ τ := by
  intro p e s m below meth c b B1 B2 a1 a2 D dA ok H locs ls hin hl hst
  obtain ⟨hC0, hT, hK, hS0, hB1, hB2⟩ := id ok
  obtain ⟨hx, hb, hr, hml, hown, hts0, hX, hbl, hlocks, hgv⟩ := id hC0
  exact lv_ldc2 hx hb hown (hT.hts _ hw) hd (kk p e s m below meth c b B1 B2 a1 a2 D dA ok H locs ls hin hl (cn_c hn hst))
theorem l_i2l {x : Int} (hd : decode code pc = .ok (.i2l, 1)) (kk : GL l L xs (pc + 1) lv (.inr (.inl x) :: st) σ τ) : GL l L xs pc lv (.inl x :: st) σ τ := by
  intro p e s m below meth c b B1 B2 a1 a2 D dA ok H locs ls hin hl hst
  obtain ⟨hC0, hT, hK, hS0, hB1, hB2⟩ := id ok
  obtain ⟨hx, hb, hr, hml, hown, hts0, hX, hbl, hlocks, hgv⟩ := id hC0
  obtain ⟨h0, hst⟩ := List.forall_mem_cons.mp hst
  exact lv_i2l hx hb hd (i32_l h0) (kk p e s m below meth c b B1 B2 a1 a2 D dA ok H locs ls hin hl (cn_c (c32_64 h0) hst))
theorem l_iadd {x y z : Int} (hd : decode code pc = .ok (.iadd, 1)) (hz : w32 (x + y) = z) (kk : GL l L xs (pc + 1) lv (.inl z :: st) σ τ) : GL l L xs pc lv (.inl y :: .inl x :: st) σ τ := by
  intro p e s m below meth c b B1 B2 a1 a2 D dA ok H locs ls hin hl hst
  obtain ⟨hC0, hT, hK, hS0, hB1, hB2⟩ := id ok
  obtain ⟨hx, hb, hr, hml, hown, hts0, hX, hbl, hlocks, hgv⟩ := id hC0
  obtain ⟨h0, hst⟩ := List.forall_mem_cons.mp hst
  obtain ⟨h1, hst⟩ := List.forall_mem_cons.mp hst
  subst hz
  refine lv_iadd hx hb hd ?_
  rw [← i32_add]
  exact kk p e s m below meth c b B1 B2 a1 a2 D dA ok H locs ls hin hl (cn_c (w32_c _) hst)
theorem l_isub {x y z : Int} (hd : decode code pc = .ok (.isub, 1)) (hz : w32 (x - y) = z) (kk : GL l L xs (pc + 1) lv (.inl z :: st) σ τ) : GL l L xs pc lv (.inl y :: .inl x :: st) σ τ := by
  intro p e s m below meth c b B1 B2 a1 a2 D dA ok H locs ls hin hl hst
  obtain ⟨hC0, hT, hK, hS0, hB1, hB2⟩ := id ok
  obtain ⟨hx, hb, hr, hml, hown, hts0, hX, hbl, hlocks, hgv⟩ := id hC0
  obtain ⟨h0, hst⟩ := List.forall_mem_cons.mp hst
  obtain ⟨h1, hst⟩ := List.forall_mem_cons.mp hst
  subst hz
  refine lv_isub hx hb hd ?_
  rw [← i32_sub]
  exact kk p e s m below meth c b B1 B2 a1 a2 D dA ok H locs ls hin hl (cn_c (w32_c _) hst)
theorem l_iand {x y : Int} (hd : decode code pc = .ok (.iand, 1)) (kk : GL l L xs (pc + 1) lv (.inl (an32 x y) :: st) σ τ) : GL l L xs pc lv (.inl y :: .inl x :: st) σ τ := by
  intro p e s m below meth c b B1 B2 a1 a2 D dA ok H locs ls hin hl hst
  obtain ⟨hC0, hT, hK, hS0, hB1, hB2⟩ := id ok
  obtain ⟨hx, hb, hr, hml, hown, hts0, hX, hbl, hlocks, hgv⟩ := id hC0
  obtain ⟨h0, hst⟩ := List.forall_mem_cons.mp hst
  obtain ⟨h1, hst⟩ := List.forall_mem_cons.mp hst
  refine lv_iand hx hb hd ?_
  rw [show Int32.ofInt x &&& Int32.ofInt y = Int32.ofInt (an32 x y) from (Int32.ofInt_toInt _).symm]
  exact kk p e s m below meth c b B1 B2 a1 a2 D dA ok H locs ls hin hl (cn_c (i32_c _) hst)
theorem l_land {x y : Int} (hd : decode code pc = .ok (.land, 1)) (kk : GL l L xs (pc + 1) lv (.inr (.inl (an64 x y)) :: st) σ τ) : GL l L xs pc lv (.inr (.inl y) :: .inr (.inl x) :: st) σ τ := by
  intro p e s m below meth c b B1 B2 a1 a2 D dA ok H locs ls hin hl hst
  obtain ⟨hC0, hT, hK, hS0, hB1, hB2⟩ := id ok
  obtain ⟨hx, hb, hr, hml, hown, hts0, hX, hbl, hlocks, hgv⟩ := id hC0
  obtain ⟨h0, hst⟩ := List.forall_mem_cons.mp hst
  obtain ⟨h1, hst⟩ := List.forall_mem_cons.mp hst
  refine lv_land hx hb hd ?_
  rw [show Int64.ofInt x &&& Int64.ofInt y = Int64.ofInt (an64 x y) from (Int64.ofInt_toInt _).symm]
  exact kk p e s m below meth c b B1 B2 a1 a2 D dA ok H locs ls hin hl (cn_c (i64_c _) hst)
theorem l_lor {x y : Int} (hd : decode code pc = .ok (.lor, 1)) (kk : GL l L xs (pc + 1) lv (.inr (.inl (or64 x y)) :: st) σ τ) : GL l L xs pc lv (.inr (.inl y) :: .inr (.inl x) :: st) σ τ := by
  intro p e s m below meth c b B1 B2 a1 a2 D dA ok H locs ls hin hl hst
  obtain ⟨hC0, hT, hK, hS0, hB1, hB2⟩ := id ok
  obtain ⟨hx, hb, hr, hml, hown, hts0, hX, hbl, hlocks, hgv⟩ := id hC0
  obtain ⟨h0, hst⟩ := List.forall_mem_cons.mp hst
  obtain ⟨h1, hst⟩ := List.forall_mem_cons.mp hst
  refine lv_lor hx hb hd ?_
  rw [show Int64.ofInt x ||| Int64.ofInt y = Int64.ofInt (or64 x y) from (Int64.ofInt_toInt _).symm]
  exact kk p e s m below meth c b B1 B2 a1 a2 D dA ok H locs ls hin hl (cn_c (i64_c _) hst)
theorem l_lshl {x y : Int} (hd : decode code pc = .ok (.lshl, 1)) (kk : GL l L xs (pc + 1) lv (.inr (.inl (sl64 x y)) :: st) σ τ) : GL l L xs pc lv (.inl y :: .inr (.inl x) :: st) σ τ := by
  intro p e s m below meth c b B1 B2 a1 a2 D dA ok H locs ls hin hl hst
  obtain ⟨hC0, hT, hK, hS0, hB1, hB2⟩ := id ok
  obtain ⟨hx, hb, hr, hml, hown, hts0, hX, hbl, hlocks, hgv⟩ := id hC0
  obtain ⟨h0, hst⟩ := List.forall_mem_cons.mp hst
  obtain ⟨h1, hst⟩ := List.forall_mem_cons.mp hst
  exact lv_lshl hx hb hd (Int64.ofInt_toInt _).symm (kk p e s m below meth c b B1 B2 a1 a2 D dA ok H locs ls hin hl (cn_c (i64_c _) hst))
theorem l_goto {off : Int} {tgt : Nat} (hd : decode code pc = .ok (.goto off, 3)) (ht : (pc : Int) + off = (tgt : Int)) (kk : GL l L xs tgt lv st σ τ) : GL l L xs pc lv st σ τ := by
  intro p e s m below meth c b B1 B2 a1 a2 D dA ok H locs ls hin hl hst
  obtain ⟨hC0, hT, hK, hS0, hB1, hB2⟩ := id ok
  obtain ⟨hx, hb, hr, hml, hown, hts0, hX, hbl, hlocks, hgv⟩ := id hC0
  exact lv_goto hx hb hd ht (kk p e s m below meth c b B1 B2 a1 a2 D dA ok H locs ls hin hl hst)
theorem l_istore_n {k : Fin 4} {i : Nat} {x : Int} {lv' : List (Option Pv)} (hd : decode code pc = .ok (.istore_n k, 1)) (hk : (k : Nat) = i) (hn : i < 4) (hl' : s1_l lv i (.inl x) = lv') (kk : GL l L xs (pc + 1) lv' st σ τ) : GL l L xs pc lv (.inl x :: st) σ τ := by
  intro p e s m below meth c b B1 B2 a1 a2 D dA ok H locs ls hin hl hst
  obtain ⟨hC0, hT, hK, hS0, hB1, hB2⟩ := id ok
  obtain ⟨hx, hb, hr, hml, hown, hts0, hX, hbl, hlocks, hgv⟩ := id hC0
  obtain ⟨h0, hst⟩ := List.forall_mem_cons.mp hst
  exact lv_istore_n hx hb hd hk hl.1 hn rfl (fun ls' hl2 => kk p e s m below meth c b B1 B2 a1 a2 D dA ok H locs ls' hin (hl' ▸ LR.s1 (w := .inl x) h0 hl.2 hl2) hst)
theorem l_iinc {i : Nat} {k x y : Int} {lv' : List (Option Pv)} (hd : decode code pc = .ok (.iinc i k, 3)) (hi : lv[i]? = some (some (.inl x))) (hn : i < 4) (hy : w32 (x + k) = y) (hl' : s1_l lv i (.inl y) = lv') (kk : GL l L xs (pc + 3) lv' st σ τ) : GL l L xs pc lv st σ τ := by
  intro p e s m below meth c b B1 B2 a1 a2 D dA ok H locs ls hin hl hst
  obtain ⟨hC0, hT, hK, hS0, hB1, hB2⟩ := id ok
  obtain ⟨hx, hb, hr, hml, hown, hts0, hX, hbl, hlocks, hgv⟩ := id hC0
  subst hy
  obtain ⟨j, hj⟩ := List.getElem?_of_mem (prs_mem.mpr ⟨i, .inl x, hi, rfl⟩ : ((0 + i, en_v (adL b B1 B2) (.inl x)) : Nat × Value) ∈ prs (adL b B1 B2) 0 lv)
  rw [Nat.zero_add] at hj
  exact lv_iinc (lv := prs (adL b B1 B2) 0 lv) (x := Int32.ofInt x) (v := Int32.ofInt (w32 (x + k))) hx hb hd hl.1 hj (by rw [i32_add]) hn rfl (fun ls' hl2 => kk p e s m below meth c b B1 B2 a1 a2 D dA ok H locs ls' hin (hl' ▸ LR.s1 (w := .inl (w32 (x + k))) (w32_c _) hl.2 hl2) hst)
theorem l_alen {n : Int} (hL : L ≤ 3072) (hn : n = (L : Int)) (hd : decode code pc = .ok (.arraylength, 1)) (kk : GL l L xs (pc + 1) lv (.inl n :: st) σ τ) : GL l L xs pc lv (.inr (.inr 0) :: st) σ τ := by
  intro p e s m below meth c b B1 B2 a1 a2 D dA ok H locs ls hin hl hst
  obtain ⟨hC0, hT, hK, hS0, hB1, hB2⟩ := id ok
  obtain ⟨hx, hb, hr, hml, hown, hts0, hX, hbl, hlocks, hgv⟩ := id hC0
  obtain ⟨h0, hst⟩ := List.forall_mem_cons.mp hst
  subst hn
  refine va_slen hx hb hX hbl (Nat.not_le.mpr hbl) hin.2.2.2.2 hd ?_
  rw [show Int32.ofNat L = Int32.ofInt (L : Int) from (Int32.ofInt_eq_ofNat ..).symm]
  exact kk p e s m below meth c b B1 B2 a1 a2 D dA ok H locs ls hin hl (cn_c (show c32 (L : Int) by unfold c32; omega) hst)
theorem l_sld {i : Int} (hi : 0 ≤ i ∧ i < (L : Int)) (hd : decode code pc = .ok (.iaload, 1)) (kk : GL l L xs (pc + 1) lv (.inl (xs i.toNat).toInt :: st) σ τ) : GL l L xs pc lv (.inl i :: .inr (.inr 0) :: st) σ τ := by
  intro p e s m below meth c b B1 B2 a1 a2 D dA ok H locs ls hin hl hst
  obtain ⟨hC0, hT, hK, hS0, hB1, hB2⟩ := id ok
  obtain ⟨hx, hb, hr, hml, hown, hts0, hX, hbl, hlocks, hgv⟩ := id hC0
  obtain ⟨h0, hst⟩ := List.forall_mem_cons.mp hst
  obtain ⟨h1, hst⟩ := List.forall_mem_cons.mp hst
  refine va_sld hx hb hX hbl (Nat.not_le.mpr hbl) hin.2.2.2.2 (ix_in h0 hi) hd ?_
  rw [ix_cl h0]
  have := kk p e s m below meth c b B1 B2 a1 a2 D dA ok H locs ls hin hl (cn_c (i32_c _) hst)
  rw [show (.inl (xs i.toNat).toInt :: st : List Pv).map (en_v (adL b B1 B2)) = .int (Int32.ofInt (xs i.toNat).toInt) :: st.map (en_v (adL b B1 B2)) from rfl, Int32.ofInt_toInt] at this
  exact this
theorem l_icmpgt_t {x y off : Int} {tgt : Nat} (hd : decode code pc = .ok (.if_icmp .gt off, 3)) (ht : (pc : Int) + off = (tgt : Int)) (h : y < x) (kk : GL l L xs tgt lv st σ τ) : GL l L xs pc lv (.inl y :: .inl x :: st) σ τ := by
  intro p e s m below meth c b B1 B2 a1 a2 D dA ok H locs ls hin hl hst
  obtain ⟨hC0, hT, hK, hS0, hB1, hB2⟩ := id ok
  obtain ⟨hx, hb, hr, hml, hown, hts0, hX, hbl, hlocks, hgv⟩ := id hC0
  obtain ⟨h0, hst⟩ := List.forall_mem_cons.mp hst
  obtain ⟨h1, hst⟩ := List.forall_mem_cons.mp hst
  exact lv_icmp_gt hx hb hd ht (fun _ => kk p e s m below meth c b B1 B2 a1 a2 D dA ok H locs ls hin hl hst) (fun q => absurd ((i32_lt h0 h1).mpr h) q)
theorem l_icmpgt_f {x y off : Int} {tgt : Nat} (hd : decode code pc = .ok (.if_icmp .gt off, 3)) (ht : (pc : Int) + off = (tgt : Int)) (h : ¬ y < x) (kk : GL l L xs (pc + 3) lv st σ τ) : GL l L xs pc lv (.inl y :: .inl x :: st) σ τ := by
  intro p e s m below meth c b B1 B2 a1 a2 D dA ok H locs ls hin hl hst
  obtain ⟨hC0, hT, hK, hS0, hB1, hB2⟩ := id ok
  obtain ⟨hx, hb, hr, hml, hown, hts0, hX, hbl, hlocks, hgv⟩ := id hC0
  obtain ⟨h0, hst⟩ := List.forall_mem_cons.mp hst
  obtain ⟨h1, hst⟩ := List.forall_mem_cons.mp hst
  exact lv_icmp_gt hx hb hd ht (fun q => absurd ((i32_lt h0 h1).mp q) h) (fun _ => kk p e s m below meth c b B1 B2 a1 a2 D dA ok H locs ls hin hl hst)
theorem l_icmpeq_t {x y off : Int} {tgt : Nat} (hd : decode code pc = .ok (.if_icmp .eq off, 3)) (ht : (pc : Int) + off = (tgt : Int)) (h : x = y) (kk : GL l L xs tgt lv st σ τ) : GL l L xs pc lv (.inl y :: .inl x :: st) σ τ := by
  intro p e s m below meth c b B1 B2 a1 a2 D dA ok H locs ls hin hl hst
  obtain ⟨hC0, hT, hK, hS0, hB1, hB2⟩ := id ok
  obtain ⟨hx, hb, hr, hml, hown, hts0, hX, hbl, hlocks, hgv⟩ := id hC0
  obtain ⟨h0, hst⟩ := List.forall_mem_cons.mp hst
  obtain ⟨h1, hst⟩ := List.forall_mem_cons.mp hst
  exact lv_icmp_eq hx hb hd ht (fun _ => kk p e s m below meth c b B1 B2 a1 a2 D dA ok H locs ls hin hl hst) (fun q => absurd (by rw [h]) q)
theorem l_lcmpeq_t {x y off : Int} {tgt : Nat} (hd : decode code pc = .ok (.lcmp, 1)) (hd2 : decode code (pc + 1) = .ok (.ifCond .eq off, 3)) (ht : ((pc + 1 : Nat) : Int) + off = (tgt : Int)) (h : x = y) (kk : GL l L xs tgt lv st σ τ) : GL l L xs pc lv (.inr (.inl y) :: .inr (.inl x) :: st) σ τ := by
  subst h
  intro p e s m below meth c b B1 B2 a1 a2 D dA ok H locs ls hin hl hst
  obtain ⟨hC0, hT, hK, hS0, hB1, hB2⟩ := id ok
  obtain ⟨hx, hb, hr, hml, hown, hts0, hX, hbl, hlocks, hgv⟩ := id hC0
  obtain ⟨h0, hst⟩ := List.forall_mem_cons.mp hst
  obtain ⟨h1, hst⟩ := List.forall_mem_cons.mp hst
  refine W.lcmp hx hb hd ?_
  rw [lg_c h1 h0, if_neg (by omega), if_pos rfl]
  exact lv_if_eq hx hb hd2 ht (fun _ => kk p e s m below meth c b B1 B2 a1 a2 D dA ok H locs ls hin hl hst) (fun q => absurd rfl q)
theorem l_ifeq_t {x off : Int} {tgt : Nat} (hd : decode code pc = .ok (.ifCond .eq off, 3)) (ht : (pc : Int) + off = (tgt : Int)) (h : x = 0) (kk : GL l L xs tgt lv st σ τ) : GL l L xs pc lv (.inl x :: st) σ τ := by
  subst h
  intro p e s m below meth c b B1 B2 a1 a2 D dA ok H locs ls hin hl hst
  obtain ⟨hC0, hT, hK, hS0, hB1, hB2⟩ := id ok
  obtain ⟨hx, hb, hr, hml, hown, hts0, hX, hbl, hlocks, hgv⟩ := id hC0
  obtain ⟨h0, hst⟩ := List.forall_mem_cons.mp hst
  exact lv_if_eq hx hb hd ht (fun _ => kk p e s m below meth c b B1 B2 a1 a2 D dA ok H locs ls hin hl hst) (fun q => absurd rfl q)
theorem l_ifeq_f {x off : Int} {tgt : Nat} (hd : decode code pc = .ok (.ifCond .eq off, 3)) (ht : (pc : Int) + off = (tgt : Int)) (h : ¬ x = 0) (kk : GL l L xs (pc + 3) lv st σ τ) : GL l L xs pc lv (.inl x :: st) σ τ := by
  intro p e s m below meth c b B1 B2 a1 a2 D dA ok H locs ls hin hl hst
  obtain ⟨hC0, hT, hK, hS0, hB1, hB2⟩ := id ok
  obtain ⟨hx, hb, hr, hml, hown, hts0, hX, hbl, hlocks, hgv⟩ := id hC0
  obtain ⟨h0, hst⟩ := List.forall_mem_cons.mp hst
  exact lv_if_eq hx hb hd ht (fun q => absurd ((i32_inj h0 c32_0).mp q) h) (fun _ => kk p e s m below meth c b B1 B2 a1 a2 D dA ok H locs ls hin hl hst)
theorem l_tin {x dflt lo hi off : Int} {offs : Array Int} {len tgt : Nat} (hd : decode code pc = .ok (.tableswitch dflt lo hi offs, len)) (h1 : ¬ x < lo) (h2 : ¬ hi < x) (ho : offs[(x - lo).toNat]? = some off) (ht : (pc : Int) + off = (tgt : Int)) (kk : GL l L xs tgt lv st σ τ) : GL l L xs pc lv (.inl x :: st) σ τ := by
  intro p e s m below meth c b B1 B2 a1 a2 D dA ok H locs ls hin hl hst
  obtain ⟨hC0, hT, hK, hS0, hB1, hB2⟩ := id ok
  obtain ⟨hx, hb, hr, hml, hown, hts0, hX, hbl, hlocks, hgv⟩ := id hC0
  obtain ⟨h0, hst⟩ := List.forall_mem_cons.mp hst
  exact lv_tableIn hx hb hd (by rw [i32_of h0]; exact h1) (by rw [i32_of h0]; exact h2) (off := off) (by rw [i32_of h0]; exact ho) ht (kk p e s m below meth c b B1 B2 a1 a2 D dA ok H locs ls hin hl hst)
theorem l_tout {x dflt lo hi : Int} {offs : Array Int} {len tgt : Nat} (hd : decode code pc = .ok (.tableswitch dflt lo hi offs, len)) (h : x < lo ∨ hi < x) (ht : (pc : Int) + dflt = (tgt : Int)) (kk : GL l L xs tgt lv st σ τ) : GL l L xs pc lv (.inl x :: st) σ τ := by
  intro p e s m below meth c b B1 B2 a1 a2 D dA ok H locs ls hin hl hst
  obtain ⟨hC0, hT, hK, hS0, hB1, hB2⟩ := id ok
  obtain ⟨hx, hb, hr, hml, hown, hts0, hX, hbl, hlocks, hgv⟩ := id hC0
  obtain ⟨h0, hst⟩ := List.forall_mem_cons.mp hst
  exact lv_tableOut hx hb hd (by rw [i32_of h0]; exact h) ht (kk p e s m below meth c b B1 B2 a1 a2 D dA ok H locs ls hin hl hst)
theorem l_ret (hd : decode code pc = .ok (.ireturn, 1)) : GL l L xs pc lv [.inl 1] σ τ := by
  intro p e s m below meth c b B1 B2 a1 a2 D dA ok H locs ls hin hl hst
  obtain ⟨hC0, hT, hK, hS0, hB1, hB2⟩ := id ok
  obtain ⟨hx, hb, hr, hml, hown, hts0, hX, hbl, hlocks, hgv⟩ := id hC0
  exact va_forget (fun q hq => hin.2.2.2.2.2.2 q hq) (lw_ret hx hb hr hlocks hd)
theorem l_callx {y : MethodName} {cc' : ByteArray} {nL' rt' d' n idx : Nat} {as stk : List Pv} {r1 : Int} {σ1 : Sg} {F : Rs} (hy : y.cls = RX11) (hm : MW y cc' nL' rt' n false) (hl' : LK R_law idx y) (hc : MC l Kh Ph y cc' nL' rt' d' (.inr (.inr 0) :: as) σ F) (hF : F = some (r1, σ1)) (hd' : d' < 1000) (hn : as.length = n) (has : ∀ ad ad' : Nat → Nat, as.map (en_v ad) = as.map (en_v ad')) (hstk : stk = as.reverse ++ .inr (.inr 1) :: st) (hsw : stw st ≤ 8) (hd : decode code pc = .ok (.invokevirtual idx, 3)) (kk : GL l L xs (pc + 3) lv (rpv rt' r1 ++ st) σ1 τ) : GL l L xs pc lv stk σ τ := by
  intro p e s m below meth c b B1 B2 a1 a2 D dA ok H locs ls hin hl hst
  obtain ⟨hC0, hT, hK, hS0, hB1, hB2⟩ := id ok
  obtain ⟨hx, hb, hr, hml, hown, hts0, hX, hbl, hlocks, hgv⟩ := id hC0
  subst hF
  obtain ⟨m1, m2, m3, m4, m5⟩ := hm
  rw [if_neg (by decide)] at m5
  subst hstk
  have hst1 : ∀ v ∈ (.inr (.inr 0) :: as : List Pv), cn_v v := cn_c trivial (fun v hv => hst v (List.mem_append_left _ (List.mem_reverse.mpr hv)))
  have hst2 : ∀ v ∈ st, cn_v v := fun v hv => hst v (List.mem_append_right _ (List.mem_cons_of_mem _ hv))
  have hM := hc (adX B1 a1 a2) D dA r1 σ1 rfl
  have hat : (ws_l Kh Ph (adX B1 a1 a2) dA σ)[0]? = some (adX B1 a1 a2 0, .inr (9, fl_v (adX B1 a1 a2) (Ph 0) (σ 0) 9)) := ws_at (K := Kh) (κ := .inl 9) rfl
  have hbase : adX B1 a1 a2 0 = B1 := by
    show adS B1 a1 a2 0 = B1
    unfold adS; rw [if_neg (by decide), if_neg (by decide)]; omega
  have hA : ∀ q, Ad Kh (adX B1 a1 a2) q → B1 ≤ q ∧ q < B1 + Kh.length := fun q h => adX_in h
  have hKl : Kh.length = 114 := rfl
  have hSx : ∀ U : State, s.WarmedH U.vm → U.heap = H → SS (adX B1 a1 a2) (Ad Kh (adX B1 a1 a2)) U := fun U hW hU =>
    (hS0.moved hW (fun a h1 h2 => by rw [hU]; exact hin.2.2.2.2.2.1 a h1 h2)).narrow (adX_1.trans adS_1.symm) (adX_2.trans adS_2.symm) (fun z h => by
      have := (hA z h).1
      show s.heap.size ≤ z
      omega)
  have hpre : PreV s H y.cls B1 (va_Pc ((.inr (.inr 0) :: as : List Pv).map (en_v (adX B1 a1 a2))) (BB Kh Ph (adX B1 a1 a2) D dA (.inr (.inr 0) :: as) σ)) (as.map (en_v (adX B1 a1 a2))) := by
    refine ⟨BB.blind, ?_, fun U hU hW => ⟨?_, by rw [hU]; exact hin.1, adX_D, va_K.moved hW.alike hK, hT.warm hW, hSx U hW hU, hin.2.2.1, hst1⟩⟩
    · have h := va_recv (ci := 9) (q := (RX11, TX11, 20)) hK hin.1 rfl hat
      rw [hbase] at h
      rw [hy]
      exact h
    · show (Value.ref B1 :: _).toArray = (Value.ref (adX B1 a1 a2 0) :: _).toArray
      rw [hbase]
  have hws : ∀ w ∈ [Cond.code y cc' nL' (rty rt')], ∀ (a' : Array Value) (U : State), s.WarmedH U.vm → w.before a' U = true := by
    intro w hw a' U hW
    rw [List.mem_singleton.mp hw]
    exact (hT.warm hW).hts _ m1
  have hroom : (rmd d').frames + 1 ≤ room_1.frames ∧ 8 + (nL' + 11) + (rmd d').locals ≤ room_1.locals := by
    refine ⟨?_, ?_⟩
    · show d' + 1 ≤ 2048
      omega
    · show 8 + (nL' + 11) + 64 * d' ≤ 84000
      omega
  have hlen : ∀ sig, parseMethodDescriptor y.desc = some sig → n = sig.parameters.length := fun sig h => by
    have h2 := m3.2.2
    rw [h] at h2
    exact (Option.some.inj h2).symm
  have hstack : ((as.reverse ++ .inr (.inr 1) :: st).map (en_v (adL b B1 B2))) = (as.map (en_v (adX B1 a1 a2))).reverse ++ .ref B1 :: st.map (en_v (adL b B1 B2)) := by rw [List.map_append, List.map_reverse, has (adL b B1 B2) (adX B1 a1 a2)]; rfl
  have hgo : va_Run p l e room_1 s m #[Value.ref b] below meth c H locs 600000 7302250 0 0 (F0 m pc ls ((as.reverse ++ .inr (.inr 1) :: st).map (en_v (adL b B1 B2)))) (st.map (en_v (adL b B1 B2))) (QQ Kh Ph (adX B1 a1 a2) D dA rt' r1 σ1 (Value.ref B1 :: as.map (en_v (adX B1 a1 a2))).toArray) (Ad Kh (adX B1 a1 a2)) := by
    rcases hl' with h | ⟨host, h⟩
    · exact va_runV (Ts := tbf) ⟨hx, hb, hml, hown, hT.hts⟩ hM ⟨⟨rfl, rfl, hroom.1, hroom.2, hws, List.mem_singleton.mpr rfl, hT.hts _ m1, hT.hts _ m2, ⟨m3.1, m3.2.1⟩, hlen, hT.hts _ h⟩, hT.hts _ m5.1, hT.hts _ m5.2⟩ hpre rfl (by simpa using hn) hl.1.1 hstack (lv_room (by rw [en_stw]; exact hsw)) hd ⟨Nat.le_refl _, Nat.le_refl _⟩
    · exact va_runVN (Ts := tbf) ⟨hx, hb, hml, hown, hT.hts⟩ hM ⟨⟨⟨rfl, rfl, hroom.1, hroom.2, hws, List.mem_singleton.mpr rfl⟩, hT.hts _ m1, hT.hts _ m2, ⟨m3.1, m3.2.1⟩, hlen, hT.hts _ h⟩, hT.hts _ m5.1, hT.hts _ m5.2⟩ hpre rfl (by simpa using hn) hl.1.1 hstack (lv_room (by rw [en_stw]; exact hsw)) hd ⟨Nat.le_refl _, Nat.le_refl _⟩
  intro T0 hT0 X
  obtain ⟨v, st₀, t, T', L', g0, X', hL', e1, e2, ⟨⟨hv, q1, q2, hpp⟩, hzz, hkk⟩, stp⟩ := hgo T0 hT0 X
  cases hv
  rw [g0] at hzz hkk
  have q3 : va_P D vwCl (ws_l Kh Ph (adX B1 a1 a2) dA σ1) T'.heap := by rw [e1]; exact hpp
  have hPo : va_P D vwCl (ws_l Km Pm (adS B2 a1 a2) dA τ) T'.heap := by
    refine hin.2.1.kept (fun k x hx' => ?_)
    have hlt := (hin.2.1 k x hx').lt
    obtain ⟨z, hz, hxz⟩ := (ad_D (dA := dA) (a1 := a1) (a2 := a2) (base := B2) (K' := Km) (P' := Pm) (σ' := τ) (Nat.le_of_ble_eq_true rfl)).2 k x hx'
    have ho := ad_in (a1 := a1) (a2 := a2) (base := B2) (K' := Km) (Nat.le_of_ble_eq_true rfl) ⟨z, hz, hxz⟩
    have hol : Km.length = 14 := rfl
    rw [e1]
    exact hkk x.1 hlt (fun h => by have := hA _ h; omega)
  have q4 : va_S (fun q => s.heap.size ≤ q) s.heap T'.heap (locs ++ L') := ⟨by rw [e1]; exact Nat.le_trans hin.2.2.2.2.1 hzz, fun z h1 h2 => by
      rw [e1, hkk z (Nat.lt_of_lt_of_le h1 hin.2.2.2.2.1) (fun h => h2 (by have := (hA _ h).1; show s.heap.size ≤ z; omega))]
      exact hin.2.2.2.2.2.1 z h1 h2, fun z hz => by
      rcases List.mem_append.mp hz with h | h
      · exact hin.2.2.2.2.2.2 z h
      · have := (hA _ (hL' z h)).1
        show s.heap.size ≤ z.base
        omega⟩
  obtain ⟨t2, b1, b2⟩ := kk p e s m below meth c b B1 B2 a1 a2 D dA ok T'.heap (locs ++ L') ls ⟨q3, hPo, q2, hin.2.2.2.1, q4⟩ hl (cn_rp q1 hst2) T' rfl X'
  rw [← rv_rp] at b1
  exact ⟨t2, stp t2 b1, b2⟩
theorem l_callm {y : MethodName} {cc' : ByteArray} {nL' rt' d' n idx : Nat} {as stk : List Pv} {r1 : Int} {σ1 : Sg} {F : Rs} (hy : y.cls = RX12) (hm : MW y cc' nL' rt' n false) (hl' : LK R_law idx y) (hc : MC l Km Pm y cc' nL' rt' d' (.inr (.inr 0) :: as) τ F) (hF : F = some (r1, σ1)) (hd' : d' < 1000) (hn : as.length = n) (has : ∀ ad ad' : Nat → Nat, as.map (en_v ad) = as.map (en_v ad')) (hstk : stk = as.reverse ++ .inr (.inr 2) :: st) (hsw : stw st ≤ 8) (hd : decode code pc = .ok (.invokevirtual idx, 3)) (kk : GL l L xs (pc + 3) lv (rpv rt' r1 ++ st) σ σ1) : GL l L xs pc lv stk σ τ := by
  intro p e s m below meth c b B1 B2 a1 a2 D dA ok H locs ls hin hl hst
  obtain ⟨hC0, hT, hK, hS0, hB1, hB2⟩ := id ok
  obtain ⟨hx, hb, hr, hml, hown, hts0, hX, hbl, hlocks, hgv⟩ := id hC0
  subst hF
  obtain ⟨m1, m2, m3, m4, m5⟩ := hm
  rw [if_neg (by decide)] at m5
  subst hstk
  have hst1 : ∀ v ∈ (.inr (.inr 0) :: as : List Pv), cn_v v := cn_c trivial (fun v hv => hst v (List.mem_append_left _ (List.mem_reverse.mpr hv)))
  have hst2 : ∀ v ∈ st, cn_v v := fun v hv => hst v (List.mem_append_right _ (List.mem_cons_of_mem _ hv))
  have hM := hc (adS B2 a1 a2) D dA r1 σ1 rfl
  have hat : (ws_l Km Pm (adS B2 a1 a2) dA τ)[0]? = some (adS B2 a1 a2 0, .inr (10, fl_v (adS B2 a1 a2) (Pm 0) (τ 0) 10)) := ws_at (K := Km) (κ := .inl 10) rfl
  have hbase : adS B2 a1 a2 0 = B2 := by
    show adS B2 a1 a2 0 = B2
    unfold adS; rw [if_neg (by decide), if_neg (by decide)]; omega
  have hA : ∀ q, Ad Km (adS B2 a1 a2) q → B2 ≤ q ∧ q < B2 + Km.length := fun q h => ad_in (Nat.le_of_ble_eq_true rfl) h
  have hKl : Km.length = 14 := rfl
  have hSx : ∀ U : State, s.WarmedH U.vm → U.heap = H → SS (adS B2 a1 a2) (Ad Km (adS B2 a1 a2)) U := fun U hW hU =>
    (hS0.moved hW (fun a h1 h2 => by rw [hU]; exact hin.2.2.2.2.2.1 a h1 h2)).narrow (adS_1.trans adS_1.symm) (adS_2.trans adS_2.symm) (fun z h => by
      have := (hA z h).1
      show s.heap.size ≤ z
      omega)
  have hpre : PreV s H y.cls B2 (va_Pc ((.inr (.inr 0) :: as : List Pv).map (en_v (adS B2 a1 a2))) (BB Km Pm (adS B2 a1 a2) D dA (.inr (.inr 0) :: as) τ)) (as.map (en_v (adS B2 a1 a2))) := by
    refine ⟨BB.blind, ?_, fun U hU hW => ⟨?_, by rw [hU]; exact hin.2.1, ad_D (Nat.le_of_ble_eq_true rfl), va_K.moved hW.alike hK, hT.warm hW, hSx U hW hU, hin.2.2.2.1, hst1⟩⟩
    · have h := va_recv (ci := 10) (q := (RX12, TX12, 44)) hK hin.2.1 rfl hat
      rw [hbase] at h
      rw [hy]
      exact h
    · show (Value.ref B2 :: _).toArray = (Value.ref (adS B2 a1 a2 0) :: _).toArray
      rw [hbase]
  have hws : ∀ w ∈ [Cond.code y cc' nL' (rty rt')], ∀ (a' : Array Value) (U : State), s.WarmedH U.vm → w.before a' U = true := by
    intro w hw a' U hW
    rw [List.mem_singleton.mp hw]
    exact (hT.warm hW).hts _ m1
  have hroom : (rmd d').frames + 1 ≤ room_1.frames ∧ 8 + (nL' + 11) + (rmd d').locals ≤ room_1.locals := by
    refine ⟨?_, ?_⟩
    · show d' + 1 ≤ 2048
      omega
    · show 8 + (nL' + 11) + 64 * d' ≤ 84000
      omega
  have hlen : ∀ sig, parseMethodDescriptor y.desc = some sig → n = sig.parameters.length := fun sig h => by
    have h2 := m3.2.2
    rw [h] at h2
    exact (Option.some.inj h2).symm
  have hstack : ((as.reverse ++ .inr (.inr 2) :: st).map (en_v (adL b B1 B2))) = (as.map (en_v (adS B2 a1 a2))).reverse ++ .ref B2 :: st.map (en_v (adL b B1 B2)) := by rw [List.map_append, List.map_reverse, has (adL b B1 B2) (adS B2 a1 a2)]; rfl
  have hgo : va_Run p l e room_1 s m #[Value.ref b] below meth c H locs 600000 7302250 0 0 (F0 m pc ls ((as.reverse ++ .inr (.inr 2) :: st).map (en_v (adL b B1 B2)))) (st.map (en_v (adL b B1 B2))) (QQ Km Pm (adS B2 a1 a2) D dA rt' r1 σ1 (Value.ref B2 :: as.map (en_v (adS B2 a1 a2))).toArray) (Ad Km (adS B2 a1 a2)) := by
    rcases hl' with h | ⟨host, h⟩
    · exact va_runV (Ts := tbf) ⟨hx, hb, hml, hown, hT.hts⟩ hM ⟨⟨rfl, rfl, hroom.1, hroom.2, hws, List.mem_singleton.mpr rfl, hT.hts _ m1, hT.hts _ m2, ⟨m3.1, m3.2.1⟩, hlen, hT.hts _ h⟩, hT.hts _ m5.1, hT.hts _ m5.2⟩ hpre rfl (by simpa using hn) hl.1.1 hstack (lv_room (by rw [en_stw]; exact hsw)) hd ⟨Nat.le_refl _, Nat.le_refl _⟩
    · exact va_runVN (Ts := tbf) ⟨hx, hb, hml, hown, hT.hts⟩ hM ⟨⟨⟨rfl, rfl, hroom.1, hroom.2, hws, List.mem_singleton.mpr rfl⟩, hT.hts _ m1, hT.hts _ m2, ⟨m3.1, m3.2.1⟩, hlen, hT.hts _ h⟩, hT.hts _ m5.1, hT.hts _ m5.2⟩ hpre rfl (by simpa using hn) hl.1.1 hstack (lv_room (by rw [en_stw]; exact hsw)) hd ⟨Nat.le_refl _, Nat.le_refl _⟩
  intro T0 hT0 X
  obtain ⟨v, st₀, t, T', L', g0, X', hL', e1, e2, ⟨⟨hv, q1, q2, hpp⟩, hzz, hkk⟩, stp⟩ := hgo T0 hT0 X
  cases hv
  rw [g0] at hzz hkk
  have q3 : va_P D vwCl (ws_l Km Pm (adS B2 a1 a2) dA σ1) T'.heap := by rw [e1]; exact hpp
  have hPo : va_P D vwCl (ws_l Kh Ph (adX B1 a1 a2) dA σ) T'.heap := by
    refine hin.1.kept (fun k x hx' => ?_)
    have hlt := (hin.1 k x hx').lt
    obtain ⟨z, hz, hxz⟩ := (adX_D (dA := dA) (a1 := a1) (a2 := a2) (base := B1) (P := Ph) (σ := σ)).2 k x hx'
    have ho := adX_in (a1 := a1) (a2 := a2) (base := B1) ⟨z, hz, hxz⟩
    have hol : Kh.length = 114 := rfl
    rw [e1]
    exact hkk x.1 hlt (fun h => by have := hA _ h; omega)
  have q4 : va_S (fun q => s.heap.size ≤ q) s.heap T'.heap (locs ++ L') := ⟨by rw [e1]; exact Nat.le_trans hin.2.2.2.2.1 hzz, fun z h1 h2 => by
      rw [e1, hkk z (Nat.lt_of_lt_of_le h1 hin.2.2.2.2.1) (fun h => h2 (by have := (hA _ h).1; show s.heap.size ≤ z; omega))]
      exact hin.2.2.2.2.2.1 z h1 h2, fun z hz => by
      rcases List.mem_append.mp hz with h | h
      · exact hin.2.2.2.2.2.2 z h
      · have := (hA _ (hL' z h)).1
        show s.heap.size ≤ z.base
        omega⟩
  obtain ⟨t2, b1, b2⟩ := kk p e s m below meth c b B1 B2 a1 a2 D dA ok T'.heap (locs ++ L') ls ⟨hPo, q3, hin.2.2.1, q2, q4⟩ hl (cn_rp q1 hst2) T' rfl X'
  rw [← rv_rp] at b1
  exact ⟨t2, stp t2 b1, b2⟩
end GLR
