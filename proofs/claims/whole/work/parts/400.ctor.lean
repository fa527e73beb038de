/-! constructors: a world that grows, its cells at base, base + 1 .. -/
def wn (base n : Nat) (ev : Nat → va_E) : va_W := (List.range n).map (fun q => (base + q, ev q))
def rmn (d mc ms : Nat) : Room := { frames := d, cells := mc, slots := ms, locals := 64 * d }
def adS (base a1 a2 : Nat) : Nat → Nat := fun q => if q = 9999 then a1 else if q = 9998 then a2 else base + q
def QN (D : va_G) (base n' : Nat) (ev' : Nat → va_E) : Array Value → State → Outcome → State → Prop := fun _ st oc t =>
  (oc = .returned none ∧ t.heap.size = base + n' ∧ va_P D vwCl (wn base n' ev') t.heap) ∧ va_F (fun q => base ≤ q) st t
def dflt (ci : Nat) : List Value := (List.range (nfl ci)).map (fun k => match fty ci k with
  | 0 => .int (Int32.ofInt 0)
  | 1 => .long (Int64.ofInt 0)
  | 3 => .int (Int32.ofInt 0)
  | _ => .null)
def cev (dA : Nat → ClassId) (base : Nat) (K : Ly) (P : Nat → Nat → Nat) (σ : Sg) : Nat → va_E := fun q => ce_l (fun z => base + z) dA (P q) (σ q) (K.getD q (.inl 0))
def AO (U : State) : Prop := va_AO "HairProvince$Province" U ∧ va_AO "HairProvince$Years" U
theorem AO.moved {u U : State} (hvm : u.vm.Alike U.vm) (h : AO u) : AO U := ⟨va_AO.moved hvm h.1, va_AO.moved hvm h.2⟩
def OKN (own : String) (cc : ByteArray) (nL : Nat) (p : Program) (s : State) (m : MethodId) (meth : Method) (c : Code) (D : va_G) (dA : Nat → ClassId) (a1 a2 base : Nat) : Prop :=
  p.tables.exec = Jvm.exec ∧ c.code = cc ∧ c.maxLocals = nL ∧ s.vm.findClass own = some m.cls ∧ TB s ∧ va_K D vwCl (tyl dA) s ∧ meth.sig.returnType = none ∧ meth.locks = false ∧ meth.name = "<init>" ∧ SS (adS base a1 a2) (fun q => base ≤ q) s ∧ AO s
def GN (l : Launch) (D : va_G) (dA : Nat → ClassId) (a1 a2 : Nat) (own : String) (cc : ByteArray) (nL d base pc : Nat) (lv : List (Option Pv)) (st : List Pv) (n : Nat) (ev : Nat → va_E) (cs sl : Nat) (Qc : Array Value → State → Outcome → State → Prop) (mc ms : Nat) : Prop :=
  ∀ (p : Program) (e : Env) (s : State) (m : MethodId) (args : Array Value) (below : List Frame) (meth : Method) (c : Code), OKN own cc nL p s m meth c D dA a1 a2 base →
    ∀ (H : Heap) (locs : List Loc) (ls : Array Slot), H.size = base + n → va_P D vwCl (wn base n ev) H → va_S (fun q => base ≤ q) s.heap H locs → LR (fun z => base + z) nL lv ls → (∀ v ∈ st, cn_v v) →
    W p l e (rmn d mc ms) s m args below meth c H locs cs sl (MQ below Qc args s mc ms (fun q => base ≤ q)) (F0 m pc ls (st.map (en_v (fun z => base + z))))
theorem wn_at {base n q : Nat} {ev : Nat → va_E} (h : q < n) : (wn base n ev)[q]? = some (base + q, ev q) := by
  unfold wn
  rw [List.getElem?_map, List.getElem?_range h]; rfl
theorem wn_of {base n k : Nat} {ev : Nat → va_E} {x : Nat × va_E} (h : (wn base n ev)[k]? = some x) : k < n ∧ x = (base + k, ev k) := by
  by_cases hk : k < n
  · rw [wn_at hk] at h; exact ⟨hk, (Option.some.inj h).symm⟩
  · unfold wn at h
    rw [List.getElem?_eq_none (by simpa using hk)] at h
    cases h
theorem wn_D {base n : Nat} {ev : Nat → va_E} : va_D (fun q => base ≤ q) (wn base n ev) := by
  refine ⟨fun i j x y hx hy hxy => ?_, fun k q hq => ?_⟩
  · obtain ⟨-, rfl⟩ := wn_of hx
    obtain ⟨-, rfl⟩ := wn_of hy
    have : base + i = base + j := hxy
    omega
  · obtain ⟨-, rfl⟩ := wn_of hq
    show base ≤ base + k
    omega
theorem wn_congr {base n : Nat} {ev ev2 : Nat → va_E} (h : ∀ q, q < n → ev q = ev2 q) : wn base n ev = wn base n ev2 := by
  unfold wn
  exact List.map_congr_left fun q hq => by rw [h q (List.mem_range.mp hq)]
def ve (x y : va_E) : Prop := ∀ (D : va_G) (a : Nat) (H : Heap), va_at D vwCl (a, x) H → va_at D vwCl (a, y) H
theorem ve.rf {x : va_E} : ve x x := fun _ _ _ h => h
theorem ve.of {x y : va_E} (h : x = y) : ve x y := h ▸ ve.rf
theorem arrV_ext {c : ClassId} {n : Nat} {f g : Nat → Value} (h : ∀ j, j < n → f j = g j) : arrV c n f = arrV c n g := by
  unfold arrV
  congr 1
  apply Array.ext
  · simp
  · intro i h1 h2
    simp at h1
    simp [h i h1]
theorem ve_i {c : ClassId} {n : Nat} {f g : Nat → Int32} (h : ∀ j, j < n → f j = g j) : ve (.inl (c, n, .inl f)) (.inl (c, n, .inl g)) := by
  intro D a H hx
  show H[a]? = some (vp_cell _ _)
  have hx : H[a]? = some (vp_cell c (n, .inl f)) := hx
  rw [hx, vp_cell_i, vp_cell_i, arrV_ext (fun j hj => by rw [h j hj])]
theorem ve_q {c : ClassId} {n : Nat} {f g : Nat → Option Nat} (h : ∀ j, j < n → f j = g j) : ve (.inl (c, n, .inr (.inr (.inr (.inr f))))) (.inl (c, n, .inr (.inr (.inr (.inr g))))) := by
  intro D a H hx
  show H[a]? = some (vp_cell _ _)
  have hx : H[a]? = some (vp_cell c (n, .inr (.inr (.inr (.inr f))))) := hx
  rw [hx, vp_cell_q, vp_cell_q, arrV_ext (fun j hj => by rw [h j hj])]
theorem wn_ve {D : va_G} {base n : Nat} {ev ev2 : Nat → va_E} {H : Heap} (h : ∀ q, q < n → ve (ev q) (ev2 q)) (hP : va_P D vwCl (wn base n ev) H) : va_P D vwCl (wn base n ev2) H := by
  intro k x hx
  obtain ⟨hk, rfl⟩ := wn_of hx
  exact h k hk D _ H (hP k _ (wn_at hk))
theorem wn_set {base n q : Nat} {ev : Nat → va_E} {x : va_E} (h : q < n) : (wn base n ev).set q (base + q, x) = wn base n (va_up ev q x) := by
  apply List.ext_getElem?
  intro i
  rw [List.getElem?_set]
  by_cases e : q = i
  · subst e
    rw [if_pos rfl, wn_at h, if_pos (by unfold wn; simpa using h), va_up, if_pos rfl]
  · rw [if_neg e]
    by_cases hi : i < n
    · rw [wn_at hi, wn_at hi, va_up, if_neg (fun z => e z.symm)]
    · rw [List.getElem?_eq_none (by unfold wn; simpa using hi), List.getElem?_eq_none (by unfold wn; simpa using hi)]
theorem wn_push {D : va_G} {base n : Nat} {ev : Nat → va_E} {x : va_E} {H H1 : Heap} (hP : va_P D vwCl (wn base n ev) H) (ho : ∀ q, q < base + n → H1[q]? = H[q]?) (hx : va_at D vwCl (base + n, x) H1) : va_P D vwCl (wn base (n + 1) (va_up ev n x)) H1 := by
  intro k q hq
  obtain ⟨hk, rfl⟩ := wn_of hq
  by_cases e : k = n
  · subst e
    rw [va_up, if_pos rfl]; exact hx
  · rw [va_up, if_neg e]
    exact (hP k _ (wn_at (by omega))).kept (ho _ (by show base + k < base + n; omega))
section GNR
variable {l : Launch} {D : va_G} {dA : Nat → ClassId} {a1 a2 : Nat} {own : String} {cc : ByteArray} {nL d base pc n n' cs sl mc ms : Nat} {lv : List (Option Pv)} {st : List Pv} {ev ev' : Nat → va_E} {Qc : Array Value → State → Outcome → State → Prop}
theorem GN.congr {ev2 : Nat → va_E} (h : ∀ q, q < n → ve (ev q) (ev2 q)) (kk : GN l D dA a1 a2 own cc nL d base pc lv st n ev2 cs sl Qc mc ms) : GN l D dA a1 a2 own cc nL d base pc lv st n ev cs sl Qc mc ms := by
  intro p e s m args below meth c ok H locs ls hz hP hS hl hst
  have hP := wn_ve h hP
  exact kk p e s m args below meth c ok H locs ls hz hP hS hl hst
theorem m_aload_n {k : Fin 4} {i : Nat} {x : Nat} (hd : decode cc pc = .ok (.aload_n k, 1)) (hk : (k : Nat) = i) (hi : lv[i]? = some (some (.inr (.inr x)))) (kk : GN l D dA a1 a2 own cc nL d base (pc + 1) lv (.inr (.inr x) :: st) n ev cs sl Qc mc ms) : GN l D dA a1 a2 own cc nL d base pc lv st n ev cs sl Qc mc ms := by
  intro p e s m args below meth c ok H locs ls hz hP hS hl hst
  obtain ⟨hx, hb, hml, hown, hT, hK, hr, hlk, hin, hs, hao⟩ := id ok
  exact lv_aload_n hx hb hd hk (hl.at_ hi) (kk p e s m args below meth c ok H locs ls hz hP hS hl (cn_c (hl.cn hi) hst))
theorem m_iload_n {k : Fin 4} {i : Nat} {x : Int} (hd : decode cc pc = .ok (.iload_n k, 1)) (hk : (k : Nat) = i) (hi : lv[i]? = some (some (.inl x))) (kk : GN l D dA a1 a2 own cc nL d base (pc + 1) lv (.inl x :: st) n ev cs sl Qc mc ms) : GN l D dA a1 a2 own cc nL d base pc lv st n ev cs sl Qc mc ms := by
  intro p e s m args below meth c ok H locs ls hz hP hS hl hst
  obtain ⟨hx, hb, hml, hown, hT, hK, hr, hlk, hin, hs, hao⟩ := id ok
  exact lv_iload_n hx hb hd hk (hl.at_ hi) (kk p e s m args below meth c ok H locs ls hz hP hS hl (cn_c (hl.cn hi) hst))
theorem m_iconst {x : Int} (hd : decode cc pc = .ok (.iconst x, 1)) (hn : -2147483648 ≤ x ∧ x < 2147483648) (kk : GN l D dA a1 a2 own cc nL d base (pc + 1) lv (.inl x :: st) n ev cs sl Qc mc ms) : GN l D dA a1 a2 own cc nL d base pc lv st n ev cs sl Qc mc ms := by
  intro p e s m args below meth c ok H locs ls hz hP hS hl hst
  obtain ⟨hx, hb, hml, hown, hT, hK, hr, hlk, hin, hs, hao⟩ := id ok
  exact lv_iconst hx hb hd rfl (kk p e s m args below meth c ok H locs ls hz hP hS hl (cn_c hn hst))
theorem m_bipush {x : Int} (hd : decode cc pc = .ok (.bipush x, 2)) (hn : (-128 ≤ x ∧ x < 128) ∧ (Int8.ofInt x).toInt32 = Int32.ofInt x) (kk : GN l D dA a1 a2 own cc nL d base (pc + 2) lv (.inl x :: st) n ev cs sl Qc mc ms) : GN l D dA a1 a2 own cc nL d base pc lv st n ev cs sl Qc mc ms := by
  intro p e s m args below meth c ok H locs ls hz hP hS hl hst
  obtain ⟨hx, hb, hml, hown, hT, hK, hr, hlk, hin, hs, hao⟩ := id ok
  exact lv_bipush hx hb hd hn.2 (kk p e s m args below meth c ok H locs ls hz hP hS hl (cn_c (show c32 x by unfold c32; omega) hst))
theorem m_sipush {x : Int} (hd : decode cc pc = .ok (.sipush x, 3)) (hn : (-32768 ≤ x ∧ x < 32768) ∧ (Int16.ofInt x).toInt32 = Int32.ofInt x) (kk : GN l D dA a1 a2 own cc nL d base (pc + 3) lv (.inl x :: st) n ev cs sl Qc mc ms) : GN l D dA a1 a2 own cc nL d base pc lv st n ev cs sl Qc mc ms := by
  intro p e s m args below meth c ok H locs ls hz hP hS hl hst
  obtain ⟨hx, hb, hml, hown, hT, hK, hr, hlk, hin, hs, hao⟩ := id ok
  exact lv_sipush hx hb hd hn.2 (kk p e s m args below meth c ok H locs ls hz hP hS hl (cn_c (show c32 x by unfold c32; omega) hst))
theorem m_lconst {k : Fin 2} {v : Int} (hd : decode cc pc = .ok (.lconst k, 1)) (hn : (-128 ≤ v ∧ v < 128) ∧ Int64.ofNat (k : Nat) = Int64.ofInt v) (kk : GN l D dA a1 a2 own cc nL d base (pc + 1) lv (.inr (.inl v) :: st) n ev cs sl Qc mc ms) : GN l D dA a1 a2 own cc nL d base pc lv st n ev cs sl Qc mc ms := by
  intro p e s m args below meth c ok H locs ls hz hP hS hl hst
  obtain ⟨hx, hb, hml, hown, hT, hK, hr, hlk, hin, hs, hao⟩ := id ok
  exact lv_lconst hx hb hd hn.2 (kk p e s m args below meth c ok H locs ls hz hP hS hl (cn_c (show c64 v by unfold c64; omega) hst))
theorem m_istore_n {k : Fin 4} {i : Nat} {x : Int} {lv' : List (Option Pv)} (hd : decode cc pc = .ok (.istore_n k, 1)) (hk : (k : Nat) = i) (hn : i < nL) (hl' : s1_l lv i (.inl x) = lv') (kk : GN l D dA a1 a2 own cc nL d base (pc + 1) lv' st n ev cs sl Qc mc ms) : GN l D dA a1 a2 own cc nL d base pc lv (.inl x :: st) n ev cs sl Qc mc ms := by
  intro p e s m args below meth c ok H locs ls hz hP hS hl hst
  obtain ⟨hx, hb, hml, hown, hT, hK, hr, hlk, hin, hs, hao⟩ := id ok
  obtain ⟨h0, hst⟩ := List.forall_mem_cons.mp hst
  exact lv_istore_n hx hb hd hk hl.1 hn rfl (fun ls' hl2 => kk p e s m args below meth c ok H locs ls' hz hP hS (hl' ▸ LR.s1 (w := .inl x) h0 hl.2 hl2) hst)
theorem m_iinc {i : Nat} {k x y : Int} {lv' : List (Option Pv)} (hd : decode cc pc = .ok (.iinc i k, 3)) (hi : lv[i]? = some (some (.inl x))) (hn : i < nL) (hy : w32 (x + k) = y) (hl' : s1_l lv i (.inl y) = lv') (kk : GN l D dA a1 a2 own cc nL d base (pc + 3) lv' st n ev cs sl Qc mc ms) : GN l D dA a1 a2 own cc nL d base pc lv st n ev cs sl Qc mc ms := by
  intro p e s m args below meth c ok H locs ls hz hP hS hl hst
  obtain ⟨hx, hb, hml, hown, hT, hK, hr, hlk, hin, hs, hao⟩ := id ok
  subst hy
  obtain ⟨j, hj⟩ := List.getElem?_of_mem (prs_mem.mpr ⟨i, .inl x, hi, rfl⟩ : ((0 + i, en_v (fun z => base + z) (.inl x)) : Nat × Value) ∈ prs (fun z => base + z) 0 lv)
  rw [Nat.zero_add] at hj
  exact lv_iinc (lv := prs (fun z => base + z) 0 lv) (x := Int32.ofInt x) (v := Int32.ofInt (w32 (x + k))) hx hb hd hl.1 hj (by rw [i32_add]) hn rfl (fun ls' hl2 => kk p e s m args below meth c ok H locs ls' hz hP hS (hl' ▸ LR.s1 (w := .inl (w32 (x + k))) (w32_c _) hl.2 hl2) hst)
theorem m_icmpge_f {x y off : Int} {tgt : Nat} (hd : decode cc pc = .ok (.if_icmp .ge off, 3)) (ht : (pc : Int) + off = (tgt : Int)) (hxy : x < y) (kk : GN l D dA a1 a2 own cc nL d base (pc + 3) lv st n ev cs sl Qc mc ms) : GN l D dA a1 a2 own cc nL d base pc lv (.inl y :: .inl x :: st) n ev cs sl Qc mc ms := by
  intro p e s m args below meth c ok H locs ls hz hP hS hl hst
  obtain ⟨hx, hb, hml, hown, hT, hK, hr, hlk, hin, hs, hao⟩ := id ok
  obtain ⟨h0, hst⟩ := List.forall_mem_cons.mp hst
  obtain ⟨h1, hst⟩ := List.forall_mem_cons.mp hst
  exact lv_icmp_ge hx hb hd ht (fun q => absurd ((i32_le h0 h1).mp q) (by omega)) (fun _ => kk p e s m args below meth c ok H locs ls hz hP hS hl hst)
theorem m_icmpge_t {x y off : Int} {tgt : Nat} (hd : decode cc pc = .ok (.if_icmp .ge off, 3)) (ht : (pc : Int) + off = (tgt : Int)) (hxy : y ≤ x) (kk : GN l D dA a1 a2 own cc nL d base tgt lv st n ev cs sl Qc mc ms) : GN l D dA a1 a2 own cc nL d base pc lv (.inl y :: .inl x :: st) n ev cs sl Qc mc ms := by
  intro p e s m args below meth c ok H locs ls hz hP hS hl hst
  obtain ⟨hx, hb, hml, hown, hT, hK, hr, hlk, hin, hs, hao⟩ := id ok
  obtain ⟨h0, hst⟩ := List.forall_mem_cons.mp hst
  obtain ⟨h1, hst⟩ := List.forall_mem_cons.mp hst
  exact lv_icmp_ge hx hb hd ht (fun _ => kk p e s m args below meth c ok H locs ls hz hP hS hl hst) (fun q => absurd ((i32_le h0 h1).mpr hxy) q)
theorem m_goto {off : Int} {tgt : Nat} (hd : decode cc pc = .ok (.goto off, 3)) (ht : (pc : Int) + off = (tgt : Int)) (kk : GN l D dA a1 a2 own cc nL d base tgt lv st n ev cs sl Qc mc ms) : GN l D dA a1 a2 own cc nL d base pc lv st n ev cs sl Qc mc ms := by
  intro p e s m args below meth c ok H locs ls hz hP hS hl hst
  obtain ⟨hx, hb, hml, hown, hT, hK, hr, hlk, hin, hs, hao⟩ := id ok
  exact lv_goto hx hb hd ht (kk p e s m args below meth c ok H locs ls hz hP hS hl hst)
theorem m_dup {v : Pv} (hd : decode cc pc = .ok (.dup, 1)) (hv : pcat v = 1) (kk : GN l D dA a1 a2 own cc nL d base (pc + 1) lv (v :: v :: st) n ev cs sl Qc mc ms) : GN l D dA a1 a2 own cc nL d base pc lv (v :: st) n ev cs sl Qc mc ms := by
  intro p e s m args below meth c ok H locs ls hz hP hS hl hst
  obtain ⟨hx, hb, hml, hown, hT, hK, hr, hlk, hin, hs, hao⟩ := id ok
  exact lv_dup hx hb hd (en_cat.trans hv) (kk p e s m args below meth c ok H locs ls hz hP hS hl (cn_c (List.forall_mem_cons.mp hst).1 hst))
def OI (own : String) (idx : Nat) : Prop := Cond.methodLink own idx Lib.objectInit ∈ tbf ∧ Cond.instanceMethod Lib.objectInit ∈ tbf ∧ Cond.code Lib.objectInit ⟨#[0xb1]⟩ 1 none ∈ tbf
theorem m_obj {idx q : Nat} (hw : OI own idx) (hdp : 1 ≤ d) (hsw : stw st ≤ 8) (hd : decode cc pc = .ok (.invokespecial idx, 3)) (kk : GN l D dA a1 a2 own cc nL d base (pc + 3) lv st n ev cs sl Qc mc ms) : GN l D dA a1 a2 own cc nL d base pc lv (.inr (.inr q) :: st) n ev cs sl Qc mc ms := by
  intro p e s m args below meth c ok H locs ls hz hP hS hl hst
  obtain ⟨hx, hb, hml, hown, hT, hK, hr, hlk, hin, hs, hao⟩ := id ok
  obtain ⟨h0, hst⟩ := List.forall_mem_cons.mp hst
  refine W.objInit hx hb hown (hT.hts _ hw.1) (hT.hts _ hw.2.1) (hT.hts _ hw.2.2) rfl (hl.1.1.trans hml.symm) rfl hd hdp ?_ (kk p e s m args below meth c ok H locs ls hz hP hS hl hst)
  show 2 * 0 + _ + 12 ≤ 64 * d
  rw [en_stw]
  omega
theorem m_new0 {N : Nat} {x : Int} (hxN : x = (N : Int)) (hN : N < 100000) (hcs : cs + 1 ≤ mc) (hsl : sl + N ≤ ms) (hd : decode cc pc = .ok (.newarray .int, 2)) (kk : GN l D dA a1 a2 own cc nL d base (pc + 2) lv (.inr (.inr n) :: st) (n + 1) (va_up ev n (.inl (dA 0, N, .inl (fun _ => Int32.ofInt 0)))) (cs + 1) (sl + N) Qc mc ms) : GN l D dA a1 a2 own cc nL d base pc lv (.inl x :: st) n ev cs sl Qc mc ms := by
  intro p e s m args below meth c ok H locs ls hz hP hS hl hst
  obtain ⟨hx, hb, hml, hown, hT, hK, hr, hlk, hin, hs, hao⟩ := id ok
  obtain ⟨h0, hst2⟩ := List.forall_mem_cons.mp hst
  subst hxN
  refine va_newaK hx hb (atype := .int) (hT.hts (.arrayClass .int) (tm 279 (by decide +kernel) rfl)) rfl hd rfl (N := N) (fun q => ?_) ?_ ?_ hcs hsl hz (fun H1 cA e1 z1 o1 hAr hNm => ?_)
  · have := (i32_lt h0 c32_0).mp q
    omega
  · rw [ix_cl h0]; omega
  · have : componentBytes (newarray.typeOf .int) ≤ 8 := by decide
    have h2 := Nat.mul_le_mul (Nat.le_of_lt hN) this
    omega
  · have hcA : cA = dA 0 := Option.some.inj (hNm.symm.trans (hK.2 0 (dA 0, .int) rfl).2)
    subst hcA
    exact kk p e s m args below meth c ok H1 locs ls (by omega) (wn_push hP o1 e1) ⟨Nat.le_trans hS.1 (by omega), fun q h1 h2 => (o1 q (by have := hS.1; omega)).trans (hS.2.1 q h1 h2), hS.2.2⟩ hl (cn_c trivial hst2)
theorem m_new1 {N : Nat} {x : Int} (hxN : x = (N : Int)) (hN : N < 100000) (hcs : cs + 1 ≤ mc) (hsl : sl + N ≤ ms) (hd : decode cc pc = .ok (.newarray .long, 2)) (kk : GN l D dA a1 a2 own cc nL d base (pc + 2) lv (.inr (.inr n) :: st) (n + 1) (va_up ev n (.inl (dA 1, N, .inr (.inl (fun _ => Int64.ofInt 0))))) (cs + 1) (sl + N) Qc mc ms) : GN l D dA a1 a2 own cc nL d base pc lv (.inl x :: st) n ev cs sl Qc mc ms := by
  intro p e s m args below meth c ok H locs ls hz hP hS hl hst
  obtain ⟨hx, hb, hml, hown, hT, hK, hr, hlk, hin, hs, hao⟩ := id ok
  obtain ⟨h0, hst2⟩ := List.forall_mem_cons.mp hst
  subst hxN
  refine va_newaK hx hb (atype := .long) (hT.hts (.arrayClass .long) (tm 280 (by decide +kernel) rfl)) rfl hd rfl (N := N) (fun q => ?_) ?_ ?_ hcs hsl hz (fun H1 cA e1 z1 o1 hAr hNm => ?_)
  · have := (i32_lt h0 c32_0).mp q
    omega
  · rw [ix_cl h0]; omega
  · have : componentBytes (newarray.typeOf .long) ≤ 8 := by decide
    have h2 := Nat.mul_le_mul (Nat.le_of_lt hN) this
    omega
  · have hcA : cA = dA 1 := Option.some.inj (hNm.symm.trans (hK.2 1 (dA 1, .long) rfl).2)
    subst hcA
    exact kk p e s m args below meth c ok H1 locs ls (by omega) (wn_push hP o1 e1) ⟨Nat.le_trans hS.1 (by omega), fun q h1 h2 => (o1 q (by have := hS.1; omega)).trans (hS.2.1 q h1 h2), hS.2.2⟩ hl (cn_c trivial hst2)
theorem m_new2 {N : Nat} {x : Int} (hxN : x = (N : Int)) (hN : N < 100000) (hcs : cs + 1 ≤ mc) (hsl : sl + N ≤ ms) (hd : decode cc pc = .ok (.newarray .byte, 2)) (kk : GN l D dA a1 a2 own cc nL d base (pc + 2) lv (.inr (.inr n) :: st) (n + 1) (va_up ev n (.inl (dA 2, N, .inl (fun _ => Int32.ofInt 0)))) (cs + 1) (sl + N) Qc mc ms) : GN l D dA a1 a2 own cc nL d base pc lv (.inl x :: st) n ev cs sl Qc mc ms := by
  intro p e s m args below meth c ok H locs ls hz hP hS hl hst
  obtain ⟨hx, hb, hml, hown, hT, hK, hr, hlk, hin, hs, hao⟩ := id ok
  obtain ⟨h0, hst2⟩ := List.forall_mem_cons.mp hst
  subst hxN
  refine va_newaK hx hb (atype := .byte) (hT.hts (.arrayClass .byte) (tm 389 (by decide +kernel) rfl)) rfl hd rfl (N := N) (fun q => ?_) ?_ ?_ hcs hsl hz (fun H1 cA e1 z1 o1 hAr hNm => ?_)
  · have := (i32_lt h0 c32_0).mp q
    omega
  · rw [ix_cl h0]; omega
  · have : componentBytes (newarray.typeOf .byte) ≤ 8 := by decide
    have h2 := Nat.mul_le_mul (Nat.le_of_lt hN) this
    omega
  · have hcA : cA = dA 2 := Option.some.inj (hNm.symm.trans (hK.2 2 (dA 2, .byte) rfl).2)
    subst hcA
    exact kk p e s m args below meth c ok H1 locs ls (by omega) (wn_push hP o1 e1) ⟨Nat.le_trans hS.1 (by omega), fun q h1 h2 => (o1 q (by have := hS.1; omega)).trans (hS.2.1 q h1 h2), hS.2.2⟩ hl (cn_c trivial hst2)
theorem m_new3 {N : Nat} {x : Int} (hxN : x = (N : Int)) (hN : N < 100000) (hcs : cs + 1 ≤ mc) (hsl : sl + N ≤ ms) (hd : decode cc pc = .ok (.newarray .boolean, 2)) (kk : GN l D dA a1 a2 own cc nL d base (pc + 2) lv (.inr (.inr n) :: st) (n + 1) (va_up ev n (.inl (dA 3, N, .inl (fun _ => Int32.ofInt 0)))) (cs + 1) (sl + N) Qc mc ms) : GN l D dA a1 a2 own cc nL d base pc lv (.inl x :: st) n ev cs sl Qc mc ms := by
  intro p e s m args below meth c ok H locs ls hz hP hS hl hst
  obtain ⟨hx, hb, hml, hown, hT, hK, hr, hlk, hin, hs, hao⟩ := id ok
  obtain ⟨h0, hst2⟩ := List.forall_mem_cons.mp hst
  subst hxN
  refine va_newaK hx hb (atype := .boolean) (hT.hts (.arrayClass .boolean) (tm 1701 (by decide +kernel) rfl)) rfl hd rfl (N := N) (fun q => ?_) ?_ ?_ hcs hsl hz (fun H1 cA e1 z1 o1 hAr hNm => ?_)
  · have := (i32_lt h0 c32_0).mp q
    omega
  · rw [ix_cl h0]; omega
  · have : componentBytes (newarray.typeOf .boolean) ≤ 8 := by decide
    have h2 := Nat.mul_le_mul (Nat.le_of_lt hN) this
    omega
  · have hcA : cA = dA 3 := Option.some.inj (hNm.symm.trans (hK.2 3 (dA 3, .boolean) rfl).2)
    subst hcA
    exact kk p e s m args below meth c ok H1 locs ls (by omega) (wn_push hP o1 e1) ⟨Nat.le_trans hS.1 (by omega), fun q h1 h2 => (o1 q (by have := hS.1; omega)).trans (hS.2.1 q h1 h2), hS.2.2⟩ hl (cn_c trivial hst2)
theorem m_anew4 {N idx : Nat} {x : Int} (hw : Cond.classLink own idx "HairProvince$Province" ∈ tbf) (hxN : x = (N : Int)) (hN : N < 100000) (hcs : cs + 1 ≤ mc) (hsl : sl + N ≤ ms) (hd : decode cc pc = .ok (.anewarray idx, 3)) (kk : GN l D dA a1 a2 own cc nL d base (pc + 3) lv (.inr (.inr n) :: st) (n + 1) (va_up ev n (.inl (dA 4, N, .inr (.inr (.inr (.inr (fun _ => none))))))) (cs + 1) (sl + N) Qc mc ms) : GN l D dA a1 a2 own cc nL d base pc lv (.inl x :: st) n ev cs sl Qc mc ms := by
  intro p e s m args below meth c ok H locs ls hz hP hS hl hst
  obtain ⟨hx, hb, hml, hown, hT, hK, hr, hlk, hin, hs, hao⟩ := id ok
  obtain ⟨h0, hst2⟩ := List.forall_mem_cons.mp hst
  subst hxN
  have hNN : (Int32.ofInt (N : Int)).toNatClampNeg = N := by rw [ix_cl h0]; omega
  refine W.anew hx hb hown (hT.hts _ hw) (va_AO.use hao.1) rfl hd rfl (fun q => ?_) ?_ hcs (by rw [hNN]; exact hsl) (fun cA kA comp f1 f2 f3 f4 => ?_)
  · have := (i32_lt h0 c32_0).mp q
    omega
  · rw [hNN]; omega
  · have hra := (hK.2 4 (dA 4, .object "HairProvince$Province") rfl).2
    obtain ⟨kA', comp', g1, g2, g3, g4⟩ := hra
    have hcA : cA = dA 4 := Option.some.inj (f1.symm.trans g4)
    subst hcA
    rw [hNN]
    generalize hH1 : H.push ({ cls := dA 4, slots := Array.replicate N .null, vm := .none } : Cell) = H1
    have z1 : H1.size = H.size + 1 := by rw [← hH1, Array.size_push]
    have e1 : H1[H.size]? = some (arrV (dA 4) N (fun _ => .null)) := by rw [← hH1, Array.getElem?_push_size, ← arrV_new]
    have o1 : ∀ q : Nat, q < H.size → H1[q]? = H[q]? := fun q hq => by rw [← hH1, Array.getElem?_push, if_neg (Nat.ne_of_lt hq)]
    rw [hz] at e1 z1 o1 ⊢
    refine kk p e s m args below meth c ok H1 locs ls (by omega) (wn_push hP o1 ?_) ⟨Nat.le_trans hS.1 (by omega), fun q h1 h2 => (o1 q (by have := hS.1; omega)).trans (hS.2.1 q h1 h2), hS.2.2⟩ hl (cn_c trivial hst2)
    show H1[base + n]? = some (vp_cell _ _)
    rw [vp_cell_q]
    exact e1
theorem m_anew5 {N idx : Nat} {x : Int} (hw : Cond.classLink own idx "HairProvince$Years" ∈ tbf) (hxN : x = (N : Int)) (hN : N < 100000) (hcs : cs + 1 ≤ mc) (hsl : sl + N ≤ ms) (hd : decode cc pc = .ok (.anewarray idx, 3)) (kk : GN l D dA a1 a2 own cc nL d base (pc + 3) lv (.inr (.inr n) :: st) (n + 1) (va_up ev n (.inl (dA 5, N, .inr (.inr (.inr (.inr (fun _ => none))))))) (cs + 1) (sl + N) Qc mc ms) : GN l D dA a1 a2 own cc nL d base pc lv (.inl x :: st) n ev cs sl Qc mc ms := by
  intro p e s m args below meth c ok H locs ls hz hP hS hl hst
  obtain ⟨hx, hb, hml, hown, hT, hK, hr, hlk, hin, hs, hao⟩ := id ok
  obtain ⟨h0, hst2⟩ := List.forall_mem_cons.mp hst
  subst hxN
  have hNN : (Int32.ofInt (N : Int)).toNatClampNeg = N := by rw [ix_cl h0]; omega
  refine W.anew hx hb hown (hT.hts _ hw) (va_AO.use hao.2) rfl hd rfl (fun q => ?_) ?_ hcs (by rw [hNN]; exact hsl) (fun cA kA comp f1 f2 f3 f4 => ?_)
  · have := (i32_lt h0 c32_0).mp q
    omega
  · rw [hNN]; omega
  · have hra := (hK.2 5 (dA 5, .object "HairProvince$Years") rfl).2
    obtain ⟨kA', comp', g1, g2, g3, g4⟩ := hra
    have hcA : cA = dA 5 := Option.some.inj (f1.symm.trans g4)
    subst hcA
    rw [hNN]
    generalize hH1 : H.push ({ cls := dA 5, slots := Array.replicate N .null, vm := .none } : Cell) = H1
    have z1 : H1.size = H.size + 1 := by rw [← hH1, Array.size_push]
    have e1 : H1[H.size]? = some (arrV (dA 5) N (fun _ => .null)) := by rw [← hH1, Array.getElem?_push_size, ← arrV_new]
    have o1 : ∀ q : Nat, q < H.size → H1[q]? = H[q]? := fun q hq => by rw [← hH1, Array.getElem?_push, if_neg (Nat.ne_of_lt hq)]
    rw [hz] at e1 z1 o1 ⊢
    refine kk p e s m args below meth c ok H1 locs ls (by omega) (wn_push hP o1 ?_) ⟨Nat.le_trans hS.1 (by omega), fun q h1 h2 => (o1 q (by have := hS.1; omega)).trans (hS.2.1 q h1 h2), hS.2.2⟩ hl (cn_c trivial hst2)
    show H1[base + n]? = some (vp_cell _ _)
    rw [vp_cell_q]
    exact e1
def NW (own : String) (idx ci : Nat) : Prop := ∃ (C : String) (T : u_T) (N : Nat) (ty : Nat → FieldType), CW ci C T N ty ∧ Cond.classLink own idx C ∈ tbf ∧ Cond.instantiable C N ∈ tbf ∧ Cond.initialized C ∈ tbf ∧ ∀ j, j < N → defaultValue (ty j) = vp_V (dflt ci) j
theorem m_new {idx ci : Nat} (hw : NW own idx ci) (hcs : cs + 1 ≤ mc) (hsl : sl + nfl ci ≤ ms) (hd : decode cc pc = .ok (.new idx, 3)) (kk : GN l D dA a1 a2 own cc nL d base (pc + 3) lv (.inr (.inr n) :: st) (n + 1) (va_up ev n (.inr (ci, dflt ci))) (cs + 1) (sl + nfl ci) Qc mc ms) : GN l D dA a1 a2 own cc nL d base pc lv st n ev cs sl Qc mc ms := by
  intro p e s m args below meth c ok H locs ls hz hP hS hl hst
  obtain ⟨hx, hb, hml, hown, hT, hK, hr, hlk, hin, hs, hao⟩ := id ok
  obtain ⟨C, T, N, ty, ⟨hc, hN, hws, hty, hnm⟩, w1, w2, w3, hfs⟩ := hw
  have hKn := hK.1 ci _ hc
  subst hN
  refine W.newcK hx hb hown (hT.hts _ w1) (hT.hts _ w2) (hT.hts _ w3) rfl hd hcs hsl hKn.2.1 hz (fun H1 kC hkC e1 z1 o1 => ?_)
  exact kk p e s m args below meth c ok H1 locs ls (by omega) (wn_push hP o1 ⟨_, hc, (u_born (args := args) ty hT.hts hws hKn hkC e1 hty).to hfs⟩) ⟨Nat.le_trans hS.1 (by omega), fun q h1 h2 => (o1 q (by have := hS.1; omega)).trans (hS.2.1 q h1 h2), hS.2.2⟩ hl (cn_c trivial hst)
/-- a field that is set once -/
def FC (own : String) (idx ci k : Nat) : Prop := ∃ (C : String) (T : u_T) (N : Nat) (ty : Nat → FieldType), CW ci C T N ty ∧ k < N ∧ (T k).2.2.2 = true ∧ (T k).1 = own ∧ (∀ a, narrow (ty k) (.ref a) = .ref a ∧ fits (ty k) (.ref a) = true) ∧ Cond.fieldLink own idx (T k).1 (T k).2.1 (T k).2.2.1 ∈ tbf
theorem m_putr {idx ci k q z : Nat} {fs : List Value} (hf : FC own idx ci k) (hq : q < n) (he : ev q = .inr (ci, fs)) (hlen : k < fs.length) (hd : decode cc pc = .ok (.putfield idx, 3)) (kk : GN l D dA a1 a2 own cc nL d base (pc + 3) lv st n (va_up ev q (.inr (ci, fs.set k (.ref (base + z))))) cs sl Qc mc ms) : GN l D dA a1 a2 own cc nL d base pc lv (.inr (.inr z) :: .inr (.inr q) :: st) n ev cs sl Qc mc ms := by
  intro p e s m args below meth c ok H locs ls hz hP hS hl hst
  obtain ⟨hx, hb, hml, hown, hT, hK, hr, hlk, hin, hs, hao⟩ := id ok
  obtain ⟨h0, hst⟩ := List.forall_mem_cons.mp hst
  obtain ⟨h1, hst⟩ := List.forall_mem_cons.mp hst
  obtain ⟨C, T, N, ty, ⟨hc, hN, hws, hty, hnm⟩, hk, hfin, hdecl, hnf, hlink⟩ := hf
  have hat : (wn base n ev)[q]? = some (base + q, .inr (ci, fs)) := by rw [wn_at hq, he]
  have hap := va_apart (own := own) (args := args) hT.hts hws ty hty hnm hK hc
  obtain ⟨r', h1', cell, q1, q2, q3, q4⟩ := hP q _ hat
  have hr' : r' = (C, T, N) := Option.some.inj (h1'.symm.trans hc)
  subst hr'
  obtain ⟨hSl, hfc, kC, hkC, hkind⟩ := hK.1 ci _ hc
  obtain ⟨cf, kf, fi, f, hi, hsl'⟩ := hSl k hk
  have hlay := hT.hts (A := args) _ (hws _ (u_in_lay hk))
  unfold u_lay at hlay
  rw [if_pos hfin] at hlay
  have hst' := (u_facts hfc hkC (u_lays (args := args) hT.hts hws hk) hi).1
  have hcf : m.cls = cf := by
    obtain ⟨_, _, c', _, _, _, -, -, hf', -, -, -, hown2, -⟩ := Cond.laysFinal_spec hlay
    have e1 : c' = cf := by have := hi.symm.trans hf'; simp at this; exact this.1.symm
    rw [hdecl] at hown2
    rw [← e1]; exact Option.some.inj (hown.symm.trans hown2)
  have h6 := u_fits hfc hkC hkind (Or.inr hlay) hi (hty k hk) (hnf (base + z)).1 (hnf (base + z)).2
  refine W.putFinK hx hb hown (hT.hts _ hlink) hi hst' hcf hin (by rw [q2]; exact h6) q1 q3 (by rw [hsl']; exact k2_hasslot (q4 k hk)) rfl rfl hd fun H' e1 e2 e3 => ?_
  rw [hsl'] at e1 ⊢
  have hP' := hP.set (e := .inr (ci, fs.set k (.ref (base + z)))) wn_D hat ⟨_, hc, t_OB.to (V := updV (vp_V fs) k (.ref (base + z))) ⟨_, e1, q2, q3, t_set q4 hap hk (.ref (base + z))⟩ (fun j _ => vp_updV_set hlen (.ref (base + z)) j)⟩ e3
  rw [wn_set hq] at hP'
  exact kk p e s m args below meth c ok H' _ ls (e2.trans hz) hP' (hS.put e2 e3 (by show base ≤ base + q; omega)) hl hst
theorem m_puti {idx ci k q : Nat} {x : Int} {fs : List Value} (hf : FL own idx ci k) (ht : fty ci k = 0) (hq : q < n) (he : ev q = .inr (ci, fs)) (hlen : k < fs.length) (hd : decode cc pc = .ok (.putfield idx, 3)) (kk : GN l D dA a1 a2 own cc nL d base (pc + 3) lv st n (va_up ev q (.inr (ci, fs.set k (.int (Int32.ofInt x))))) cs sl Qc mc ms) : GN l D dA a1 a2 own cc nL d base pc lv (.inl x :: .inr (.inr q) :: st) n ev cs sl Qc mc ms := by
  intro p e s m args below meth c ok H locs ls hz hP hS hl hst
  obtain ⟨hx, hb, hml, hown, hT, hK, hr, hlk, hin, hs, hao⟩ := id ok
  obtain ⟨h0, hst⟩ := List.forall_mem_cons.mp hst
  obtain ⟨h1, hst⟩ := List.forall_mem_cons.mp hst
  obtain ⟨C, T, N, ty, ⟨hc, hN, hws, hty, hnm⟩, hk, htc, hfin, hlink⟩ := hf
  have hfin : (T k).2.2.2 = false := hfin.resolve_left (by rw [ht]; decide)
  rcases htc with ⟨qq, -⟩ | ⟨-, qq⟩ | ⟨-, qq⟩ | qq
  rotate_left
  · exact absurd (ht.symm.trans qq) (by decide)
  · exact absurd (ht.symm.trans qq) (by decide)
  · exact absurd (ht.symm.trans qq) (by decide)
  have hd2 : parseFieldDescriptor (T k).2.2.1 = some _ := (hty k hk).trans (congrArg some qq)
  have hat : (wn base n ev)[q]? = some (base + q, .inr (ci, fs)) := by rw [wn_at hq, he]
  have hap := va_apart (own := own) (args := args) hT.hts hws ty hty hnm hK hc
  obtain ⟨r', h1', cell, q1, q2, q3, q4⟩ := hP q _ hat
  have hr' : r' = (C, T, N) := Option.some.inj (h1'.symm.trans hc)
  subst hr'
  obtain ⟨hSl, hfc, kC, hkC, hkind⟩ := hK.1 ci _ hc
  obtain ⟨cf, kf, fi, f, hi, hsl'⟩ := hSl k hk
  have hlay := hT.hts (A := args) _ (hws _ (u_in_lay hk))
  unfold u_lay at hlay
  rw [if_neg (by rw [hfin]; decide)] at hlay
  have hst' := (u_facts hfc hkC (u_lays (args := args) hT.hts hws hk) hi).1
  have h6 := u_store hfc hkC hkind hlay hi hd2 (v := .int (Int32.ofInt x)) rfl rfl
  rcases hlink with hlink | ⟨host, hlink⟩
  · refine W.putK hx hb (f := f) ⟨hown, hT.hts _ hlink, ⟨_, _, _, hi⟩, hst'⟩ (by rw [q2]; exact h6) q1 q3 (by rw [hsl']; exact k2_hasslot (q4 k hk)) rfl rfl hd fun H' e1 e2 e3 => ?_
    rw [hsl'] at e1 ⊢
    have hP' := hP.set (e := .inr (ci, fs.set k (.int (Int32.ofInt x)))) wn_D hat ⟨_, hc, t_OB.to (V := updV (vp_V fs) k (.int (Int32.ofInt x))) ⟨_, e1, q2, q3, t_set q4 hap hk (.int (Int32.ofInt x))⟩ (fun j _ => vp_updV_set hlen (.int (Int32.ofInt x)) j)⟩ e3
    rw [wn_set hq] at hP'
    exact kk p e s m args below meth c ok H' _ ls (e2.trans hz) hP' (hS.put e2 e3 (by show base ≤ base + q; omega)) hl hst
  · refine va_WputK hx hb (f := f) hown (hT.hts _ hlink) hi hst' (by rw [q2]; exact h6) q1 q3 (by rw [hsl']; exact k2_hasslot (q4 k hk)) rfl rfl hd fun H' e1 e2 e3 => ?_
    rw [hsl'] at e1 ⊢
    have hP' := hP.set (e := .inr (ci, fs.set k (.int (Int32.ofInt x)))) wn_D hat ⟨_, hc, t_OB.to (V := updV (vp_V fs) k (.int (Int32.ofInt x))) ⟨_, e1, q2, q3, t_set q4 hap hk (.int (Int32.ofInt x))⟩ (fun j _ => vp_updV_set hlen (.int (Int32.ofInt x)) j)⟩ e3
    rw [wn_set hq] at hP'
    exact kk p e s m args below meth c ok H' _ ls (e2.trans hz) hP' (hS.put e2 e3 (by show base ≤ base + q; omega)) hl hst
theorem m_putl {idx ci k q : Nat} {x : Int} {fs : List Value} (hf : FL own idx ci k) (ht : fty ci k = 1) (hq : q < n) (he : ev q = .inr (ci, fs)) (hlen : k < fs.length) (hd : decode cc pc = .ok (.putfield idx, 3)) (kk : GN l D dA a1 a2 own cc nL d base (pc + 3) lv st n (va_up ev q (.inr (ci, fs.set k (.long (Int64.ofInt x))))) cs sl Qc mc ms) : GN l D dA a1 a2 own cc nL d base pc lv (.inr (.inl x) :: .inr (.inr q) :: st) n ev cs sl Qc mc ms := by
  intro p e s m args below meth c ok H locs ls hz hP hS hl hst
  obtain ⟨hx, hb, hml, hown, hT, hK, hr, hlk, hin, hs, hao⟩ := id ok
  obtain ⟨h0, hst⟩ := List.forall_mem_cons.mp hst
  obtain ⟨h1, hst⟩ := List.forall_mem_cons.mp hst
  obtain ⟨C, T, N, ty, ⟨hc, hN, hws, hty, hnm⟩, hk, htc, hfin, hlink⟩ := hf
  have hfin : (T k).2.2.2 = false := hfin.resolve_left (by rw [ht]; decide)
  rcases htc with ⟨-, qq⟩ | ⟨qq, -⟩ | ⟨-, qq⟩ | qq
  · exact absurd (ht.symm.trans qq) (by decide)
  rotate_left
  · exact absurd (ht.symm.trans qq) (by decide)
  · exact absurd (ht.symm.trans qq) (by decide)
  have hd2 : parseFieldDescriptor (T k).2.2.1 = some _ := (hty k hk).trans (congrArg some qq)
  have hat : (wn base n ev)[q]? = some (base + q, .inr (ci, fs)) := by rw [wn_at hq, he]
  have hap := va_apart (own := own) (args := args) hT.hts hws ty hty hnm hK hc
  obtain ⟨r', h1', cell, q1, q2, q3, q4⟩ := hP q _ hat
  have hr' : r' = (C, T, N) := Option.some.inj (h1'.symm.trans hc)
  subst hr'
  obtain ⟨hSl, hfc, kC, hkC, hkind⟩ := hK.1 ci _ hc
  obtain ⟨cf, kf, fi, f, hi, hsl'⟩ := hSl k hk
  have hlay := hT.hts (A := args) _ (hws _ (u_in_lay hk))
  unfold u_lay at hlay
  rw [if_neg (by rw [hfin]; decide)] at hlay
  have hst' := (u_facts hfc hkC (u_lays (args := args) hT.hts hws hk) hi).1
  have h6 := u_store hfc hkC hkind hlay hi hd2 (v := .long (Int64.ofInt x)) rfl rfl
  rcases hlink with hlink | ⟨host, hlink⟩
  · refine W.putK hx hb (f := f) ⟨hown, hT.hts _ hlink, ⟨_, _, _, hi⟩, hst'⟩ (by rw [q2]; exact h6) q1 q3 (by rw [hsl']; exact k2_hasslot (q4 k hk)) rfl rfl hd fun H' e1 e2 e3 => ?_
    rw [hsl'] at e1 ⊢
    have hP' := hP.set (e := .inr (ci, fs.set k (.long (Int64.ofInt x)))) wn_D hat ⟨_, hc, t_OB.to (V := updV (vp_V fs) k (.long (Int64.ofInt x))) ⟨_, e1, q2, q3, t_set q4 hap hk (.long (Int64.ofInt x))⟩ (fun j _ => vp_updV_set hlen (.long (Int64.ofInt x)) j)⟩ e3
    rw [wn_set hq] at hP'
    exact kk p e s m args below meth c ok H' _ ls (e2.trans hz) hP' (hS.put e2 e3 (by show base ≤ base + q; omega)) hl hst
  · refine va_WputK hx hb (f := f) hown (hT.hts _ hlink) hi hst' (by rw [q2]; exact h6) q1 q3 (by rw [hsl']; exact k2_hasslot (q4 k hk)) rfl rfl hd fun H' e1 e2 e3 => ?_
    rw [hsl'] at e1 ⊢
    have hP' := hP.set (e := .inr (ci, fs.set k (.long (Int64.ofInt x)))) wn_D hat ⟨_, hc, t_OB.to (V := updV (vp_V fs) k (.long (Int64.ofInt x))) ⟨_, e1, q2, q3, t_set q4 hap hk (.long (Int64.ofInt x))⟩ (fun j _ => vp_updV_set hlen (.long (Int64.ofInt x)) j)⟩ e3
    rw [wn_set hq] at hP'
    exact kk p e s m args below meth c ok H' _ ls (e2.trans hz) hP' (hS.put e2 e3 (by show base ≤ base + q; omega)) hl hst
theorem m_getr {idx ci k q z : Nat} {fs : List Value} (hf : FL own idx ci k) (hq : q < n) (he : ev q = .inr (ci, fs)) (hv : fs[k]? = some (.ref (base + z))) (hd : decode cc pc = .ok (.getfield idx, 3)) (kk : GN l D dA a1 a2 own cc nL d base (pc + 3) lv (.inr (.inr z) :: st) n ev cs sl Qc mc ms) : GN l D dA a1 a2 own cc nL d base pc lv (.inr (.inr q) :: st) n ev cs sl Qc mc ms := by
  intro p e s m args below meth c ok H locs ls hz hP hS hl hst
  obtain ⟨hx, hb, hml, hown, hT, hK, hr, hlk, hin, hs, hao⟩ := id ok
  obtain ⟨h0, hst⟩ := List.forall_mem_cons.mp hst
  obtain ⟨C, T, N, ty, ⟨hc, hN, hws, hty, hnm⟩, hk, -, -, hlink⟩ := hf
  have hat : (wn base n ev)[q]? = some (base + q, .inr (ci, fs)) := by rw [wn_at hq, he]
  rcases hlink with h | ⟨host, h⟩
  · exact va_get hx hb hT.hts hws hown hK hP q hat hc k hk (hT.hts _ h) (fun _ x => x) hv hd (kk p e s m args below meth c ok H locs ls hz hP hS hl (cn_c trivial hst))
  · exact va_getN hx hb hT.hts hws hown hK hP q hat hc k hk (hT.hts _ h) (fun _ x => x) hv hd (kk p e s m args below meth c ok H locs ls hz hP hS hl (cn_c trivial hst))
theorem m_iast {q N : Nat} {i x : Int} {f : Nat → Int32} (hq : q < n) (he : ev q = .inl (dA 0, N, .inl f)) (hi : 0 ≤ i ∧ i < (N : Int)) (hd : decode cc pc = .ok (.iastore, 1)) (kk : GN l D dA a1 a2 own cc nL d base (pc + 1) lv st n (va_up ev q (.inl (dA 0, N, .inl (upd f i.toNat (Int32.ofInt x))))) cs sl Qc mc ms) : GN l D dA a1 a2 own cc nL d base pc lv (.inl x :: .inl i :: .inr (.inr q) :: st) n ev cs sl Qc mc ms := by
  intro p e s m args below meth c ok H locs ls hz hP hS hl hst
  obtain ⟨hx, hb, hml, hown, hT, hK, hr, hlk, hin, hs, hao⟩ := id ok
  obtain ⟨h0, hst⟩ := List.forall_mem_cons.mp hst
  obtain ⟨h1, hst⟩ := List.forall_mem_cons.mp hst
  obtain ⟨h2, hst⟩ := List.forall_mem_cons.mp hst
  have hat : (wn base n ev)[q]? = some (base + q, .inl (dA 0, N, .inl f)) := by rw [wn_at hq, he]
  have hin' := ix_in h1 hi
  refine W.iast hx hb (hP q _ hat) ((hK.2 0 (dA 0, .int) rfl).1 N (fun j => .int (f j))) (fun q => by cases q) (by show ¬ (_ ∨ (arrV _ _ _).slots.size ≤ _); rw [arrV_size]; exact hin') rfl rfl hd fun H1 e1 e2 e3 => ?_
  have hP' := hP.set (e := .inl (dA 0, N, .inl (upd f i.toNat (Int32.ofInt x)))) wn_D hat (by
    show H1[base + q]? = some (vp_cell _ _)
    rw [e1, vp_cell_i, vp_cell_i, arrV_store, ix_cl h1]
    congr 2
    funext y
    by_cases hy : y = i.toNat
    · subst hy; simp [updV, upd]
    · simp [updV, upd, hy]) e3
  rw [wn_set hq] at hP'
  exact kk p e s m args below meth c ok H1 _ ls (e2.trans hz) hP' (hS.put e2 e3 (by show base ≤ base + q; omega)) hl hst
theorem m_aast {q z ci N t : Nat} {i : Int} {f : Nat → Option Nat} {vs : List Value} {r : vw_C} (ht : (tyl dA)[t]? = some (dA t, .object r.1)) (hc : vwCl[ci]? = some r) (hq : q < n) (he : ev q = .inl (dA t, N, .inr (.inr (.inr (.inr f))))) (hz' : z < n) (hez : ev z = .inr (ci, vs)) (hi : 0 ≤ i ∧ i < (N : Int)) (hd : decode cc pc = .ok (.aastore, 1)) (kk : GN l D dA a1 a2 own cc nL d base (pc + 1) lv st n (va_up ev q (.inl (dA t, N, .inr (.inr (.inr (.inr (va_up f i.toNat (some (base + z))))))))) cs sl Qc mc ms) : GN l D dA a1 a2 own cc nL d base pc lv (.inr (.inr z) :: .inl i :: .inr (.inr q) :: st) n ev cs sl Qc mc ms := by
  intro p e s m args below meth c ok H locs ls hz hP hS hl hst
  obtain ⟨hx, hb, hml, hown, hT, hK, hr, hlk, hin, hs, hao⟩ := id ok
  obtain ⟨h0, hst⟩ := List.forall_mem_cons.mp hst
  obtain ⟨h1, hst⟩ := List.forall_mem_cons.mp hst
  obtain ⟨h2, hst⟩ := List.forall_mem_cons.mp hst
  have hat : (wn base n ev)[q]? = some (base + q, .inl (dA t, N, .inr (.inr (.inr (.inr f))))) := by rw [wn_at hq, he]
  have hav : (wn base n ev)[z]? = some (base + z, .inr (ci, vs)) := by rw [wn_at hz', hez]
  have hin' := ix_in h1 hi
  have hlt : (Int32.ofInt i).toNatClampNeg < N := Nat.not_le.mp fun q => hin' (Or.inr q)
  have h00 : ¬ Int32.ofInt i < 0 := fun q => hin' (Or.inl q)
  obtain ⟨r', hr', cellV, g1, g2, g3, -⟩ := hP z _ hav
  have hcls := (hK.1 ci r hc).2
  obtain ⟨kA, comp, k1, k2, k3, -⟩ := (hK.2 t _ ht).2
  have hcomp : comp = D.1 ci := Option.some.inj (k3.symm.trans hcls.1)
  subst hcomp
  obtain ⟨kC, hkC, -⟩ := hcls.2
  refine W.aast hx hb (hP q _ hat) (fun q h => by cases h) (fun h => by cases h) k1 k2 rfl hkC ⟨h00, by show _ < (arrV _ _ _).slots.size; rw [arrV_size]; exact hlt⟩ g1 (fun q h => by rw [g3] at h; cases h) (by rw [g2]; exact hkC) (by rw [g2]; exact va_assign hcls) rfl rfl hd fun H1 e1 e2 e3 => ?_
  have hP' := hP.set (e := .inl (dA t, N, .inr (.inr (.inr (.inr (va_up f i.toNat (some (base + z)))))))) wn_D hat (by
    show H1[base + q]? = some (vp_cell _ _)
    rw [e1, vp_cell_q, vp_cell_q, arrV_store, ix_cl h1]
    congr 2
    funext y
    by_cases hy : y = i.toNat
    · subst hy; simp [updV, va_up, va_rf]
    · simp [updV, va_up, hy]) e3
  rw [wn_set hq] at hP'
  exact kk p e s m args below meth c ok H1 _ ls (e2.trans hz) hP' (hS.put e2 e3 (by show base ≤ base + q; omega)) hl hst
theorem m_vret (hn : n = n') (he : ∀ q, q < n → ve (ev q) (ev' q)) (hcs : cs ≤ mc) (hsl : sl ≤ ms) (hd : decode cc pc = .ok (.return_, 1)) : GN l D dA a1 a2 own cc nL d base pc lv [] n ev cs sl (QN D base n' ev') mc ms := by
  intro p e s m args below meth c ok H locs ls hz hP hS hl hst
  obtain ⟨hx, hb, hml, hown, hT, hK, hr, hlk, hin, hs, hao⟩ := id ok
  subst hn
  have hP := wn_ve he hP
  exact W.widen hcs hsl (W.vret hx hb hr (fun t ht hW => ⟨⟨rfl, by rw [ht]; exact hz, by rw [ht]; exact hP⟩, hS.F ht⟩) hS.2.2 hd hlk)
/-- a constructor's contract -/
def CQ (l : Launch) (D : va_G) (dA : Nat → ClassId) (a1 a2 ci : Nat) (y : MethodName) (cc : ByteArray) (nL d mc ms : Nat) (Qf : Nat → Array Value → State → Outcome → State → Prop) : Prop :=
  ∀ base, Met l y [.code y cc nL none] (rmn d mc ms) (va_Pc [.ref base] (fun U => U.heap.size = base + 1 ∧ va_P D vwCl (wn base 1 (fun _ => .inr (ci, dflt ci))) U.heap ∧ va_K D vwCl (tyl dA) U ∧ TB U ∧ SS (adS base a1 a2) (fun q => base ≤ q) U ∧ AO U)) (Qf base) mc ms (fun q => base ≤ q)
def CI (l : Launch) (D : va_G) (dA : Nat → ClassId) (a1 a2 ci : Nat) (y : MethodName) (cc : ByteArray) (nL d mc ms : Nat) (K' : Ly) (P' : Nat → Nat → Nat) (σ' : Sg) : Prop :=
  CQ l D dA a1 a2 ci y cc nL d mc ms (fun base => QN D base K'.length (cev dA base K' P' σ'))
theorem ci_mk {ci : Nat} {y : MethodName} {Qf : Nat → Array Value → State → Outcome → State → Prop} (hy : plainName y.cls = true) (hyn : y.name = "<init>") (hn : 1 ≤ nL) (h : ∀ base, GN l D dA a1 a2 y.cls cc nL d base 0 (el [.inr (.inr 0)] nL) [] 1 (fun _ => .inr (ci, dflt ci)) 0 0 (Qf base) mc ms) : CQ l D dA a1 a2 ci y cc nL d mc ms Qf := by
  intro base
  refine Met.ofW (cc := cc) (maxL := nL) (ret := none) hy rfl ?_
  intro p e s m args below meth c s₁ B hml hv
  obtain ⟨rfl, hz, hP, hK, hT, hS, hao⟩ := hv
  have hown : s.vm.findClass y.cls = some m.cls := findClass_of_methodNamed B.named
  have hin : meth.name = "<init>" := (name_of_methodNamed B.named B.method).1.trans hyn
  have hl := lv_entry [Value.ref base] (n := nL) hn
  rw [lg_entry_eq]
  have e1 : ([Value.ref base] : List Value) = ([.inr (.inr 0)] : List Pv).map (en_v (fun z => base + z)) := rfl
  rw [e1] at hl ⊢
  rw [← el_prs [.inr (.inr 0)] nL 0] at hl
  exact h base p e s m _ below meth c ⟨B.exec, B.bytes, hml, hown, hT, hK, B.returns, B.notSynchronized, hin, hS, hao⟩ s.heap [] _ hz hP va_S.rf ⟨hl, el_cn _ nL (cn_c trivial (fun _ h => by cases h))⟩ (fun _ h => by cases h)
theorem SS.narrow {adr adr' : Nat → Nat} {A B : Nat → Prop} {U : State} (h : SS adr A U) (h1 : adr' 9999 = adr 9999) (h2 : adr' 9998 = adr 9998) (hAB : ∀ q, B q → A q) : SS adr' B U := by
  obtain ⟨s1, s2, s3, s4⟩ := h
  refine ⟨by rw [h1]; exact s1, ?_, s3.narrow hAB, s4.narrow hAB⟩
  rw [h1, h2]
  exact s2.narrow hAB
theorem adS_1 {base a1 a2 : Nat} : adS base a1 a2 9999 = a1 := if_pos rfl
theorem adS_2 {base a1 a2 : Nat} : adS base a1 a2 9998 = a2 := (if_neg (by decide)).trans (if_pos rfl)
/-- a constructor's call -/
theorem m_init {y : MethodName} {cc' : ByteArray} {nL' d' mc' ms' idx ci q : Nat} {K' : Ly} {P' : Nat → Nat → Nat} {σ' : Sg} (hm : Cond.code y cc' nL' none ∈ tbf ∧ Cond.initialized y.cls ∈ tbf ∧ (y.cls ≠ "java/lang/invoke/MethodHandle" ∧ y.cls ≠ "java/lang/invoke/VarHandle" ∧ (parseMethodDescriptor y.desc).map (fun d => d.parameters.length) = some 0) ∧ nL' ≤ 45 ∧ y.name = "<init>" ∧ Cond.instanceMethod y ∈ tbf) (hl' : LK own idx y) (hc : CI l D dA a1 a2 ci y cc' nL' d' mc' ms' K' P' σ') (hd' : d' < d) (hcs : cs + mc' ≤ mc) (hsl : sl + ms' ≤ ms) (he : ev q = .inr (ci, dflt ci)) (hq : q + 1 = n) (hsw : stw st ≤ 8) (hd : decode cc pc = .ok (.invokespecial idx, 3)) (kk : GN l D dA a1 a2 own cc nL d base (pc + 3) lv st (q + K'.length) (fun z => if z < q then ev z else cev dA (base + q) K' P' σ' (z - q)) (cs + mc') (sl + ms') Qc mc ms) : GN l D dA a1 a2 own cc nL d base pc lv (.inr (.inr q) :: st) n ev cs sl Qc mc ms := by
  intro p e s m args below meth c ok H locs ls hz hP hS hl hst
  obtain ⟨hx, hb, hml, hown, hT, hK, hr, hlk, hin, hs, hao⟩ := id ok
  obtain ⟨h0, hst⟩ := List.forall_mem_cons.mp hst
  obtain ⟨m1, m2, m3, m4, m5, m6⟩ := hm
  have hM := hc (base + q)
  have hP1 : va_P D vwCl (wn (base + q) 1 (fun _ => .inr (ci, dflt ci))) H := by
    intro k x hx'
    obtain ⟨hk, rfl⟩ := wn_of hx'
    have hk0 : k = 0 := by omega
    subst hk0
    have := hP q _ (wn_at (by omega))
    rw [he] at this
    exact this
  have hSS : ∀ U : State, s.WarmedH U.vm → U.heap = H → SS (adS (base + q) a1 a2) (fun z => base + q ≤ z) U := fun U hW hU =>
    (hs.moved hW (fun a h1 h2 => by rw [hU]; exact hS.2.1 a h1 h2)).narrow (adS_1.trans adS_1.symm) (adS_2.trans adS_2.symm) (fun z (h : base + q ≤ z) => by show base ≤ z; omega)
  have hpre : PreS s H (va_Pc [.ref (base + q)] (fun U => U.heap.size = base + q + 1 ∧ va_P D vwCl (wn (base + q) 1 (fun _ => .inr (ci, dflt ci))) U.heap ∧ va_K D vwCl (tyl dA) U ∧ TB U ∧ SS (adS (base + q) a1 a2) (fun z => base + q ≤ z) U ∧ AO U)) (.ref (base + q) :: []) := by
    refine ⟨?_, fun U hU hW => ⟨rfl, by rw [hU]; omega, by rw [hU]; exact hP1, va_K.moved hW.alike hK, hT.warm hW, hSS U hW hU, hao.moved hW.alike⟩⟩
    intro a U g mk h
    obtain ⟨h0, h1, h2, h3, h4, h5, h6⟩ := h
    have hW : U.WarmedH (U.calling g mk a).vm := State.WarmedH.refl U
    exact ⟨h0, h1, h2, va_K.moved hW.alike h3, h4.warm hW, h5.moved hW (fun _ _ _ => rfl), h6.moved hW.alike⟩
  have hws : ∀ w ∈ [Cond.code y cc' nL' none], ∀ (a' : Array Value) (U : State), s.WarmedH U.vm → w.before a' U = true := by
    intro w hw a' U hW
    rw [List.mem_singleton.mp hw]
    exact (hT.warm hW).hts _ m1
  have hroom : (rmn d' mc' ms').frames + 1 ≤ (rmn d mc ms).frames ∧ 8 + (nL' + 11) + (rmn d' mc' ms').locals ≤ (rmn d mc ms).locals := by
    refine ⟨hd', ?_⟩
    show 8 + (nL' + 11) + 64 * d' ≤ 64 * d
    omega
  have hlen : ∀ sig, parseMethodDescriptor y.desc = some sig → 0 = sig.parameters.length := fun sig h => by
    have h2 := m3.2.2
    rw [h] at h2
    exact (Option.some.inj h2).symm
  have hgo : va_Run p l e (rmn d mc ms) s m args below meth c H locs cs sl mc' ms' (F0 m pc ls (.ref (base + q) :: st.map (en_v (fun z => base + z)))) (st.map (en_v (fun z => base + z))) (QN D (base + q) K'.length (cev dA (base + q) K' P' σ') (Value.ref (base + q) :: []).toArray) (fun z => base + q ≤ z) := by
    rcases hl' with h | ⟨host, h⟩
    · exact va_runI (Ts := tbf) (As := []) ⟨hx, hb, hml, hown, hT.hts⟩ hM ⟨⟨rfl, rfl, hroom.1, hroom.2, hws, List.mem_singleton.mpr rfl, hT.hts _ m1, hT.hts _ m2, ⟨m3.1, m3.2.1⟩, hlen, hT.hts _ h⟩, m5, hT.hts _ m6⟩ hpre rfl rfl hl.1.1 rfl (lv_room (by rw [en_stw]; exact hsw)) hd ⟨hcs, hsl⟩
    · exact va_runIN (Ts := tbf) (As := []) ⟨hx, hb, hml, hown, hT.hts⟩ hM ⟨⟨⟨rfl, rfl, hroom.1, hroom.2, hws, List.mem_singleton.mpr rfl⟩, hT.hts _ m1, hT.hts _ m2, ⟨m3.1, m3.2.1⟩, hlen, hT.hts _ h⟩, m5, hT.hts _ m6⟩ hpre rfl rfl hl.1.1 rfl (lv_room (by rw [en_stw]; exact hsw)) hd ⟨hcs, hsl⟩
  intro T0 hT0 X
  obtain ⟨v, st₀, t, T', L, g0, X', hL, e1, e2, ⟨⟨hv, hsz, hpp⟩, hzz, hkk⟩, stp⟩ := hgo T0 hT0 X
  cases hv
  rw [g0] at hzz hkk
  have hsz' : T'.heap.size = base + (q + K'.length) := by rw [e1]; omega
  have hP' : va_P D vwCl (wn base (q + K'.length) (fun z => if z < q then ev z else cev dA (base + q) K' P' σ' (z - q))) T'.heap := by
    rw [e1]
    intro k x hx'
    obtain ⟨hk, rfl⟩ := wn_of hx'
    by_cases hkq : k < q
    · simp only [if_pos hkq]
      exact (hP k _ (wn_at (by omega))).kept (hkk _ (by show base + k < H.size; omega) (by show ¬ base + q ≤ base + k; omega))
    · simp only [if_neg hkq]
      have := hpp (k - q) _ (wn_at (by omega))
      rw [show base + q + (k - q) = base + k by omega] at this
      exact this
  obtain ⟨t2, b1, b2⟩ := kk p e s m args below meth c ok T'.heap (locs ++ L) ls hsz' hP'
    ⟨by rw [e1]; exact Nat.le_trans hS.1 hzz, fun z h1 h2 => by
      rw [e1, hkk z (Nat.lt_of_lt_of_le h1 hS.1) (fun (h : base + q ≤ z) => h2 (by show base ≤ z; omega))]
      exact hS.2.1 z h1 h2, fun z hz => by
      rcases List.mem_append.mp hz with h | h
      · exact hS.2.2 z h
      · have : base + q ≤ z.base := hL z h
        show base ≤ z.base
        omega⟩ hl hst T' rfl X'
  exact ⟨t2, stp t2 b1, b2⟩
def QM (D : va_G) (dA : Nat → ClassId) (a1 a2 : Nat) (K' : Ly) (P' : Nat → Nat → Nat) (σ' : Sg) (base : Nat) : Array Value → State → Outcome → State → Prop := fun _ st oc t =>
  (oc = .returned none ∧ va_P D vwCl (ws_l K' P' (adS base a1 a2) dA σ') t.heap) ∧ va_F (fun q => base ≤ q) st t
theorem ad_in {K' : Ly} (h : K'.length ≤ 9000) {q : Nat} (hq : Ad K' (adS base a1 a2) q) : base ≤ q ∧ q < base + K'.length := by
  obtain ⟨z, hz, rfl⟩ := hq
  unfold adS
  rw [if_neg (by omega), if_neg (by omega)]
  omega
theorem ad_D {K' : Ly} {P' : Nat → Nat → Nat} {σ' : Sg} (h : K'.length ≤ 9000) : va_D (Ad K' (adS base a1 a2)) (ws_l K' P' (adS base a1 a2) dA σ') := by
  have key : ∀ (k : Nat) (x : Nat × va_E), (ws_l K' P' (adS base a1 a2) dA σ')[k]? = some x → k < K'.length ∧ x.1 = base + k := by
    intro k x hx
    unfold ws_l at hx
    rw [List.getElem?_map] at hx
    by_cases hk : k < K'.length
    · rw [List.getElem?_range hk] at hx
      cases hx
      refine ⟨hk, ?_⟩
      show adS base a1 a2 k = _
      unfold adS
      rw [if_neg (by omega), if_neg (by omega)]
    · rw [List.getElem?_eq_none (by simpa using hk)] at hx
      cases hx
  refine ⟨fun i j x y hx hy hxy => ?_, fun k x hx => ?_⟩
  · have h1 := (key _ _ hx).2
    have h2 := (key _ _ hy).2
    omega
  · obtain ⟨h1, h2⟩ := key _ _ hx
    refine ⟨k, h1, ?_⟩
    rw [h2]
    unfold adS
    rw [if_neg (by omega), if_neg (by omega)]
theorem wn_ws {K' : Ly} {P' : Nat → Nat → Nat} {σ' : Sg} {H : Heap} (h : K'.length ≤ 9000) (hn : K'.length = n) (he : ∀ q, q < n → ve (ev q) (ce_l (adS base a1 a2) dA (P' q) (σ' q) (K'.getD q (.inl 0)))) (hP : va_P D vwCl (wn base n ev) H) : va_P D vwCl (ws_l K' P' (adS base a1 a2) dA σ') H := by
  intro k x hx
  unfold ws_l at hx
  rw [List.getElem?_map] at hx
  by_cases hk : k < K'.length
  · rw [List.getElem?_range hk] at hx
    cases hx
    have h1 := he k (by omega) D _ H (hP k _ (wn_at (by omega)))
    have e1 : adS base a1 a2 k = base + k := by
      unfold adS
      rw [if_neg (by omega), if_neg (by omega)]
    show va_at D vwCl (adS base a1 a2 k, _) H
    rw [e1]
    exact h1
  · rw [List.getElem?_eq_none (by simpa using hk)] at hx
    cases hx
theorem m_last {y : MethodName} {cc' : ByteArray} {nL' d' n'' idx ci : Nat} {as : List Pv} {K' : Ly} {P' : Nat → Nat → Nat} {σ σ1 : Sg} {r : Int} {T : u_T} {N : Nat} (hm : MW y cc' nL' 2 n'' false) (hl' : LK own idx y) (hci : vwCl[ci]? = some (y.cls, T, N)) (hK0 : K'[0]? = some (.inl ci)) (hc : MC l K' P' y cc' nL' 2 d' (.inr (.inr 0) :: as) σ (some (r, σ1))) (hd' : d' < d) (hn : as.length = n'') (hKl : K'.length ≤ 9000) (hKn : K'.length = n) (he : ∀ q, q < n → ve (ev q) (ce_l (adS base a1 a2) dA (P' q) (σ q) (K'.getD q (.inl 0)))) (hcn : cn_s K' σ) (has : as.map (en_v (fun z => base + z)) = as.map (en_v (adS base a1 a2))) (hcs : cs ≤ mc) (hsl : sl ≤ ms) (hd : decode cc pc = .ok (.invokevirtual idx, 3)) (hd2 : decode cc (pc + 3) = .ok (.return_, 1)) : GN l D dA a1 a2 own cc nL d base pc lv (as.reverse ++ [.inr (.inr 0)]) n ev cs sl (QM D dA a1 a2 K' P' σ1 base) mc ms := by
  intro p e s m args below meth c ok H locs ls hz hP hS hl hst
  obtain ⟨hx, hb, hml, hown, hT, hK, hr, hlk, hin, hs, hao⟩ := id ok
  obtain ⟨m1, m2, m3, m4, m5⟩ := hm
  rw [if_neg (by decide)] at m5
  have hst1 : ∀ v ∈ (.inr (.inr 0) :: as : List Pv), cn_v v := cn_c trivial (fun v hv => hst v (List.mem_append_left _ (List.mem_reverse.mpr hv)))
  have hPw := wn_ws hKl hKn he hP
  have hM := hc (adS base a1 a2) D dA r σ1 rfl
  have hat : (ws_l K' P' (adS base a1 a2) dA σ)[0]? = some (adS base a1 a2 0, .inr (ci, fl_v (adS base a1 a2) (P' 0) (σ 0) ci)) := ws_at hK0
  have hS0 : ∀ U : State, s.WarmedH U.vm → U.heap = H → SS (adS base a1 a2) (Ad K' (adS base a1 a2)) U := fun U hW hU =>
    (hs.moved hW (fun a h1 h2 => by rw [hU]; exact hS.2.1 a h1 h2)).narrow (adS_1.trans adS_1.symm) (adS_2.trans adS_2.symm) (fun z h => (ad_in hKl h).1)
  have hpre : PreV s H y.cls (adS base a1 a2 0) (va_Pc ((.inr (.inr 0) :: as : List Pv).map (en_v (adS base a1 a2))) (BB K' P' (adS base a1 a2) D dA (.inr (.inr 0) :: as) σ)) (as.map (en_v (adS base a1 a2))) :=
    ⟨BB.blind, va_recv hK hPw hci hat, fun U hU hW => ⟨rfl, by rw [hU]; exact hPw, ad_D hKl, va_K.moved hW.alike hK, hT.warm hW, hS0 U hW hU, hcn, hst1⟩⟩
  have hws : ∀ w ∈ [Cond.code y cc' nL' (rty 2)], ∀ (a' : Array Value) (U : State), s.WarmedH U.vm → w.before a' U = true := by
    intro w hw a' U hW
    rw [List.mem_singleton.mp hw]
    exact (hT.warm hW).hts _ m1
  have hroom : (rmd d').frames + 1 ≤ (rmn d mc ms).frames ∧ 8 + (nL' + 11) + (rmd d').locals ≤ (rmn d mc ms).locals := by
    refine ⟨hd', ?_⟩
    show 8 + (nL' + 11) + 64 * d' ≤ 64 * d
    omega
  have hlen : ∀ sig, parseMethodDescriptor y.desc = some sig → n'' = sig.parameters.length := fun sig h => by
    have h2 := m3.2.2
    rw [h] at h2
    exact (Option.some.inj h2).symm
  have hstack : ((as.reverse ++ [Sum.inr (Sum.inr 0)]).map (en_v (fun z => base + z))) = (as.map (en_v (adS base a1 a2))).reverse ++ .ref (adS base a1 a2 0) :: [] := by rw [List.map_append, List.map_reverse, has]; rfl
  have hgo : va_Run p l e (rmn d mc ms) s m args below meth c H locs cs sl 0 0 (F0 m pc ls ((as.reverse ++ [Sum.inr (Sum.inr 0)]).map (en_v (fun z => base + z)))) [] (QQ K' P' (adS base a1 a2) D dA 2 r σ1 (Value.ref (adS base a1 a2 0) :: as.map (en_v (adS base a1 a2))).toArray) (Ad K' (adS base a1 a2)) := by
    rcases hl' with h | ⟨host, h⟩
    · exact va_runV (Ts := tbf) ⟨hx, hb, hml, hown, hT.hts⟩ hM ⟨⟨rfl, rfl, hroom.1, hroom.2, hws, List.mem_singleton.mpr rfl, hT.hts _ m1, hT.hts _ m2, ⟨m3.1, m3.2.1⟩, hlen, hT.hts _ h⟩, hT.hts _ m5.1, hT.hts _ m5.2⟩ hpre rfl (by simpa using hn) hl.1.1 hstack (lv_room (Nat.le_of_ble_eq_true rfl)) hd ⟨hcs, hsl⟩
    · exact va_runVN (Ts := tbf) ⟨hx, hb, hml, hown, hT.hts⟩ hM ⟨⟨⟨rfl, rfl, hroom.1, hroom.2, hws, List.mem_singleton.mpr rfl⟩, hT.hts _ m1, hT.hts _ m2, ⟨m3.1, m3.2.1⟩, hlen, hT.hts _ h⟩, hT.hts _ m5.1, hT.hts _ m5.2⟩ hpre rfl (by simpa using hn) hl.1.1 hstack (lv_room (Nat.le_of_ble_eq_true rfl)) hd ⟨hcs, hsl⟩
  intro T0 hT0 X
  obtain ⟨v, st₀, t, T', L, g0, X', hL, e1, e2, ⟨⟨hv, hcr, hcn1, hpp⟩, hzz, hkk⟩, stp⟩ := hgo T0 hT0 X
  cases hv
  rw [g0] at hzz hkk
  have hS' : va_S (fun q => base ≤ q) s.heap T'.heap (locs ++ L) := ⟨by rw [e1]; exact Nat.le_trans hS.1 hzz, fun z h1 h2 => by
      rw [e1, hkk z (Nat.lt_of_lt_of_le h1 hS.1) (fun h => h2 (ad_in hKl h).1)]
      exact hS.2.1 z h1 h2, fun z hz => by
      rcases List.mem_append.mp hz with h | h
      · exact hS.2.2 z h
      · exact (ad_in hKl (hL z h)).1⟩
  obtain ⟨t2, b1, b2⟩ := (W.widen hcs hsl (W.vret (Qc := QM D dA a1 a2 K' P' σ1 base) (free := fun q => base ≤ q) (ls := ls) hx hb hr (fun t' ht hW => ⟨⟨rfl, by rw [ht, e1]; exact hpp⟩, hS'.F ht⟩) hS'.2.2 hd2 hlk)) T' rfl X'
  exact ⟨t2, stp t2 b1, b2⟩
end GNR
