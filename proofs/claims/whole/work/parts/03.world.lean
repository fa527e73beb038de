/-! the world that a store tells: every cell of a system by its number -/
def ftab : List (List Nat) := [[4, 4, 4, 4, 0], [4, 0, 4, 4], [4, 4, 0, 0], [4, 4], [4, 4, 4, 4, 4, 4, 4, 4, 4, 4, 0, 0, 0, 0, 0, 0, 0, 0, 0, 0], [4], [4, 0, 0, 4, 0, 0, 0, 0, 1, 0, 1, 0, 0, 4], [4, 4, 4], [4, 4, 4, 4, 4, 0, 0, 3], [0, 1, 1, 0, 0, 0, 4, 4, 4, 4, 4, 4, 4, 4, 4, 4, 4, 4, 4, 4], [0, 0, 1, 1, 4, 4, 4, 4, 0, 0, 0, 0, 0, 0, 0, 0, 0, 0, 0, 1, 4, 4, 4, 4, 0, 0, 0, 0, 0, 4, 4, 4, 4, 0, 4, 3, 3, 0, 0, 0, 0, 0, 0, 0]]
def fty (ci k : Nat) : Nat := (ftab.getD ci []).getD k 9
def nfl (ci : Nat) : Nat := (ftab.getD ci []).length
def en_v (adr : Nat → Nat) : Pv → Value
  | .inl x => .int (Int32.ofInt x)
  | .inr (.inl x) => .long (Int64.ofInt x)
  | .inr (.inr a) => .ref (adr a)
def cn_v : Pv → Prop
  | .inl x => c32 x
  | .inr (.inl x) => c64 x
  | .inr (.inr _) => True
/-- a field's value by its type -/
def fv_v (adr : Nat → Nat) (q : Nat → Nat) (f : Nat → Int) (k t : Nat) : Value := match t with
  | 0 => .int (Int32.ofInt (f k))
  | 1 => .long (Int64.ofInt (f k))
  | 3 => .int (Int32.ofInt (f k))
  | _ => .ref (adr (q k))
def fl_v (adr : Nat → Nat) (q : Nat → Nat) (f : Nat → Int) (ci : Nat) : List Value := (List.range (nfl ci)).map (fun k => fv_v adr q f k (fty ci k))
def ar_v (adr : Nat → Nat) (q : Nat → Nat) (f : Nat → Int) (t : Nat) : (Nat → Int32) ⊕ (Nat → Int64) ⊕ (Nat → UInt32) ⊕ (Nat → UInt64) ⊕ (Nat → Option Nat) := match t with
  | 1 => .inr (.inl (fun j => Int64.ofInt (f j)))
  | 4 => .inr (.inr (.inr (.inr (fun j => some (adr (q j))))))
  | 5 => .inr (.inr (.inr (.inr (fun j => some (adr (q j))))))
  | _ => .inl (fun j => Int32.ofInt (f j))
def ce_l (adr : Nat → Nat) (dA : Nat → ClassId) (q : Nat → Nat) (f : Nat → Int) : Nat ⊕ (Nat × Nat) → va_E
  | .inl ci => .inr (ci, fl_v adr q f ci)
  | .inr tn => .inl (dA tn.1, tn.2, ar_v adr q f tn.1)
def ws_l (K : Ly) (P : Nat → Nat → Nat) (adr : Nat → Nat) (dA : Nat → ClassId) (σ : Sg) : va_W :=
  (List.range K.length).map (fun o => (adr o, ce_l adr dA (P o) (σ o) (K.getD o (.inl 0))))
def tyl (dA : Nat → ClassId) : List (ClassId × FieldType) := [(dA 0, .int), (dA 1, .long), (dA 2, .byte), (dA 3, .boolean), (dA 4, .object "HairProvince$Province"), (dA 5, .object "HairProvince$Years")]
def Ad (K : Ly) (adr : Nat → Nat) : Nat → Prop := fun q => ∃ o, o < K.length ∧ q = adr o
theorem ws_at {K : Ly} {P : Nat → Nat → Nat} {adr : Nat → Nat} {dA : Nat → ClassId} {σ : Sg} {o : Nat} {κ : Nat ⊕ (Nat × Nat)} (h : K[o]? = some κ) : (ws_l K P adr dA σ)[o]? = some (adr o, ce_l adr dA (P o) (σ o) κ) := by
  have ho : o < K.length := (List.getElem?_eq_some_iff.mp h).1
  unfold ws_l
  rw [List.getElem?_map, List.getElem?_range ho]
  simp [List.getD, h]
theorem ws_set {K : Ly} {P : Nat → Nat → Nat} {adr : Nat → Nat} {dA : Nat → ClassId} {σ σ1 : Sg} {o : Nat} {κ : Nat ⊕ (Nat × Nat)} (h : K[o]? = some κ) {e : va_E} (he : e = ce_l adr dA (P o) (σ1 o) κ) (hσ : ∀ a, a ≠ o → σ1 a = σ a) : (ws_l K P adr dA σ).set o (adr o, e) = ws_l K P adr dA σ1 := by
  have ho : o < K.length := (List.getElem?_eq_some_iff.mp h).1
  apply List.ext_getElem?
  intro i
  rw [List.getElem?_set]
  unfold ws_l
  by_cases hi : o = i
  · subst hi
    have hg : K.getD o (.inl 0) = κ := by simp [List.getD, h]
    rw [if_pos rfl, List.getElem?_map, List.getElem?_range ho]
    simp only [Option.map_some, hg, he, List.length_map, List.length_range, if_pos ho]
  · rw [if_neg hi, List.getElem?_map, List.getElem?_map]
    by_cases hl : i < K.length
    · rw [List.getElem?_range hl]
      simp [hσ i (fun q => hi q.symm)]
    · rw [List.getElem?_eq_none (by simpa using hl)]; rfl
/-- what numbers the cells may hold -/
def cn_k : Nat ⊕ (Nat × Nat) → Nat → Int → Prop
  | .inl ci, k, x => (fty ci k = 1 → c64 x) ∧ (fty ci k ≠ 1 → c32 x)
  | .inr tn, _, x => (tn.1 = 1 → c64 x) ∧ (tn.1 ≠ 1 → c32 x)
def cn_s (K : Ly) (σ : Sg) : Prop := ∀ (o : Nat) (κ : Nat ⊕ (Nat × Nat)), K[o]? = some κ → ∀ k, cn_k κ k (σ o k)
/-! words of the tables, moved along -/
def ok_w : Cond → Bool
  | .methodLinkNest _ _ _ _ => true
  | .fieldLinkNest _ _ _ _ _ _ => true
  | w => goodWord w
def TB (U : State) : Prop := ∀ w ∈ lw_tbl, ok_w w = true → w.before #[] U = true
theorem ok_w_warm {s U : State} (hW : s.WarmedH U.vm) {w : Cond} (ho : ok_w w = true) {A A' : Array Value} (h : w.before A s = true) : w.before A' U = true := by
  by_cases h1 : goodWord w = true
  · exact word_at hW (good_of_word h1) h
  · cases w <;> first | exact va_Nw.use rfl (va_Nw.warmM hW (va_Nw.of rfl h)) | exact va_Nw.use rfl (va_Nw.warmF hW (va_Nw.of rfl h)) | exact absurd ho h1
theorem TB.warm {s U : State} (hW : s.WarmedH U.vm) (h : TB s) : TB U := fun w hw ho => ok_w_warm hW ho (h w hw ho)
theorem TB.use {s : State} (h : TB s) {A : Array Value} {w : Cond} (hw : w ∈ lw_tbl) (ho : ok_w w = true) : w.before A s = true := ok_w_warm (State.WarmedH.refl s) ho (h w hw ho)
abbrev tbf : List Cond := lw_tbl.filter ok_w
theorem TB.hts {s : State} (h : TB s) {A : Array Value} : ∀ w ∈ tbf, w.before A s = true := fun w hw => h.use (List.mem_filter.mp hw).1 (List.mem_filter.mp hw).2
theorem tbf_in {ws : List Cond} (h : ∀ w ∈ ws, w ∈ lw_tbl) (ho : ws.all ok_w = true) : ∀ w ∈ ws, w ∈ tbf := fun w hw => List.mem_filter.mpr ⟨h w hw, List.all_eq_true.mp ho w hw⟩
/-- a class's own rows -/
def CW (ci : Nat) (C : String) (T : u_T) (N : Nat) (ty : Nat → FieldType) : Prop :=
  vwCl[ci]? = some (C, T, N) ∧ N = nfl ci ∧ (∀ w ∈ u_ws C T N, w ∈ tbf) ∧ (∀ k, k < N → parseFieldDescriptor (T k).2.2.1 = some (ty k)) ∧ (∀ a, a < N → ∀ b, b < N → a ≠ b → (T a).2.1 ≠ (T b).2.1)
/-- a field's link -/
def FL (own : String) (idx ci k : Nat) : Prop := ∃ (C : String) (T : u_T) (N : Nat) (ty : Nat → FieldType), CW ci C T N ty ∧ k < N ∧ (ty k = .int ∧ fty ci k = 0 ∨ ty k = .long ∧ fty ci k = 1 ∨ ty k = .boolean ∧ fty ci k = 3 ∨ fty ci k = 4) ∧ (fty ci k = 4 ∨ (T k).2.2.2 = false) ∧
  (Cond.fieldLink own idx (T k).1 (T k).2.1 (T k).2.2.1 ∈ tbf ∨ ∃ host, Cond.fieldLinkNest own idx (T k).1 (T k).2.1 (T k).2.2.1 host ∈ tbf)
/-! string constants and statics that nobody writes -/
def ks_t : String := "heard odds word grows grey person temper barber keeps dinner every halves day keep say to cut by any when knows hair loop end stop "
def ks_b : List Int32 := ks_t.toList.map (fun ch => Int32.ofNat ch.toNat)
def SS (adr : Nat → Nat) (A : Nat → Prop) (U : State) : Prop :=
  vk_R "HairProvince$Tokens" 26 ks_t (adr 9999) U ∧ vk_S 1 [131] [ks_b] (fun _ => adr 9999) (fun _ => adr 9998) A U U.heap ∧ va_Z "java/lang/String" "COMPACT_STRINGS" "Z" (.int 1) A U U.heap ∧ va_Zq "jdk/internal/util/Preconditions" "SIOOBE_FORMATTER" "Ljava/util/function/BiFunction;" A U U.heap
theorem ks_n : ks_b.length = 131 := by decide +kernel
/-! the judgement -/
def rmd (d : Nat) : Room := { frames := d, cells := 0, slots := 0, locals := 64 * d }
def rty (rt : Nat) : Option FieldType := match rt with
  | 0 => some .int
  | 1 => some .long
  | 2 => none
  | 3 => some .boolean
  | 4 => some .char
  | _ => some .byte
def rv_v (rt : Nat) (r : Int) : Option Value := match rt with
  | 1 => some (.long (Int64.ofInt r))
  | 2 => none
  | _ => some (.int (Int32.ofInt r))
def cn_r (rt : Nat) (r : Int) : Prop := match rt with
  | 1 => c64 r
  | 2 => True
  | _ => c32 r
def QQ (K : Ly) (P : Nat → Nat → Nat) (adr : Nat → Nat) (D : va_G) (dA : Nat → ClassId) (rt : Nat) (r : Int) (σ' : Sg) : Array Value → State → Outcome → State → Prop := fun _ st oc t =>
  (oc = .returned (rv_v rt r) ∧ cn_r rt r ∧ cn_s K σ' ∧ va_P D vwCl (ws_l K P adr dA σ') t.heap) ∧ va_F (Ad K adr) st t
def OK (K : Ly) (own : String) (cc : ByteArray) (nL rt : Nat) (p : Program) (s : State) (m : MethodId) (meth : Method) (c : Code) (adr : Nat → Nat) (D : va_G) (dA : Nat → ClassId) : Prop :=
  p.tables.exec = Jvm.exec ∧ c.code = cc ∧ c.maxLocals = nL ∧ s.vm.findClass own = some m.cls ∧ TB s ∧ va_K D vwCl (tyl dA) s ∧ meth.sig.returnType = rty rt ∧ meth.locks = false ∧ SS adr (Ad K adr) s
def IN (K : Ly) (P : Nat → Nat → Nat) (s : State) (adr : Nat → Nat) (D : va_G) (dA : Nat → ClassId) (σ : Sg) (H : Heap) (locs : List Loc) : Prop :=
  va_P D vwCl (ws_l K P adr dA σ) H ∧ va_D (Ad K adr) (ws_l K P adr dA σ) ∧ va_S (Ad K adr) s.heap H locs ∧ cn_s K σ
def prs (adr : Nat → Nat) : Nat → List (Option Pv) → List (Nat × Value)
  | _, [] => []
  | k, some v :: r => (k, en_v adr v) :: prs adr (k + 1) r
  | k, none :: r => prs adr (k + 1) r
def LR (adr : Nat → Nat) (nL : Nat) (lv : List (Option Pv)) (ls : Array Slot) : Prop := lv_has ls nL (prs adr 0 lv) ∧ ∀ v, some v ∈ lv → cn_v v
def G (l : Launch) (K : Ly) (P : Nat → Nat → Nat) (own : String) (cc : ByteArray) (nL rt d pc : Nat) (lv : List (Option Pv)) (st : List Pv) (σ : Sg) (R : Rs) : Prop :=
  ∀ (p : Program) (e : Env) (s : State) (m : MethodId) (args : Array Value) (below : List Frame) (meth : Method) (c : Code) (adr : Nat → Nat) (D : va_G) (dA : Nat → ClassId) (r : Int) (σ' : Sg),
    OK K own cc nL rt p s m meth c adr D dA → ∀ (H : Heap) (locs : List Loc) (ls : Array Slot), IN K P s adr D dA σ H locs → LR adr nL lv ls → (∀ v ∈ st, cn_v v) → R = some (r, σ') →
    W p l e (rmd d) s m args below meth c H locs 0 0 (MQ below (QQ K P adr D dA rt r σ') args s 0 0 (Ad K adr)) (F0 m pc ls (st.map (en_v adr)))
theorem G.none_ {l : Launch} {K : Ly} {P : Nat → Nat → Nat} {own : String} {cc : ByteArray} {nL rt d pc : Nat} {lv : List (Option Pv)} {st : List Pv} {σ : Sg} : G l K P own cc nL rt d pc lv st σ none := by
  intro p e s m args below meth c adr D dA r σ' _ H locs ls _ _ _ h
  cases h
theorem prs_mem {adr : Nat → Nat} {lv : List (Option Pv)} {k : Nat} {q : Nat × Value} : q ∈ prs adr k lv ↔ ∃ (i : Nat) (v : Pv), lv[i]? = some (some v) ∧ q = (k + i, en_v adr v) := by
  induction lv generalizing k with
  | nil => simp [prs]
  | cons a r ih =>
    cases a with
    | none =>
      simp only [prs]
      rw [ih]
      constructor
      · rintro ⟨i, v, h, rfl⟩
        exact ⟨i + 1, v, by simpa using h, by rw [Nat.add_assoc, Nat.add_comm 1 i]⟩
      · rintro ⟨i, v, h, rfl⟩
        cases i with
        | zero => simp at h
        | succ i => exact ⟨i, v, by simpa using h, by rw [Nat.add_assoc, Nat.add_comm 1 i]⟩
    | some w =>
      simp only [prs, List.mem_cons]
      rw [ih]
      constructor
      · rintro (rfl | ⟨i, v, h, rfl⟩)
        · exact ⟨0, w, rfl, rfl⟩
        · exact ⟨i + 1, v, by simpa using h, by rw [Nat.add_assoc, Nat.add_comm 1 i]⟩
      · rintro ⟨i, v, h, rfl⟩
        cases i with
        | zero => left; simp at h; subst h; rfl
        | succ i => right; exact ⟨i, v, by simpa using h, by rw [Nat.add_assoc, Nat.add_comm 1 i]⟩
theorem LR.at_ {adr : Nat → Nat} {nL : Nat} {lv : List (Option Pv)} {ls : Array Slot} (h : LR adr nL lv ls) {i : Nat} {v : Pv} (hi : lv[i]? = some (some v)) : ls[i]? = some (.val (en_v adr v)) :=
  h.1.2.2 (i, en_v adr v) (prs_mem.mpr ⟨i, v, hi, by rw [Nat.zero_add]⟩)
theorem LR.cn {adr : Nat → Nat} {nL : Nat} {lv : List (Option Pv)} {ls : Array Slot} (h : LR adr nL lv ls) {i : Nat} {v : Pv} (hi : lv[i]? = some (some v)) : cn_v v := h.2 v (List.mem_of_getElem? hi)
/-- storing into the locals -/
def kl1 (lv : List (Option Pv)) (j : Nat) : List (Option Pv) := match lv[j]? with
  | some (some (.inr (.inl _))) => lv.set j none
  | _ => lv
def kl (lv : List (Option Pv)) (i : Nat) : List (Option Pv) := match i with
  | 0 => lv
  | j + 1 => kl1 lv j
def s1_l (lv : List (Option Pv)) (i : Nat) (v : Pv) : List (Option Pv) := (kl lv i).set i (some v)
def s2_l (lv : List (Option Pv)) (i : Nat) (v : Pv) : List (Option Pv) := ((kl lv i).set i (some v)).set (i + 1) none
theorem kl_at {lv : List (Option Pv)} {i j : Nat} {v : Pv} (h : (kl lv i)[j]? = some (some v)) : lv[j]? = some (some v) ∧ ¬ (j + 1 = i ∧ ∃ x, v = .inr (.inl x)) := by
  cases i with
  | zero => exact ⟨h, fun q => by omega⟩
  | succ k =>
    change (kl1 lv k)[j]? = some (some v) at h
    unfold kl1 at h
    split at h
    · rename_i hk
      rw [List.getElem?_set] at h
      split at h
      · split at h <;> simp at h
      · rename_i hne
        exact ⟨h, fun q => hne (by omega)⟩
    · rename_i hk
      refine ⟨h, fun q => ?_⟩
      obtain ⟨q1, x, q2⟩ := q
      have : j = k := by omega
      subst this
      rw [q2] at h
      exact hk x h
theorem s1_at {lv : List (Option Pv)} {i j : Nat} {v w : Pv} (h : (s1_l lv i w)[j]? = some (some v)) : (j = i ∧ v = w) ∨ (j ≠ i ∧ lv[j]? = some (some v) ∧ ¬ (j + 1 = i ∧ ∃ x, v = .inr (.inl x))) := by
  unfold s1_l at h
  rw [List.getElem?_set] at h
  split at h
  · rename_i e
    split at h
    · simp at h; exact Or.inl ⟨e.symm, h.symm⟩
    · simp at h
  · rename_i e
    exact Or.inr ⟨fun q => e q.symm, kl_at h⟩
theorem s2_at {lv : List (Option Pv)} {i j : Nat} {v w : Pv} (h : (s2_l lv i w)[j]? = some (some v)) : (j = i ∧ v = w) ∨ (j ≠ i ∧ j ≠ i + 1 ∧ lv[j]? = some (some v) ∧ ¬ (j + 1 = i ∧ ∃ x, v = .inr (.inl x))) := by
  unfold s2_l at h
  rw [List.getElem?_set] at h
  split at h
  · split at h <;> simp at h
  · rename_i e
    rcases s1_at (lv := lv) (i := i) (w := w) h with q | ⟨q1, q2, q3⟩
    · exact Or.inl q
    · exact Or.inr ⟨q1, fun q => e q.symm, q2, q3⟩
theorem en_cat2 {adr : Nat → Nat} {v : Pv} : (en_v adr v).category = 2 ↔ ∃ x, v = .inr (.inl x) := by
  rcases v with x | x | x <;> simp [en_v, Value.category]
theorem LR.s1 {adr : Nat → Nat} {nL i : Nat} {lv : List (Option Pv)} {ls' : Array Slot} {w : Pv} (hw : cn_v w) (hc : ∀ v, some v ∈ lv → cn_v v) (h : lv_has ls' nL ((i, en_v adr w) :: (prs adr 0 lv).filter (fun q => !(q.1 == i) && !(q.1 + 1 == i && q.2.category == 2)))) : LR adr nL (s1_l lv i w) ls' := by
  refine ⟨⟨h.1, h.2.1, fun q hq => ?_⟩, fun v hv => ?_⟩
  · obtain ⟨j, v, hj, rfl⟩ := prs_mem.mp hq
    rw [Nat.zero_add]
    rcases s1_at hj with ⟨rfl, rfl⟩ | ⟨h1, h2, h3⟩
    · exact h.2.2 _ List.mem_cons_self
    · refine h.2.2 (j, en_v adr v) (List.mem_cons_of_mem _ (List.mem_filter.mpr ⟨prs_mem.mpr ⟨j, v, h2, by rw [Nat.zero_add]⟩, ?_⟩))
      have : ¬ (j + 1 = i ∧ (en_v adr v).category = 2) := fun q => h3 ⟨q.1, en_cat2.mp q.2⟩
      simp only [Bool.and_eq_true, Bool.not_eq_true', beq_eq_false_iff_ne, ne_eq, h1, not_false_eq_true, true_and, Bool.and_eq_false_iff]
      by_cases hq : j + 1 = i
      · right; exact fun q => this ⟨hq, q⟩
      · left; exact hq
  · obtain ⟨j, hj⟩ := List.getElem?_of_mem hv
    rcases s1_at hj with ⟨rfl, rfl⟩ | ⟨h1, h2, h3⟩
    · exact hw
    · exact hc _ (List.mem_of_getElem? h2)
theorem LR.s2 {adr : Nat → Nat} {nL i : Nat} {lv : List (Option Pv)} {ls' : Array Slot} {w : Pv} (hw : cn_v w) (hc : ∀ v, some v ∈ lv → cn_v v) (h : lv_has ls' nL ((i, en_v adr w) :: (prs adr 0 lv).filter (fun q => !(q.1 == i) && (!(q.1 == i + 1) && !(q.1 + 1 == i && q.2.category == 2))))) : LR adr nL (s2_l lv i w) ls' := by
  refine ⟨⟨h.1, h.2.1, fun q hq => ?_⟩, fun v hv => ?_⟩
  · obtain ⟨j, v, hj, rfl⟩ := prs_mem.mp hq
    rw [Nat.zero_add]
    rcases s2_at hj with ⟨rfl, rfl⟩ | ⟨h1, h0, h2, h3⟩
    · exact h.2.2 _ List.mem_cons_self
    · refine h.2.2 (j, en_v adr v) (List.mem_cons_of_mem _ (List.mem_filter.mpr ⟨prs_mem.mpr ⟨j, v, h2, by rw [Nat.zero_add]⟩, ?_⟩))
      have : ¬ (j + 1 = i ∧ (en_v adr v).category = 2) := fun q => h3 ⟨q.1, en_cat2.mp q.2⟩
      simp only [Bool.and_eq_true, Bool.not_eq_true', beq_eq_false_iff_ne, ne_eq, h1, h0, not_false_eq_true, true_and, Bool.and_eq_false_iff]
      by_cases hq : j + 1 = i
      · right; exact fun q => this ⟨hq, q⟩
      · left; exact hq
  · obtain ⟨j, hj⟩ := List.getElem?_of_mem hv
    rcases s2_at hj with ⟨rfl, rfl⟩ | ⟨h1, h0, h2, h3⟩
    · exact hw
    · exact hc _ (List.mem_of_getElem? h2)
