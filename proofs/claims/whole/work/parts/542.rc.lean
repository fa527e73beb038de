/-! what is unsaid: the sets that fit -/
def rg : Nat → List Nat
  | 0 => []
  | k + 1 => rg k ++ [k]
theorem rg_l : ∀ k, (rg k).length = k
  | 0 => rfl
  | k + 1 => by rw [rg, List.length_append, rg_l k]; rfl
theorem rg_m : ∀ {k x}, x ∈ rg k → x < k
  | 0, x, h => by cases h
  | k + 1, x, h => by
    rw [rg, List.mem_append, List.mem_singleton] at h
    rcases h with h | h
    · have := rg_m h; omega
    · omega
theorem rg_f (p : Nat → Bool) (k : Nat) : (rg (k + 1)).filter p = if p k then (rg k).filter p ++ [k] else (rg k).filter p := by
  rw [rg, List.filter_append]
  cases h : p k
  · rw [if_neg ff_t, List.filter_cons_of_neg (by rw [h]; exact ff_t), List.filter_nil, List.append_nil]
  · rw [if_pos rfl, List.filter_cons_of_pos h, List.filter_nil]
/-- a list lies in a row from a place on -/
def CL (σ : Sg) : Nat → List Nat → Prop
  | _, [] => True
  | a, x :: l => σ 100 a = (x : Int) ∧ CL σ (a + 1) l
theorem CL.cg {σ σ' : Sg} : ∀ {a : Nat} {l : List Nat}, CL σ a l → (∀ k, a ≤ k → k < a + l.length → σ' 100 k = σ 100 k) → CL σ' a l
  | _, [], _, _ => trivial
  | a, x :: l, h, hs => by
    rw [List.length_cons] at hs
    exact ⟨by rw [hs a (by omega) (by omega)]; exact h.1, CL.cg h.2 (fun k h1 h2 => hs k (by omega) (by omega))⟩
theorem CL.ap {σ : Sg} : ∀ {a : Nat} {l : List Nat} {x : Nat}, CL σ a l → σ 100 (a + l.length) = (x : Int) → CL σ a (l ++ [x])
  | a, [], x, _, h => ⟨h, trivial⟩
  | a, y :: l, x, h, h2 => by
    rw [List.length_cons, show a + (l.length + 1) = a + 1 + l.length by omega] at h2
    exact ⟨h.1, CL.ap h.2 h2⟩
def ftB (c u : Nat → Int) (W : Nat) (x : Nat) : Nat → Bool
  | 0 => true
  | i + 1 => ftB c u W x i && decide (gtS c x (w32 (u (2 * i))) W = u (2 * i + 1))
theorem ftB_e (c u : Nat → Int) (W x : Nat) : ∀ n, ftB c u W x n = true ↔ ∀ i, i < n → gtS c x (w32 (u (2 * i))) W = u (2 * i + 1)
  | 0 => ⟨fun _ i h => absurd h (by omega), fun _ => rfl⟩
  | n + 1 => by
    rw [ftB, Bool.and_eq_true, ftB_e c u W x n, decide_eq_true_eq]
    constructor
    · rintro ⟨a, b⟩ i hi
      by_cases e : i = n
      · rw [e]; exact b
      · exact a i (by omega)
    · intro a; exact ⟨fun i hi => a i (by omega), a n (by omega)⟩
def FTS (σ : Sg) (l : List Nat) : Prop := σ 99 1 = (l.length : Int) ∧ CL σ 0 l
/-- the fits have moved: how many, which, and how long each set of one or more is -/
def F99 (σ σ' : Sg) : Prop := ∀ o k, o ≠ 99 → o ≠ 100 → (o ≠ 101 ∨ k = 0) → σ' o k = σ o k
theorem F99.tr {a b c : Sg} (h : F99 a b) (h' : F99 b c) : F99 a c := fun o k q1 q2 q3 => (h' o k q1 q2 q3).trans (h o k q1 q2 q3)
/-- how long each set of one or more is, and nothing else -/
def FL1 (σ σ' : Sg) : Prop := ∀ o k, (o ≠ 101 ∨ k = 0) → σ' o k = σ o k
theorem or_p {x w : Nat} (h : x < 2 ^ w) : x ||| 2 ^ w = 2 ^ w + x := by
  have e := Nat.two_pow_add_eq_or_of_lt h 1
  rw [Nat.mul_one] at e
  rw [e, Nat.or_comm]
/-- a set's length is told by its words -/
theorem gtS_s (c : Nat → Int) (d : Int) : ∀ (k x y : Nat), x < 2147483648 → y < 2147483648 → k ≤ 8 → (∀ i, i < k → x.testBit i = y.testBit i) → gtS c (x : Int) d k = gtS c (y : Int) d k
  | 0, _, _, _, _, _, _ => rfl
  | k + 1, x, y, hx, hy, hk, h => by
    rw [gtS, gtS, hb_n (by omega) hx, hb_n (by omega) hy, h k (by omega), gtS_s c d k x y hx hy (by omega) (fun i hi => h i (by omega))]
theorem gtS_lo (c : Nat → Int) (d : Int) {k x : Nat} (hk : k < 8) (hx : x < 2 ^ k) : gtS c (x : Int) d (k + 1) = gtS c (x : Int) d k := by
  have e8 : 2 ^ k ≤ 2 ^ 8 := Nat.pow_le_pow_right (by omega) (by omega)
  rw [gtS, hb_n (by omega) (by omega), Nat.testBit_lt_two_pow hx, if_neg ff_t, if_neg (by omega)]
theorem gtS_hi (c : Nat → Int) (d : Int) {k x : Nat} (hk : k < 8) (hx : x < 2 ^ k) : gtS c ((2 ^ k + x : Nat) : Int) d (k + 1) = w32 (gtS c (x : Int) d k + w32 (c (9 + k) * min d (c (17 + k)))) := by
  have e8 : 2 ^ k ≤ 2 ^ 8 := Nat.pow_le_pow_right (by omega) (by omega)
  rw [gtS, hb_n (by omega) (by omega), Nat.testBit_two_pow_add_eq, Nat.testBit_lt_two_pow hx, Bool.not_false, if_pos rfl, if_pos rfl, gtS_s c d k (2 ^ k + x) x (by omega) (by omega) (by omega) (fun i hi => Nat.testBit_two_pow_add_gt hi x)]
section
variable {σ τ σ' τ' : Sg} {W N D E : Nat}
theorem sa_h (h : PR 8 σ τ W N D E) : ∃ σ', Fi_startAll 8 σ = some (0, σ') ∧ FTS σ' (rg (2 ^ W)) ∧ F99 σ σ' := by
  have bW := h.bW
  have e8 : 2 ^ W ≤ 2 ^ 8 := Nat.pow_le_pow_right (by omega) bW
  rw [Fi_startAll, nm_k]
  have key : ∀ (m k n : Nat) (s : Sg), k + m = 2 ^ W → m < n → F99 σ s → s 99 1 = (k : Int) → CL s 0 (rg k) → ∃ σ', Fi_startAll_L7 8 n k s = some (0, σ') ∧ FTS σ' (rg (2 ^ W)) ∧ F99 σ σ' := by
    intro m
    induction m with
    | zero =>
      intro k n s hk hn hF h1 h2
      obtain ⟨n, rfl⟩ : ∃ x, n = x + 1 := ⟨n - 1, by omega⟩
      obtain rfl : k = 2 ^ W := by omega
      refine ⟨s, ?_, ⟨by rw [rg_l]; exact h1, h2⟩, hF⟩
      rw [Fi_startAll_L7, hF 8 10 (by omega) (by omega) (by omega), h.w, sl_1 (by omega)]
      by_cases z : ((2 ^ W : Nat) : Int) < 256
      · rw [if_pos z, if_neg (by omega)]
      · rw [if_neg z]
    | succ m ih =>
      intro k n s hk hn hF h1 h2
      obtain ⟨n, rfl⟩ : ∃ x, n = x + 1 := ⟨n - 1, by omega⟩
      have w := ih (k + 1) n (up_s (up_s s 100 k k) 99 1 (k + 1 : Nat)) (by omega) (by omega) (hF.tr (fun o x q1 q2 _ => by rw [up_o q1, up_o q2])) up_e (by
        rw [rg]
        refine CL.ap (h2.cg (fun x _ hx => by rw [rg_l] at hx; rw [up_o (by omega), up_k (by omega)])) ?_
        rw [rg_l, up_o (by omega), Nat.zero_add, up_e])
      rw [Fi_startAll_L7, hF 8 10 (by omega) (by omega) (by omega), h.w, sl_1 (by omega), if_pos (by omega), if_pos (by omega), h1, wr_k (by omega) (by omega), Int.toNat_natCast, nm_k, nm_k, up_o (by omega), h1, w32_i (by omega) (by omega), suc]
      exact w
  exact key (2 ^ W) 0 fu _ (by omega) (by unfold fu; omega) (fun o k q1 q2 _ => up_o q1) up_e trivial
/-- one word more is measured -/
theorem mi_h {c : Nat → Int} {d : Int} {w : Nat} {k2 : Int → Sg → Rs} {σ0 : Sg} (hw : w < 8) : ∀ (m k n : Nat) (s : Sg), k + m = 2 ^ w → m < n → FL1 σ0 s → (∀ x : Nat, x < 2 ^ w + k → s 101 x = gtS c (x : Int) d (w + 1)) →
    ∃ σ', Fi_measure_L29 8 d w (w32 (c (9 + w) * min d (c (17 + w)))) k2 n k s = k2 ((w + 1 : Nat) : Int) σ' ∧ FL1 σ0 σ' ∧ ∀ x : Nat, x < 2 ^ (w + 1) → σ' 101 x = gtS c (x : Int) d (w + 1) := by
  have e8 : 2 ^ w ≤ 2 ^ 7 := Nat.pow_le_pow_right (by omega) (by omega)
  have e0 : 0 < 2 ^ w := Nat.two_pow_pos w
  intro m
  induction m with
  | zero =>
    intro k n s hk hn hF hI
    obtain ⟨n, rfl⟩ : ∃ x, n = x + 1 := ⟨n - 1, by omega⟩
    refine ⟨s, ?_, hF, fun x hx => hI x (by rw [Nat.pow_succ] at hx; omega)⟩
    rw [Fi_measure_L29, sl_1 (by omega), if_neg (by omega), nm_k, w32_i (by omega) (by omega), suc]
  | succ m ih =>
    intro k n s hk hn hF hI
    obtain ⟨n, rfl⟩ : ∃ x, n = x + 1 := ⟨n - 1, by omega⟩
    have hk2 : k < 2 ^ w := by omega
    have o1 : k ||| 2 ^ w = 2 ^ w + k := or_p hk2
    have v := ih (k + 1) n (up_s s 101 (2 ^ w + k) (gtS c ((2 ^ w + k : Nat) : Int) d (w + 1))) (by omega) (by omega) (fun o x q => by rw [up_v, if_neg (by omega)]; exact hF o x q) (fun x hx => by
      by_cases z : x = 2 ^ w + k
      · rw [z, up_e]
      · rw [up_k z]; exact hI x (by omega))
    rw [Fi_measure_L29, sl_1 (by omega), if_pos (by omega), rd_k (by omega) (by omega), Int.toNat_natCast, or_n (by omega) (by omega), o1, wr_k (by omega) (by omega), Int.toNat_natCast, hI k (by omega), gtS_lo c d hw hk2, ← gtS_hi c d hw hk2, nm_k, w32_i (x := (k : Int) + 1) (by omega) (by omega), suc]
    exact v
theorem mo_h {σ0 : Sg} (h : PR 8 σ0 τ W N D E) {d : Int} (hd : 0 ≤ d ∧ d ≤ 100000) : ∀ (m k n : Nat) (s : Sg), k + m = W → m < n → FL1 σ0 s → (∀ x : Nat, x < 2 ^ k → s 101 x = gtS (τ 5) (x : Int) d k) →
    ∃ σ', Fi_measure_L2 8 d n k s = some (0, σ') ∧ FL1 σ0 σ' ∧ ∀ x : Nat, x < 2 ^ W → σ' 101 x = gtS (τ 5) (x : Int) d W := by
  have bW := h.bW
  intro m
  induction m with
  | zero =>
    intro k n s hk hn hF hI
    obtain ⟨n, rfl⟩ : ∃ x, n = x + 1 := ⟨n - 1, by omega⟩
    obtain rfl : k = W := by omega
    refine ⟨s, ?_, hF, hI⟩
    rw [Fi_measure_L2, hF 8 10 (by omega), h.w, if_neg (by omega)]
  | succ m ih =>
    intro k n s hk hn hF hI
    obtain ⟨n, rfl⟩ : ∃ x, n = x + 1 := ⟨n - 1, by omega⟩
    have hp : PR 8 s τ W N D E := h.cg (fun j k _ _ => hF _ _ (by omega)) (fun _ _ => rfl)
    have e8 : 2 ^ k ≤ 2 ^ 7 := Nat.pow_le_pow_right (by omega) (by omega)
    obtain ⟨σ1, a1, a2, a3⟩ := mi_h (c := τ 5) (d := d) (w := k) (k2 := fun x7 s8 => Fi_measure_L2 8 d n x7 s8) (σ0 := σ0) (by omega) (2 ^ k) 0 fu s (by omega) (by unfold fu; omega) hF (fun x hx => by rw [gtS_lo (τ 5) d (by omega) hx]; exact hI x hx)
    obtain ⟨σ', b1, b2, b3⟩ := ih (k + 1) n σ1 (by omega) (by omega) a2 a3
    refine ⟨σ', ?_, b2, b3⟩
    rw [Fi_measure_L2, hF 8 10 (by omega), h.w, if_pos (by omega), if_pos (by omega), tog_h hp (by omega) hd, bd_s]
    exact a1.trans b1
/-- how long each set is -/
theorem me_h (h : PR 8 σ τ W N D E) (h0 : σ 101 0 = 0) {d : Int} (hd : 0 ≤ d ∧ d ≤ 100000) : ∃ σ', Fi_measure 8 d σ = some (0, σ') ∧ FL1 σ σ' ∧ ∀ x : Nat, x < 2 ^ W → σ' 101 x = gtS (τ 5) (x : Int) d W := by
  have bW := h.bW
  rw [Fi_measure]
  exact mo_h h hd W 0 fu σ (by omega) (by unfold fu; omega) (fun _ _ _ => rfl) (fun x hx => by
    rw [Nat.pow_zero] at hx
    obtain rfl : x = 0 := by omega
    rw [h0]; rfl)
/-- one two of the tray sifts the sets -/
theorem si_l {σ0 : Sg} {c : Nat → Int} (bW : W ≤ 8) (d len : Int) : ∀ (l F : List Nat) (i n : Nat) (s : Sg), l.length < n → F.length ≤ i → i + l.length ≤ 256 → s 99 1 = ((i + l.length : Nat) : Int) → CL s 0 F → CL s i l → F99 σ0 s → (∀ x : Nat, x < 2 ^ W → s 101 x = gtS c (x : Int) d W) → (∀ x, x ∈ l → x < 2 ^ W) →
    ∃ σ', Fi_sift_L12 len n F.length i s = some (0, σ') ∧ FTS σ' (F ++ l.filter (fun x : Nat => decide (gtS c x d W = len))) ∧ F99 σ0 σ' := by
  have e8 : 2 ^ W ≤ 2 ^ 8 := Nat.pow_le_pow_right (by omega) bW
  intro l
  induction l with
  | nil =>
    intro F i n s hn hF hi h1 h2 h3 h4 hM hL
    obtain ⟨n, rfl⟩ : ∃ x, n = x + 1 := ⟨n - 1, by rw [List.length_nil] at hn; omega⟩
    rw [List.length_nil] at h1
    refine ⟨up_s s 99 1 (F.length : Nat), ?_, ⟨?_, ?_⟩, h4.tr (fun o k q1 q2 _ => up_o q1)⟩
    · rw [Fi_sift_L12, h1, if_neg (by omega), nm_k]
    · rw [up_e, List.filter_nil, List.append_nil]
    · rw [List.filter_nil, List.append_nil]; exact h2.cg (fun k _ _ => up_o (by omega))
  | cons x l ih =>
    intro F i n s hn hF hi h1 h2 h3 h4 hM hL
    rw [List.length_cons] at hn hi h1
    obtain ⟨n, rfl⟩ : ∃ x, n = x + 1 := ⟨n - 1, by omega⟩
    have hx : x < 2 ^ W := hL x (List.mem_cons_self ..)
    have hL' : ∀ y, y ∈ l → y < 2 ^ W := fun y hy => hL y (List.mem_cons_of_mem _ hy)
    rw [Fi_sift_L12, h1, if_pos (by omega), if_pos (by omega), rd_k (by omega) (by omega), Int.toNat_natCast, h3.1, rd_k (by omega) (by omega), Int.toNat_natCast, hM x hx]
    by_cases e : gtS c x d W = len
    · have w := ih (F ++ [x]) (i + 1) n (up_s s 100 F.length (x : Int)) (by omega) (by rw [List.length_append]; show F.length + 1 ≤ i + 1; omega) (by omega) (by rw [up_o (by omega), h1]; congr 1; omega) (CL.ap (h2.cg (fun k _ hk => up_k (by omega))) (by rw [Nat.zero_add, up_e])) (h3.2.cg (fun k hk _ => up_k (by omega))) (h4.tr (fun o k q1 q2 _ => up_o q2)) (fun y hy => by rw [up_o (by omega)]; exact hM y hy) hL'
      rw [List.length_append, List.append_assoc] at w
      rw [if_pos e, rd_k (by omega) (by omega), wr_k (by omega) (by omega), Int.toNat_natCast, nm_k, nm_k, w32_i (x := (F.length : Int) + 1) (by omega) (by omega), w32_i (x := (i : Int) + 1) (by omega) (by omega), suc, suc, List.filter_cons_of_pos (by rw [decide_eq_true_eq]; exact e)]
      exact w
    · have w := ih F (i + 1) n s (by omega) (by omega) (by omega) (by rw [h1]; congr 1; omega) h2 h3.2 h4 hM hL'
      rw [if_neg e, nm_k, w32_i (x := (i : Int) + 1) (by omega) (by omega), suc, List.filter_cons_of_neg (by rw [decide_eq_true_eq]; exact e)]
      exact w
theorem si_h {σ0 : Sg} (h : PR 8 σ0 τ W N D E) (h0 : σ0 101 0 = 0) {d : Int} (hd : 0 ≤ d ∧ d ≤ 100000) (len : Int) {l : List Nat} (hl : l.length ≤ 256) (hL : ∀ x, x ∈ l → x < 2 ^ W) (hf : FTS σ l) (h4 : F99 σ0 σ) : ∃ σ', Fi_sift 8 d len σ = some (0, σ') ∧ FTS σ' (l.filter (fun x : Nat => decide (gtS (τ 5) x d W = len))) ∧ F99 σ0 σ' := by
  have hp : PR 8 σ τ W N D E := h.cg (fun j k _ _ => h4 _ _ (by omega) (by omega) (by omega)) (fun _ _ => rfl)
  obtain ⟨σ1, m1, m2, m3⟩ := me_h hp (by rw [h4 _ _ (by omega) (by omega) (by omega)]; exact h0) hd
  obtain ⟨σ', a, b, c⟩ := si_l h.bW d len l [] 0 fu σ1 (by unfold fu; omega) (by simp) (by omega) (by rw [Nat.zero_add, m2 _ _ (by omega)]; exact hf.1) trivial (hf.2.cg (fun k _ _ => m2 _ _ (by omega))) (fun o k q1 q2 q3 => (m2 o k q3).trans (h4 o k q1 q2 q3)) m3 hL
  refine ⟨σ', ?_, b, c⟩
  rw [Fi_sift, m1, bd_s]
  exact a
def UG (u : Nat → Int) (i : Nat) : Prop := (0 ≤ u (2 * i) ∧ u (2 * i) ≤ 999) ∧ 0 ≤ u (2 * i + 1)
/-- all twos sift -/
theorem gath_l {σ0 : Sg} (h : PR 8 σ0 τ W N D E) (h0 : σ0 101 0 = 0) {t s m n : Nat} (q : TRP σ0 τ t s m) (hn : 2 * n ≤ m) (hu : ∀ k, k < m → σ0 4 (60 * t + k) = τ 3 (60 * t + k)) (hU : ∀ x, x < n → UG (fun k => τ 3 (60 * t + k)) x) : ∀ (j i f : Nat) (σ : Sg), i + j = n → j < f → F99 σ0 σ → FTS σ ((rg (2 ^ W)).filter (fun x => ftB (τ 5) (fun k => τ 3 (60 * t + k)) W x i)) →
    ∃ σ', H_gather_L93 t n f i σ = some (0, σ') ∧ FTS σ' ((rg (2 ^ W)).filter (fun x => ftB (τ 5) (fun k => τ 3 (60 * t + k)) W x n)) ∧ F99 σ0 σ' := by
  intro j
  have bW := h.bW
  have e8 : 2 ^ W ≤ 2 ^ 8 := Nat.pow_le_pow_right (by omega) bW
  have b1 := q.ht
  have b2 := q.hm
  induction j with
  | zero =>
    intro i f σ hi hf hF hT
    obtain ⟨f, rfl⟩ : ∃ x, f = x + 1 := ⟨f - 1, by omega⟩
    obtain rfl : i = n := by omega
    exact ⟨σ, by rw [H_gather_L93, if_neg (by omega)], hT, hF⟩
  | succ j ih =>
    intro i f σ hi hf hF hT
    obtain ⟨f, rfl⟩ : ∃ x, f = x + 1 := ⟨f - 1, by omega⟩
    have qs : TRP σ τ t s m := q.fr (fun o _ _ => hF o _ (by omega) (by omega) (by omega)) (fun _ _ _ => rfl)
    have v1 : σ 4 (60 * t + 2 * i) = τ 3 (60 * t + 2 * i) := by rw [hF _ _ (by omega) (by omega) (by omega)]; exact hu _ (by omega)
    have v2 : σ 4 (60 * t + (2 * i + 1)) = τ 3 (60 * t + (2 * i + 1)) := by rw [hF _ _ (by omega) (by omega) (by omega)]; exact hu _ (by omega)
    have ll : ((rg (2 ^ W)).filter (fun x => ftB (τ 5) (fun k => τ 3 (60 * t + k)) W x i)).length ≤ 256 := Nat.le_trans (List.length_filter_le _ _) (by rw [rg_l]; omega)
    have g0 : 0 ≤ τ 3 (60 * t + 2 * i) ∧ τ 3 (60 * t + 2 * i) ≤ 999 := (hU i (by omega)).1
    obtain ⟨σ1, a1, a2, a3⟩ := si_h h h0 (d := w32 (τ 3 (60 * t + 2 * i))) (by rw [w32_i (by omega) (by omega)]; omega) (τ 3 (60 * t + (2 * i + 1))) ll (fun x hx => rg_m (List.mem_filter.mp hx).1) hT hF
    rw [List.filter_filter] at a2
    have e : (fun a : Nat => decide (gtS (τ 5) a (w32 (τ 3 (60 * t + 2 * i))) W = τ 3 (60 * t + (2 * i + 1))) && ftB (τ 5) (fun k => τ 3 (60 * t + k)) W a i) = (fun x => ftB (τ 5) (fun k => τ 3 (60 * t + k)) W x (i + 1)) := by
      funext x; rw [ftB, Bool.and_comm]
    have a2' : FTS σ1 ((rg (2 ^ W)).filter (fun x => ftB (τ 5) (fun k => τ 3 (60 * t + k)) W x (i + 1))) := by rw [← e]; exact a2
    obtain ⟨σ', b3, b4, b5⟩ := ih (i + 1) f σ1 (by omega) (by omega) a3 a2'
    refine ⟨σ', ?_, b4, b5⟩
    rw [H_gather_L93, if_pos (by omega), w32_i (x := 2 * (i : Int)) (by omega) (by omega), show 2 * (i : Int) = ((2 * i : Nat) : Int) by omega, at_h qs (by omega), bd_s, w32_i (x := ((2 * i : Nat) : Int) + 1) (by omega) (by omega), suc, at_h qs (by omega), bd_s, v1, v2, a1, bd_s, nm_k, w32_i (by omega) (by omega), suc]
    exact b3
theorem g16 {t s m n : Nat} (q : TRP σ τ t s m) (hn : 2 * n ≤ m) (hu : ∀ k, k < m → σ 4 (60 * t + k) = τ 3 (60 * t + k)) {k93 : Int → Sg → Rs} : ∀ (j i f : Nat), i + j = n → j < f →
    ((∀ x, i ≤ x → x < n → UG (fun k => τ 3 (60 * t + k)) x) ∧ H_gather_L16 t n k93 f i σ = bd (Fi_startAll 8 σ) (fun r8 s9 => k93 0 s9)) ∨ ((∃ x, i ≤ x ∧ x < n ∧ ¬ UG (fun k => τ 3 (60 * t + k)) x) ∧ H_gather_L16 t n k93 f i σ = some (5, σ)) := by
  intro j
  have b1 := q.ht
  have b2 := q.hm
  induction j with
  | zero =>
    intro i f hi hf
    obtain ⟨f, rfl⟩ : ∃ x, f = x + 1 := ⟨f - 1, by omega⟩
    refine .inl ⟨fun x a b => absurd b (by omega), ?_⟩
    rw [H_gather_L16, if_neg (by omega)]
  | succ j ih =>
    intro i f hi hf
    obtain ⟨f, rfl⟩ : ∃ x, f = x + 1 := ⟨f - 1, by omega⟩
    have bad : ¬ UG (fun k => τ 3 (60 * t + k)) i → ((∀ x, i ≤ x → x < n → UG (fun k => τ 3 (60 * t + k)) x) ∧ (some (5, σ) : Rs) = bd (Fi_startAll 8 σ) (fun r8 s9 => k93 0 s9)) ∨ ((∃ x, i ≤ x ∧ x < n ∧ ¬ UG (fun k => τ 3 (60 * t + k)) x) ∧ (some (5, σ) : Rs) = some (5, σ)) := fun z => .inr ⟨⟨i, by omega, by omega, z⟩, rfl⟩
    rw [H_gather_L16, if_pos (by omega), w32_i (x := 2 * (i : Int)) (by omega) (by omega), show 2 * (i : Int) = ((2 * i : Nat) : Int) by omega, at_h q (by omega), bd_s, w32_i (x := ((2 * i : Nat) : Int) + 1) (by omega) (by omega), suc, at_h q (by omega), bd_s, hu _ (by omega), hu _ (by omega)]
    by_cases c1 : τ 3 (60 * t + 2 * i) < 0
    · rw [if_pos c1]; exact bad (fun z => by have y : 0 ≤ τ 3 (60 * t + 2 * i) := z.1.1; omega)
    · rw [if_neg c1]
      by_cases c2 : 999 < τ 3 (60 * t + 2 * i)
      · rw [if_pos c2]; exact bad (fun z => by have y : τ 3 (60 * t + 2 * i) ≤ 999 := z.1.2; omega)
      · rw [if_neg c2]
        by_cases c3 : τ 3 (60 * t + (2 * i + 1)) < 0
        · rw [if_pos c3]; exact bad (fun z => by have y : 0 ≤ τ 3 (60 * t + (2 * i + 1)) := z.2; omega)
        · rw [if_neg c3, nm_k, w32_i (by omega) (by omega), suc]
          have g : UG (fun k => τ 3 (60 * t + k)) i := ⟨⟨by show 0 ≤ τ 3 (60 * t + 2 * i); omega, by show τ 3 (60 * t + 2 * i) ≤ 999; omega⟩, by show 0 ≤ τ 3 (60 * t + (2 * i + 1)); omega⟩
          rcases ih (i + 1) f (by omega) (by omega) with ⟨a, b⟩ | ⟨⟨x, a1, a2, a3⟩, b⟩
          · refine .inl ⟨fun x x1 x2 => ?_, b⟩
            by_cases z : x = i
            · rw [z]; exact g
            · exact a x (by omega) x2
          · exact .inr ⟨⟨x, by omega, a2, a3⟩, b⟩
theorem w10 {t m n : Nat} (ht : t < 4) (hm : m ≤ 60) (hn : 2 * n ≤ m) : ∀ (j i f : Nat), i + j = n → j < f →
    ((∀ x, i ≤ x → x < n → UG (fun k => τ 3 (60 * t + k)) x) ∧ M_whyNotUnsaid_L10 t n f 0 i τ = some (0, τ)) ∨ ((∃ x, i ≤ x ∧ x < n ∧ ¬ UG (fun k => τ 3 (60 * t + k)) x) ∧ M_whyNotUnsaid_L10 t n f 0 i τ = some (5, τ)) := by
  intro j
  induction j with
  | zero =>
    intro i f hi hf
    obtain ⟨f, rfl⟩ : ∃ x, f = x + 1 := ⟨f - 1, by omega⟩
    refine .inl ⟨fun x a b => absurd b (by omega), ?_⟩
    rw [M_whyNotUnsaid_L10, if_neg (by omega)]
  | succ j ih =>
    intro i f hi hf
    obtain ⟨f, rfl⟩ : ∃ x, f = x + 1 := ⟨f - 1, by omega⟩
    have five : ∀ f, 0 < f → M_whyNotUnsaid_L10 t n f 5 (i + 1 : Nat) τ = some (5, τ) := fun f hf => by
      obtain ⟨f, rfl⟩ : ∃ x, f = x + 1 := ⟨f - 1, by omega⟩
      rw [M_whyNotUnsaid_L10]
      by_cases z : ((i + 1 : Nat) : Int) < n
      · rw [if_pos z, if_neg (by omega)]
      · rw [if_neg z]
    rw [M_whyNotUnsaid_L10, if_pos (by omega), if_pos rfl, w32_i (x := 2 * (i : Int)) (by omega) (by omega), show 2 * (i : Int) = ((2 * i : Nat) : Int) by omega, no_m ht hm (by omega), bd_s, isIn_m, bd_s, w32_i (x := ((2 * i : Nat) : Int) + 1) (by omega) (by omega), show ((2 * i : Nat) : Int) + 1 = ((2 * i + 1 : Nat) : Int) by omega, no_m ht hm (by omega), bd_s]
    simp only [nm_k]
    rw [w32_i (x := (i : Int) + 1) (by omega) (by omega), suc, five f (by omega)]
    by_cases c1 : 0 ≤ τ 3 (60 * t + 2 * i) ∧ τ 3 (60 * t + 2 * i) ≤ 999
    · rw [if_pos c1, if_neg i10]
      by_cases c3 : τ 3 (60 * t + (2 * i + 1)) < 0
      · rw [if_pos c3]; exact .inr ⟨⟨i, by omega, by omega, fun z => by have y : 0 ≤ τ 3 (60 * t + (2 * i + 1)) := z.2; omega⟩, rfl⟩
      · rw [if_neg c3]
        have g : UG (fun k => τ 3 (60 * t + k)) i := ⟨c1, by show 0 ≤ τ 3 (60 * t + (2 * i + 1)); omega⟩
        rcases ih (i + 1) f (by omega) (by omega) with ⟨a, b⟩ | ⟨⟨x, a1, a2, a3⟩, b⟩
        · refine .inl ⟨fun x x1 x2 => ?_, b⟩
          by_cases z : x = i
          · rw [z]; exact g
          · exact a x (by omega) x2
        · exact .inr ⟨⟨x, by omega, a2, a3⟩, b⟩
    · rw [if_neg c1, if_pos rfl]; exact .inr ⟨⟨i, by omega, by omega, fun z => c1 z.1⟩, rfl⟩
/-- gathering, on both sides -/
theorem ga_s (h : RR σ τ W N D E) (a n : Int) (hn : c32 n) : ∃ (r : Int) (σ' : Sg), H_gather a n σ = some (r, σ') ∧ M_whyNotUnsaid a n τ = some (r, τ) ∧ 0 ≤ r ∧ F99 σ σ' ∧ (r = 0 → ∃ t m k : Nat, a = t ∧ n = k ∧ t < 4 ∧ m ≤ 60 ∧ 2 * k ≤ m ∧ k ≤ 20 ∧ FTS σ' ((rg (2 ^ W)).filter (fun x => ftB (τ 5) (fun k => τ 3 (60 * t + k)) W x k))) := by
  have hp := h.pr
  obtain ⟨r, e1, e2, e3, e4⟩ := tw_c h a n hn
  rw [H_gather, e1, bd_s, M_whyNotUnsaid, e2, bd_s]
  by_cases c0 : r = 0
  · obtain ⟨t, s, m, k, rfl, rfl, h20, h2k, q, q7⟩ := e4 c0
    subst c0
    have b1 := q.ht
    have b2 := q.hm
    rw [if_pos rfl]
    obtain ⟨σ1, s1, s2, s3⟩ := sa_h hp
    rcases g16 q h2k q7 (k93 := fun x10 s11 => H_gather_L93 t k fu x10 s11) k 0 fu (by omega) (by unfold fu; omega) with ⟨w1, w2⟩ | ⟨⟨x, x1, x2, x3⟩, w2⟩
    · rcases w10 b1 b2 h2k k 0 fu (by omega) (by unfold fu; omega) with ⟨y1, y2⟩ | ⟨⟨x, x1, x2, x3⟩, y2⟩
      · obtain ⟨σ2, t1, t2, t3⟩ := gath_l hp h.rb.mz q h2k q7 (fun x hx => w1 x (by omega) hx) k 0 fu σ1 (by omega) (by unfold fu; omega) s3 (by
          have : (rg (2 ^ W)).filter (fun x => ftB (τ 5) (fun k => τ 3 (60 * t + k)) W x 0) = rg (2 ^ W) := by
            rw [List.filter_eq_self]; intro x _; rfl
          rw [this]; exact s2)
        refine ⟨0, σ2, ?_, y2, by omega, t3, fun _ => ⟨t, m, k, rfl, rfl, b1, b2, h2k, h20, t2⟩⟩
        rw [show H_gather_L16 (t : Int) (k : Int) (fun x10 s11 => H_gather_L93 t k fu x10 s11) fu 0 σ = _ from w2, s1, bd_s]
        exact t1
      · exact absurd (w1 x (by omega) x2) x3
    · rcases w10 b1 b2 h2k k 0 fu (by omega) (by unfold fu; omega) with ⟨y1, y2⟩ | ⟨z, y2⟩
      · exact absurd (y1 x (by omega) x2) x3
      · exact ⟨5, σ, w2, y2, by omega, fun _ _ _ _ _ => rfl, fun z => absurd z (by omega)⟩
  · obtain ⟨f, hf⟩ : ∃ f, fu = f + 1 := ⟨99999, rfl⟩
    have stop : M_whyNotUnsaid_L10 a n fu r 0 τ = some (r, τ) := by
      rw [hf, M_whyNotUnsaid_L10]
      by_cases z : 0 < n
      · rw [if_pos z, if_neg c0]
      · rw [if_neg z]
    rw [if_neg c0, stop]
    exact ⟨r, σ, rfl, rfl, e3, fun _ _ _ _ _ => rfl, fun z => absurd z c0⟩
end
