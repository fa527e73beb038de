/-! what is unsaid: how many sets, what is sure -/
def cmn (v : Int) : List Nat → Int
  | [] => v
  | x :: l => cmn (an32 v x) l
theorem cmn_a : ∀ (l : List Nat) (v : Int) (x : Nat), cmn v (l ++ [x]) = an32 (cmn v l) x
  | [], v, x => rfl
  | y :: l, v, x => by show cmn (an32 v y) (l ++ [x]) = an32 (cmn (an32 v y) l) x; exact cmn_a l _ x
section
variable {σ τ σ' τ' : Sg} {W N D E : Nat}
theorem iu_m {p : Nat} (h : PR p σ τ W N D E) {t m n x : Nat} (ht : t < 4) (hm : m ≤ 60) (hn : 2 * n ≤ m) : M_isUnsaid x t n τ = some (if ftB (τ 5) (fun k => τ 3 (60 * t + k)) W x n then 1 else 0, τ) := by
  have key : ∀ (j i f : Nat), i + j = n → j < f → ((∀ y, i ≤ y → y < n → gtS (τ 5) x (w32 (τ 3 (60 * t + 2 * y))) W = τ 3 (60 * t + (2 * y + 1))) ∧ M_isUnsaid_L3 x t n f i τ = some (1, τ)) ∨ ((∃ y, i ≤ y ∧ y < n ∧ ¬ gtS (τ 5) x (w32 (τ 3 (60 * t + 2 * y))) W = τ 3 (60 * t + (2 * y + 1))) ∧ M_isUnsaid_L3 x t n f i τ = some (0, τ)) := by
    intro j
    induction j with
    | zero =>
      intro i f hi hf
      obtain ⟨f, rfl⟩ : ∃ x, f = x + 1 := ⟨f - 1, by omega⟩
      refine .inl ⟨fun x a b => absurd b (by omega), ?_⟩
      rw [M_isUnsaid_L3, if_neg (by omega)]
    | succ j ih =>
      intro i f hi hf
      obtain ⟨f, rfl⟩ : ∃ x, f = x + 1 := ⟨f - 1, by omega⟩
      rw [M_isUnsaid_L3, if_pos (by omega), w32_i (x := 2 * (i : Int)) (by omega) (by omega), show 2 * (i : Int) = ((2 * i : Nat) : Int) by omega, no_m ht hm (by omega), bd_s, gt_m h, bd_s, w32_i (x := ((2 * i : Nat) : Int) + 1) (by omega) (by omega), show ((2 * i : Nat) : Int) + 1 = ((2 * i + 1 : Nat) : Int) by omega, no_m ht hm (by omega), bd_s]
      by_cases c : gtS (τ 5) x (w32 (τ 3 (60 * t + 2 * i))) W = τ 3 (60 * t + (2 * i + 1))
      · rw [if_pos c, nm_k, w32_i (x := (i : Int) + 1) (by omega) (by omega), suc]
        rcases ih (i + 1) f (by omega) (by omega) with ⟨a, b⟩ | ⟨⟨y, a1, a2, a3⟩, b⟩
        · refine .inl ⟨fun y x1 x2 => ?_, b⟩
          by_cases z : y = i
          · rw [z]; exact c
          · exact a y (by omega) x2
        · exact .inr ⟨⟨y, by omega, a2, a3⟩, b⟩
      · rw [if_neg c]; exact .inr ⟨⟨i, by omega, by omega, c⟩, rfl⟩
  rw [M_isUnsaid]
  rcases key n 0 fu (by omega) (by unfold fu; omega) with ⟨a, b⟩ | ⟨⟨y, a1, a2, a3⟩, b⟩
  · rw [if_pos ((ftB_e _ _ _ _ _).mpr (fun i hi => a i (by omega) hi))]; exact b
  · rw [if_neg (fun z => a3 ((ftB_e _ _ _ _ _).mp z y a2))]; exact b
/-- what the reference lays: how many, what is sure, which fit -/
def LU (τ0 τ : Sg) (P : Nat → Bool) (M : Int) (k : Nat) : Prop := (τ 0 27 = (((rg k).filter P).length : Int)) ∧ (τ 0 28 = cmn M ((rg k).filter P)) ∧ (∀ x, x < k → τ 9 x = if P x then 1 else 0) ∧ (∀ o x, o ≠ 9 → (o ≠ 0 ∨ (x ≠ 27 ∧ x ≠ 28)) → τ o x = τ0 o x)
theorem LU.mk {τ0 τ : Sg} {P : Nat → Bool} {M : Int} {k : Nat} (hn : τ 0 27 = (((rg k).filter P).length : Int)) (hs : τ 0 28 = cmn M ((rg k).filter P)) (hf : ∀ x, x < k → τ 9 x = if P x then 1 else 0) (ho : ∀ o x, o ≠ 9 → (o ≠ 0 ∨ (x ≠ 27 ∧ x ≠ 28)) → τ o x = τ0 o x) : LU τ0 τ P M k := ⟨hn, hs, hf, ho⟩
theorem LU.n {τ0 τ : Sg} {P : Nat → Bool} {M : Int} {k : Nat} (h : LU τ0 τ P M k) : τ 0 27 = (((rg k).filter P).length : Int) := h.1
theorem LU.s {τ0 τ : Sg} {P : Nat → Bool} {M : Int} {k : Nat} (h : LU τ0 τ P M k) : τ 0 28 = cmn M ((rg k).filter P) := h.2.1
theorem LU.f {τ0 τ : Sg} {P : Nat → Bool} {M : Int} {k : Nat} (h : LU τ0 τ P M k) : ∀ x, x < k → τ 9 x = if P x then 1 else 0 := h.2.2.1
theorem LU.o {τ0 τ : Sg} {P : Nat → Bool} {M : Int} {k : Nat} (h : LU τ0 τ P M k) : ∀ o x, o ≠ 9 → (o ≠ 0 ∨ (x ≠ 27 ∧ x ≠ 28)) → τ o x = τ0 o x := h.2.2.2
theorem lu_l {p : Nat} {τ0 : Sg} (h : PR p σ τ0 W N D E) {t m n : Nat} (ht : t < 4) (hm : m ≤ 60) (hn : 2 * n ≤ m) : ∀ (j k f : Nat) (τ : Sg), k + j = 2 ^ W → j < f → LU τ0 τ (fun x => ftB (τ0 5) (fun k => τ0 3 (60 * t + k)) W x n) ((2 : Int) ^ W - 1) k →
    ∃ τ', M_laysUnsaid_L15 t n f k τ = some (0, τ') ∧ LU τ0 τ' (fun x => ftB (τ0 5) (fun k => τ0 3 (60 * t + k)) W x n) ((2 : Int) ^ W - 1) (2 ^ W) := by
  have bW := h.bW
  have e8 : 2 ^ W ≤ 2 ^ 8 := Nat.pow_le_pow_right (by omega) bW
  intro j
  induction j with
  | zero =>
    intro k f τ hk hf q
    obtain ⟨f, rfl⟩ : ∃ x, f = x + 1 := ⟨f - 1, by omega⟩
    have hp : PR p σ τ W N D E := h.cg (fun _ _ _ _ => rfl) (fun x _ => q.o _ _ (by omega) (by omega))
    obtain rfl : k = 2 ^ W := by omega
    have al : M_allWords τ = some (((2 ^ W : Nat) : Int) - 1, τ) := by rw [al_m hp, ← cast_pow]
    refine ⟨τ, ?_, q⟩
    rw [M_laysUnsaid_L15, al, bd_s, if_pos (by omega)]
  | succ j ih =>
    intro k f τ hk hf q
    obtain ⟨f, rfl⟩ : ∃ x, f = x + 1 := ⟨f - 1, by omega⟩
    have hp : PR p σ τ W N D E := h.cg (fun _ _ _ _ => rfl) (fun x _ => q.o _ _ (by omega) (by omega))
    have c5 : τ 5 = τ0 5 := by funext x; exact q.o _ _ (by omega) (by omega)
    have c3 : (fun k => τ 3 (60 * t + k)) = (fun k => τ0 3 (60 * t + k)) := by funext x; exact q.o _ _ (by omega) (by omega)
    have ll : ((rg k).filter (fun x => ftB (τ0 5) (fun k => τ0 3 (60 * t + k)) W x n)).length ≤ k := Nat.le_trans (List.length_filter_le _ _) (by rw [rg_l]; omega)
    have fr := rg_f (fun x => ftB (τ0 5) (fun k => τ0 3 (60 * t + k)) W x n) k
    have al : M_allWords τ = some (((2 ^ W : Nat) : Int) - 1, τ) := by rw [al_m hp, ← cast_pow]
    rw [M_laysUnsaid_L15, al, bd_s, if_neg (by omega), iu_m hp ht hm hn, c5, c3, bd_s, zb_i, wr_k (by omega) (by omega), rd_k (by omega) (by omega), Int.toNat_natCast, up_e]
    cases c : ftB (τ0 5) (fun k => τ0 3 (60 * t + k)) W k n
    · simp only [c] at fr
      rw [if_neg ff_t] at fr
      rw [if_neg ff_t, if_pos rfl, nm_k, w32_i (by omega) (by omega), suc]
      refine ih (k + 1) f _ (by omega) (by omega) (LU.mk ?_ ?_ ?_ ?_)
      · rw [up_o (by omega), fr]; exact q.n
      · rw [up_o (by omega), fr]; exact q.s
      · intro x hx
        by_cases z : x = k
        · rw [z, up_e]; simp only [c]; rw [if_neg ff_t]
        · rw [up_k z]; exact q.f x (by omega)
      · intro o x h1 h2; rw [up_o h1]; exact q.o o x h1 h2
    · simp only [c] at fr
      rw [if_pos trivial] at fr
      rw [if_pos rfl, if_neg i10, nm_k, up_o (by omega), nm_k, up_k (by omega), up_o (by omega), nm_k, q.n, q.s, w32_i (x := (((rg k).filter (fun x => ftB (τ0 5) (fun k => τ0 3 (60 * t + k)) W x n)).length : Int) + 1) (by omega) (by omega), w32_i (by omega) (by omega), suc, suc]
      refine ih (k + 1) f _ (by omega) (by omega) (LU.mk ?_ ?_ ?_ ?_)
      · rw [up_k (by omega), up_e, fr, List.length_append]; rfl
      · rw [up_e, fr, cmn_a]
      · intro x hx
        rw [up_o (by omega), up_o (by omega)]
        by_cases z : x = k
        · rw [z, up_e]; simp only [c]; rw [if_pos trivial]
        · rw [up_k z]; exact q.f x (by omega)
      · intro o x h1 h2
        rw [up_v, if_neg (by omega), up_v, if_neg (by omega), up_o h1]; exact q.o o x h1 h2
theorem lu_m {p : Nat} (h : PR p σ τ W N D E) {t m n : Nat} (ht : t < 4) (hm : m ≤ 60) (hn : 2 * n ≤ m) : ∃ τ', M_laysUnsaid t n τ = some (0, τ') ∧ LU τ τ' (fun x => ftB (τ 5) (fun k => τ 3 (60 * t + k)) W x n) ((2 : Int) ^ W - 1) (2 ^ W) := by
  have bW := h.bW
  have e8 : 2 ^ W ≤ 2 ^ 8 := Nat.pow_le_pow_right (by omega) bW
  have hp1 : PR p σ (up_s τ 0 27 0) W N D E := h.cg (fun _ _ _ _ => rfl) (fun x _ => up_o (by omega))
  rw [M_laysUnsaid, nm_k, al_m hp1, bd_s, nm_k]
  exact lu_l h ht hm hn (2 ^ W) 0 fu _ (by omega) (by unfold fu; omega) (LU.mk (by rw [up_k (by omega), up_e]; rfl) (by rw [up_e]; rfl) (fun x hx => absurd hx (by omega)) (fun o x h1 h2 => by rw [up_v, if_neg (by omega), up_v, if_neg (by omega)]))
theorem LU.rr {P : Nat → Bool} {M : Int} {k : Nat} (q : LU τ τ' P M k) (h : RR σ τ W N D E) : RR σ τ' W N D E := h.fr (fun _ _ _ => rfl) (fun o x z => q.o o x (by unfold SbM at z; omega) (by unfold SbM at z; omega))
/-- the common way of unsaid, sure, ask -/
theorem un_c (h : RR σ τ W N D E) (a n : Int) (hn : c32 n) : ∃ (r : Int) (σ1 : Sg), H_gather a n σ = some (r, σ1) ∧ M_whyNotUnsaid a n (up_s τ 0 1 0) = some (r, up_s τ 0 1 0) ∧ 0 ≤ r ∧ RR σ1 (up_s τ 0 1 0) W N D E ∧
    (r = 0 → ∃ (τ' : Sg) (P : Nat → Bool), M_laysUnsaid a n (up_s (up_s τ 0 1 0) 0 0 0) = some (0, τ') ∧ FTS σ1 ((rg (2 ^ W)).filter P) ∧ LU (up_s (up_s τ 0 1 0) 0 0 0) τ' P ((2 : Int) ^ W - 1) (2 ^ W) ∧ RR σ1 τ' W N D E ∧ τ' 0 0 = 0) := by
  have h1 := h.t1 0
  obtain ⟨r, σ1, e1, e2, e3, e4, e5⟩ := ga_s h1 a n hn
  have h2 : RR σ1 (up_s τ 0 1 0) W N D E := h1.fr (fun o k q => e4 o k (by unfold SbH at q; omega) (by unfold SbH at q; omega) (by unfold SbH at q; omega)) (fun _ _ _ => rfl)
  refine ⟨r, σ1, e1, e2, e3, h2, fun z => ?_⟩
  obtain ⟨t, m, k, rfl, rfl, ht, hm, hk, h20, hF⟩ := e5 z
  have h3 := h2.t0 0
  obtain ⟨τ', f1, f2⟩ := lu_m h3.pr ht hm hk
  have c5 : up_s (up_s τ 0 1 0) 0 0 0 5 = up_s τ 0 1 0 5 := by funext x; exact up_o (by omega)
  have c3 : (fun k => up_s (up_s τ 0 1 0) 0 0 0 3 (60 * t + k)) = (fun k => up_s τ 0 1 0 3 (60 * t + k)) := by funext x; exact up_o (by omega)
  rw [c5, c3] at f2
  refine ⟨τ', _, f1, hF, f2, f2.rr h3, ?_⟩
  rw [f2.o 0 0 (by omega) (by omega), up_e]
theorem k_unsaid (h : RR σ τ W N D E) (a n : Int) (hn : c32 n) : Ag (H_unsaid a n σ) (M_unsaid a n τ) := by
  rw [M_unsaid, nm_k]
  obtain ⟨r, σ1, e1, e2, e3, h2, e5⟩ := un_c h a n hn
  rw [H_unsaid, e1, e2, bd_s, bd_s, nm_k, up_e]
  by_cases e : r = 0
  · subst e
    obtain ⟨τ', P, f1, f2, f3, f4, f5⟩ := e5 rfl
    rw [if_pos rfl, if_neg (show ¬ (0 : Int) < 0 by omega), f1, bd_s, f2.1, f3.n]
    exact ag_give f4 f5 _
  · rw [if_neg e, if_pos (by omega), H_fail, nm_k, bd_s]
    exact ag_h ((h2.t0 r).s0 r) (by rw [up_e, up_e]) _
theorem co_h {l : List Nat} : ∀ (i n : Nat) (v : Int), l.length < n → i + l.length ≤ 256 → σ 99 1 = ((i + l.length : Nat) : Int) → CL σ i l → Fi_common_L6 n v i σ = some (cmn v l, σ) := by
  induction l with
  | nil =>
    intro i n v hn hi h1 h2
    rw [List.length_nil] at hn h1
    obtain ⟨n, rfl⟩ : ∃ x, n = x + 1 := ⟨n - 1, by omega⟩
    rw [Fi_common_L6, h1, if_neg (by omega)]; rfl
  | cons x l ih =>
    intro i n v hn hi h1 h2
    rw [List.length_cons] at hn hi h1
    obtain ⟨n, rfl⟩ : ∃ x, n = x + 1 := ⟨n - 1, by omega⟩
    rw [Fi_common_L6, h1, if_pos (by omega), if_pos (by omega), rd_k (by omega) (by omega), Int.toNat_natCast, h2.1, nm_k, nm_k, w32_i (by omega) (by omega), suc]
    exact ih (i + 1) n _ (by omega) (by omega) (by rw [h1]; congr 1; omega) h2.2
theorem k_sure (h : RR σ τ W N D E) (a n : Int) (hn : c32 n) : Ag (H_sure a n σ) (M_sure a n τ) := by
  rw [M_sure, nm_k]
  have bW := h.pr.bW
  have e8 : 2 ^ W ≤ 2 ^ 8 := Nat.pow_le_pow_right (by omega) bW
  obtain ⟨r, σ1, e1, e2, e3, h2, e5⟩ := un_c h a n hn
  rw [H_sure, e1, e2, bd_s, bd_s, nm_k, up_e]
  by_cases e : r = 0
  · subst e
    obtain ⟨τ', P, f1, f2, f3, f4, f5⟩ := e5 rfl
    have ll : ((rg (2 ^ W)).filter P).length ≤ 256 := Nat.le_trans (List.length_filter_le _ _) (by rw [rg_l]; omega)
    rw [if_pos rfl, if_neg (show ¬ (0 : Int) < 0 by omega), f1, bd_s, f2.1, f3.n, f3.s, Fi_common]
    rw [show Fi_common_L6 fu 255 0 σ1 = _ from co_h 0 fu 255 (by unfold fu; omega) (by omega) (by rw [Nat.zero_add]; exact f2.1) f2.2]
    cases c : (rg (2 ^ W)).filter P with
    | nil => rw [if_pos (show (([] : List Nat).length : Int) = 0 from rfl), if_pos (show (([] : List Nat).length : Int) = 0 from rfl)]; exact ag_fail f4 8
    | cons x l =>
      have hx : x < 2 ^ W := by
        have : x ∈ (rg (2 ^ W)).filter P := by rw [c]; exact List.mem_cons_self
        exact rg_m (List.mem_filter.mp this).1
      rw [List.length_cons, if_neg (by omega), if_neg (by omega), bd_s]
      have q1 : an32 255 (x : Int) = x := by
        rw [show (255 : Int) = ((2 ^ 8 - 1 : Nat) : Int) from rfl, an_n (by omega) (by omega), Nat.and_comm, Nat.and_two_pow_sub_one_eq_mod, Nat.mod_eq_of_lt (by omega)]
      have q2 : an32 ((2 : Int) ^ W - 1) (x : Int) = x := by
        have e3 : 0 < 2 ^ W := Nat.pow_pos (by omega)
        rw [← cast_pow, show ((2 ^ W : Nat) : Int) - 1 = ((2 ^ W - 1 : Nat) : Int) by omega, an_n (by omega) (by omega), Nat.and_comm, Nat.and_two_pow_sub_one_eq_mod, Nat.mod_eq_of_lt hx]
      have q3 : cmn 255 (x :: l) = cmn ((2 : Int) ^ W - 1) (x :: l) := by
        show cmn (an32 255 x) l = cmn (an32 ((2 : Int) ^ W - 1) x) l
        rw [q1, q2]
      rw [q3]
      exact ag_give f4 f5 _
  · rw [if_neg e, if_pos (by omega), H_fail, nm_k, bd_s]
    exact ag_h ((h2.t0 r).s0 r) (by rw [up_e, up_e]) _
end
