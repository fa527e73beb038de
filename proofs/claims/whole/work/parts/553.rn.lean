/-! living: one turn of the class's loop -/
def LSC (y : Nat) (σ τ : Sg) (o f s t m c : Nat → Int) (O : Nat) : Prop := (O ≤ 60) ∧ (σ y 5 = O) ∧ (∀ x, x < 60 → σ (y + 1) x = o x) ∧ (∀ x, x < 60 → σ (y + 2) x = f x) ∧ (∀ x, x < 60 → σ (y + 3) x = s x) ∧ (∀ x, x < 60 → σ (y + 4) x = t x) ∧ (∀ x, x < 60 → σ (y + 5) x = m x) ∧ (∀ k, k < 270 → τ 5 (177 + k) = c k)
theorem LSC.mk {y : Nat} {σ τ : Sg} {o f s t m c : Nat → Int} {O : Nat} (hoo : O ≤ 60) (hor : σ y 5 = O) (ho1 : ∀ x, x < 60 → σ (y + 1) x = o x) (ho2 : ∀ x, x < 60 → σ (y + 2) x = f x) (ho3 : ∀ x, x < 60 → σ (y + 3) x = s x) (ho4 : ∀ x, x < 60 → σ (y + 4) x = t x) (ho5 : ∀ x, x < 60 → σ (y + 5) x = m x) (hcc : ∀ k, k < 270 → τ 5 (177 + k) = c k) : LSC y σ τ o f s t m c O := ⟨hoo, hor, ho1, ho2, ho3, ho4, ho5, hcc⟩
theorem LSC.oo {y : Nat} {σ τ : Sg} {o f s t m c : Nat → Int} {O : Nat} (h : LSC y σ τ o f s t m c O) : O ≤ 60 := h.1
theorem LSC.or {y : Nat} {σ τ : Sg} {o f s t m c : Nat → Int} {O : Nat} (h : LSC y σ τ o f s t m c O) : σ y 5 = O := h.2.1
theorem LSC.o1 {y : Nat} {σ τ : Sg} {o f s t m c : Nat → Int} {O : Nat} (h : LSC y σ τ o f s t m c O) : ∀ x, x < 60 → σ (y + 1) x = o x := h.2.2.1
theorem LSC.o2 {y : Nat} {σ τ : Sg} {o f s t m c : Nat → Int} {O : Nat} (h : LSC y σ τ o f s t m c O) : ∀ x, x < 60 → σ (y + 2) x = f x := h.2.2.2.1
theorem LSC.o3 {y : Nat} {σ τ : Sg} {o f s t m c : Nat → Int} {O : Nat} (h : LSC y σ τ o f s t m c O) : ∀ x, x < 60 → σ (y + 3) x = s x := h.2.2.2.2.1
theorem LSC.o4 {y : Nat} {σ τ : Sg} {o f s t m c : Nat → Int} {O : Nat} (h : LSC y σ τ o f s t m c O) : ∀ x, x < 60 → σ (y + 4) x = t x := h.2.2.2.2.2.1
theorem LSC.o5 {y : Nat} {σ τ : Sg} {o f s t m c : Nat → Int} {O : Nat} (h : LSC y σ τ o f s t m c O) : ∀ x, x < 60 → σ (y + 5) x = m x := h.2.2.2.2.2.2.1
theorem LSC.cc {y : Nat} {σ τ : Sg} {o f s t m c : Nat → Int} {O : Nat} (h : LSC y σ τ o f s t m c O) : ∀ k, k < 270 → τ 5 (177 + k) = c k := h.2.2.2.2.2.2.2
def RUN (p y x i : Nat) (σ : Sg) : Rs := Li_run_L39 p y (fu - i) (x : Int) (i : Int) σ
section
variable {p y O : Nat} {σ τ σ' τ' : Sg} {o f s t m c : Nat → Int}
theorem LSC.cg (h : LSC y σ τ o f s t m c O) (h1 : ∀ j x, j ≤ 5 → σ' (y + j) x = σ (y + j) x) (h2 : ∀ k, 175 ≤ k → τ' 5 k = τ 5 k) : LSC y σ' τ' o f s t m c O :=
  LSC.mk h.oo ((h1 0 5 (by omega)).trans h.or) (fun x z => (h1 1 x (by omega)).trans (h.o1 x z)) (fun x z => (h1 2 x (by omega)).trans (h.o2 x z)) (fun x z => (h1 3 x (by omega)).trans (h.o3 x z)) (fun x z => (h1 4 x (by omega)).trans (h.o4 x z)) (fun x z => (h1 5 x (by omega)).trans (h.o5 x z)) (fun k z => (h2 _ (by omega)).trans (h.cc k z))
theorem isO (h : LSC y σ τ o f s t m c O) {x : Nat} (hx : x < O) : Ye_isOrder y x σ = some (1, σ) := by
  have := h.oo
  rw [Ye_isOrder, h.or, if_neg (by omega), if_pos (by omega), if_pos (by omega)]
theorem it_u (h : LSC y σ τ o f s t m c O) {x i : Nat} (hx : x < O) (hi : i < 1204) (n : Nat) : Li_run_L39 p y (n + 1) x i σ = 
    (if o x = 23 then (bd (Li_behindEnd y x σ) (fun r11 s12 => Li_run_L39 p y n r11 ((i + 1 : Nat) : Int) s12)) else (if (σ 95 2) < 300 then (nm (up_s σ 95 2 (w32 ((σ 95 2) + 1))) (fun s14 => (rd 60 x (s14 (y + 1) (Int.toNat x)) (fun x15 => (if x15 = 24 then (some (0, s14)) else (rd 60 x (s14 (y + 1) (Int.toNat x)) (fun x16 => (bd (Ye_isBlock x16 s14) (fun r17 s18 => (if r17 = 0 then (bd (Li_behindPlain p y x s18) (fun r19 s20 => (Li_run_L39 p y n r19 ((i + 1 : Nat) : Int) s20))) else (bd (Li_behindBeginning p y x s18) (fun r22 s23 => (Li_run_L39 p y n r22 ((i + 1 : Nat) : Int) s23))))))))))))) else some (0, up_s σ 96 4 1))) := by
  have := h.oo
  have e : w32 ((i : Int) + 1) = ((i + 1 : Nat) : Int) := wk8 (by omega)
  rw [Li_run_L39, if_pos (by omega), isO h hx, bd_s, if_neg i10, rd_k (by omega) (by omega), Int.toNat_natCast, h.o1 x (by omega), e, wr_k (by omega) (by omega)]
  rfl
theorem fuS {i : Nat} (hi : i < 1204) : fu - i = (fu - (i + 1)) + 1 := by unfold fu; omega
theorem it_end (h : LSC y σ τ o f s t m c O) {x i : Nat} (hx : x < O) (hi : i < 1204) (e : o x = 23) {r : Nat} (hr : Li_behindEnd y x σ = some ((r : Int), σ')) : RUN p y x i σ = RUN p y r (i + 1) σ' := by
  rw [RUN, fuS hi, it_u h hx hi, if_pos e, hr, bd_s, RUN]
theorem it_over (h : LSC y σ τ o f s t m c O) {x i : Nat} (hx : x < O) (hi : i < 1204) (e : o x ≠ 23) (hk : σ 95 2 = 300) : RUN p y x i σ = some (0, up_s σ 96 4 1) := by
  rw [RUN, fuS hi, it_u h hx hi, if_neg e, if_neg (by omega)]
theorem it_stop (hy : y < 80) (h : LSC y σ τ o f s t m c O) {x i k : Nat} (hx : x < O) (hi : i < 1204) (e : o x = 24) (hk : σ 95 2 = k) (hk' : k < 300) : RUN p y x i σ = some (0, up_s σ 95 2 ((k + 1 : Nat) : Int)) := by
  have := h.oo
  have e1 : w32 ((k : Int) + 1) = ((k + 1 : Nat) : Int) := wk8 (by omega)
  rw [RUN, fuS hi, it_u h hx hi, if_neg (by omega), if_pos (by omega), nm_k, hk, e1, rd_k (by omega) (by omega), Int.toNat_natCast, up_o (by omega), h.o1 x (by omega), if_pos e]
theorem it_plain (hy : y < 80) (h : LSC y σ τ o f s t m c O) {x i k : Nat} (hx : x < O) (hi : i < 1204) (e : o x ≠ 20 ∧ o x ≠ 21 ∧ o x ≠ 22 ∧ o x ≠ 23 ∧ o x ≠ 24) (hk : σ 95 2 = k) (hk' : k < 300) {r : Nat} (hr : Li_behindPlain p y x (up_s σ 95 2 ((k + 1 : Nat) : Int)) = some ((r : Int), σ')) : RUN p y x i σ = RUN p y r (i + 1) σ' := by
  have := h.oo
  have e1 : w32 ((k : Int) + 1) = ((k + 1 : Nat) : Int) := wk8 (by omega)
  rw [RUN, fuS hi, it_u h hx hi, if_neg (by omega), if_pos (by omega), nm_k, hk, e1, rd_k (by omega) (by omega), Int.toNat_natCast, up_o (by omega), h.o1 x (by omega), if_neg (by omega), rd_k (by omega) (by omega), Ye_isBlock, if_neg (by omega), if_neg (by omega), if_neg (by omega), bd_s, if_pos rfl, hr, bd_s, RUN]
theorem it_open (hy : y < 80) (h : LSC y σ τ o f s t m c O) {x i k : Nat} (hx : x < O) (hi : i < 1204) (e : o x = 20 ∨ o x = 21 ∨ o x = 22) (hk : σ 95 2 = k) (hk' : k < 300) {r : Nat} (hr : Li_behindBeginning p y x (up_s σ 95 2 ((k + 1 : Nat) : Int)) = some ((r : Int), σ')) : RUN p y x i σ = RUN p y r (i + 1) σ' := by
  have := h.oo
  have e1 : w32 ((k : Int) + 1) = ((k + 1 : Nat) : Int) := wk8 (by omega)
  have e2 : Ye_isBlock (o x) (up_s σ 95 2 ((k + 1 : Nat) : Int)) = some (1, up_s σ 95 2 ((k + 1 : Nat) : Int)) := by
    rw [Ye_isBlock]; rcases e with e | e | e <;> rw [e] <;> rfl
  rw [RUN, fuS hi, it_u h hx hi, if_neg (by omega), if_pos (by omega), nm_k, hk, e1, rd_k (by omega) (by omega), Int.toNat_natCast, up_o (by omega), h.o1 x (by omega), if_neg (by omega), rd_k (by omega) (by omega), e2, bd_s, if_neg i10, hr, bd_s, RUN]
end
