/-! the relation of the two stores -/
def cl (n : Nat) (f : Nat → Int) : Nat → Int := fun k => if k < n then f k else 0
theorem cl_c {n : Nat} {f g : Nat → Int} (h : ∀ k, k < n → f k = g k) : cl n f = cl n g := by
  funext k; unfold cl; split
  · next q => exact h k q
  · rfl
theorem cl_v {n k : Nat} {f : Nat → Int} (h : k < n) : cl n f k = f k := by unfold cl; rw [if_pos h]
def TR (σ τ : Sg) (t : Nat) : Prop := (σ 2 t = -1 ∧ τ 2 t = -1) ∨ ∃ s m : Nat, s < 4 ∧ m ≤ 60 ∧ σ 2 t = s ∧ τ 1 t = s ∧ σ 3 t = m ∧ τ 2 t = m ∧ ∀ k, k < m → σ 4 (60 * t + k) = τ 3 (60 * t + k)
def TZ (σ τ : Sg) : Prop := ∃ m : Nat, m ≤ 900 ∧ σ 5 1 = m ∧ τ 0 8 = m ∧ ∀ k, k < m → σ 6 k = τ 4 k
def en (b : Nat) (l : List Nat) : Nat := l.foldl (fun a d => a * b + d) 0
def NC (x y : Int) : Prop := ∃ l : List Nat, l ≠ [] ∧ l.length ≤ 8 ∧ (∀ d ∈ l, 1 ≤ d ∧ d ≤ 26) ∧ x = (en 27 l : Nat) ∧ y = (en 32 l : Nat)
def NMS (p : Nat) (σ τ : Sg) (W N : Nat) : Prop := (∀ w, w < W → NC (σ (p + 1) w) (τ 8 w)) ∧ ∀ i, i < N → NC (σ (p + 1) (8 + i)) (τ 8 (8 + i))
/-- a plain step of the reference (nine cells from 9 a on) and an order of the class -/
def PLN (o f s t c : Nat → Int) (W N a x : Nat) : Prop :=
  (c (9 * a) = 0 ∧ o x = 12 ∧ f x = c (9 * a + 1) ∧ 1 ≤ f x ∧ f x ≤ 20) ∨
  (c (9 * a) = 1 ∧ o x = 13 ∧ f x = c (9 * a + 1) ∧ s x = c (9 * a + 2) ∧ (0 ≤ f x ∧ f x < N) ∧ 0 ≤ s x ∧ s x < W) ∨
  (c (9 * a) = 2 ∧ o x = 14 ∧ f x = c (9 * a + 1) ∧ s x = c (9 * a + 2) ∧ t x = c (9 * a + 3) ∧ (0 ≤ f x ∧ f x < N) ∧ (0 ≤ s x ∧ s x < W) ∧ 0 ≤ t x ∧ t x < N) ∨
  (c (9 * a) = 3 ∧ o x = 16 ∧ f x = c (9 * a + 1) ∧ s x = c (9 * a + 3) ∧ (0 ≤ f x ∧ f x < N) ∧ 0 ≤ s x ∧ s x < N) ∨
  (c (9 * a) = 4 ∧ o x = 18) ∨ (c (9 * a) = 7 ∧ o x = 24)
/-- a step that opens a block -/
def OPN (o f s t c : Nat → Int) (W N a x : Nat) : Prop :=
  (c (9 * a) = 5 ∧ c (9 * a + 6) = 0 ∧ o x = 20 ∧ f x = c (9 * a + 1) ∧ s x = c (9 * a + 2) ∧ (0 ≤ f x ∧ f x < N) ∧ 0 ≤ s x ∧ s x < W) ∨
  (c (9 * a) = 5 ∧ c (9 * a + 6) = 1 ∧ o x = 21 ∧ f x = c (9 * a + 1) ∧ s x = c (9 * a + 7) ∧ t x = c (9 * a + 2) ∧ (0 ≤ f x ∧ f x < N) ∧ (0 ≤ t x ∧ t x ≤ 9999) ∧ (s x = 60 ∨ s x = 61 ∨ s x = 62)) ∨
  (c (9 * a) = 6 ∧ o x = 22 ∧ f x = c (9 * a + 1) ∧ 1 ≤ f x ∧ f x ≤ 99)
/-- steps a to b of the reference are the orders x to y of the class; at most d blocks within each other -/
def BLK (o f s t m c : Nat → Int) (W N : Nat) : Nat → Nat → Nat → Nat → Nat → Nat → Prop
  | 0, _, _, _, _, _ => False
  | n + 1, d, a, b, x, y => (a = b ∧ x = y) ∨ (a < b ∧ x < y ∧ PLN o f s t c W N a x ∧ c (9 * a + 8) = (a + 1 : Nat) ∧ BLK o f s t m c W N n d (a + 1) b (x + 1) y) ∨
    (∃ (q e : Nat), 0 < d ∧ a < q ∧ q ≤ b ∧ x < e ∧ e < y ∧ OPN o f s t c W N a x ∧ c (9 * a + 8) = q ∧ m x = e ∧ o e = 23 ∧ m e = x ∧ BLK o f s t m c W N n (d - 1) (a + 1) q (x + 1) e ∧ BLK o f s t m c W N n d q b (e + 1) y)
def YS (y : Nat) (σ τ : Sg) (W N : Nat) : Prop := (σ y 7 = 0 ∧ τ 5 175 = 0) ∨ (σ y 7 = 1 ∧ τ 5 175 = 1 ∧ ∃ S O : Nat, S ≤ 30 ∧ O ≤ 60 ∧ σ y 6 = S ∧ τ 5 176 = S ∧ σ y 5 = O ∧
  BLK (cl 60 (σ (y + 1))) (cl 60 (σ (y + 2))) (cl 60 (σ (y + 3))) (cl 60 (σ (y + 4))) (cl 60 (σ (y + 5))) (cl 270 (fun k => τ 5 (177 + k))) W N 31 3 0 S 0 O)
def LV (σ τ : Sg) : Prop := (τ 0 35 = 0 ∧ ∀ k, k < 5 → σ 98 k = -1) ∨ (τ 0 35 = 1 ∧ ∀ k, k < 5 → σ 98 k = τ 13 k ∧ 0 ≤ τ 13 k)
def blk (τ : Sg) (b : Nat) : Sg := fun o k => if o = 5 then τ 5 (447 * b + k) else if o = 8 then τ 8 (14 * b + k) else τ o k
theorem blk_5 (τ : Sg) (b k : Nat) : blk τ b 5 k = τ 5 (447 * b + k) := by unfold blk; rw [if_pos rfl]
theorem blk_8 (τ : Sg) (b k : Nat) : blk τ b 8 k = τ 8 (14 * b + k) := by unfold blk; rw [if_neg (by omega), if_pos rfl]
def DT (τ : Sg) : Prop := 0 ≤ τ 5 6 ∧ τ 5 6 ≤ 9999
def MK (σ τ : Sg) (j : Nat) : Prop := ∃ W N D E, PR (44 + 17 * j) σ (blk τ (j + 1)) W N D E ∧ DT (blk τ (j + 1)) ∧ NMS (44 + 17 * j) σ (blk τ (j + 1)) W N ∧ YS (55 + 17 * j) σ (blk τ (j + 1)) W N
def MKS (σ τ : Sg) : Prop := ∃ m : Nat, m ≤ 3 ∧ σ 0 5 = m ∧ τ 0 24 = m ∧ ∀ j, j < m → MK σ τ j
def RB (σ τ : Sg) (W N : Nat) : Prop := (σ 0 1 = τ 0 2) ∧ (σ 0 2 = τ 0 3) ∧ (σ 0 3 = τ 0 10) ∧ (σ 0 4 = τ 0 11) ∧ (∀ t, t < 4 → TR σ τ t) ∧ (TZ σ τ) ∧ (NMS 8 σ τ W N) ∧ (YS 30 σ τ W N) ∧ (LV σ τ) ∧ (MKS σ τ) ∧ (σ 101 0 = 0) ∧ (∀ k : Nat, σ 113 k = kcl.getD k 0)
theorem RB.mk {σ τ : Sg} {W N : Nat} (htp : σ 0 1 = τ 0 2) (hbt : σ 0 2 = τ 0 3) (hfk : σ 0 3 = τ 0 10) (hfp : σ 0 4 = τ 0 11) (htr : ∀ t, t < 4 → TR σ τ t) (htz : TZ σ τ) (hna : NMS 8 σ τ W N) (hye : YS 30 σ τ W N) (hlv : LV σ τ) (hms : MKS σ τ) (hmz : σ 101 0 = 0) (hkc : ∀ k : Nat, σ 113 k = kcl.getD k 0) : RB σ τ W N := ⟨htp, hbt, hfk, hfp, htr, htz, hna, hye, hlv, hms, hmz, hkc⟩
theorem RB.tp {σ τ : Sg} {W N : Nat} (h : RB σ τ W N) : σ 0 1 = τ 0 2 := h.1
theorem RB.bt {σ τ : Sg} {W N : Nat} (h : RB σ τ W N) : σ 0 2 = τ 0 3 := h.2.1
theorem RB.fk {σ τ : Sg} {W N : Nat} (h : RB σ τ W N) : σ 0 3 = τ 0 10 := h.2.2.1
theorem RB.fp {σ τ : Sg} {W N : Nat} (h : RB σ τ W N) : σ 0 4 = τ 0 11 := h.2.2.2.1
theorem RB.tr {σ τ : Sg} {W N : Nat} (h : RB σ τ W N) : ∀ t, t < 4 → TR σ τ t := h.2.2.2.2.1
theorem RB.tz {σ τ : Sg} {W N : Nat} (h : RB σ τ W N) : TZ σ τ := h.2.2.2.2.2.1
theorem RB.na {σ τ : Sg} {W N : Nat} (h : RB σ τ W N) : NMS 8 σ τ W N := h.2.2.2.2.2.2.1
theorem RB.ye {σ τ : Sg} {W N : Nat} (h : RB σ τ W N) : YS 30 σ τ W N := h.2.2.2.2.2.2.2.1
theorem RB.lv {σ τ : Sg} {W N : Nat} (h : RB σ τ W N) : LV σ τ := h.2.2.2.2.2.2.2.2.1
theorem RB.ms {σ τ : Sg} {W N : Nat} (h : RB σ τ W N) : MKS σ τ := h.2.2.2.2.2.2.2.2.2.1
theorem RB.mz {σ τ : Sg} {W N : Nat} (h : RB σ τ W N) : σ 101 0 = 0 := h.2.2.2.2.2.2.2.2.2.2.1
theorem RB.kc {σ τ : Sg} {W N : Nat} (h : RB σ τ W N) : ∀ k : Nat, σ 113 k = kcl.getD k 0 := h.2.2.2.2.2.2.2.2.2.2.2
def SbH (o k : Nat) : Prop := (o = 0 ∧ 1 ≤ k ∧ k ≤ 5) ∨ (2 ≤ o ∧ o ≤ 4) ∨ (o = 5 ∧ k = 1) ∨ o = 6 ∨ o = 9 ∨ (30 ≤ o ∧ o ≤ 35) ∨ (44 ≤ o ∧ o ≤ 94) ∨ o = 98 ∨ (o = 101 ∧ k = 0) ∨ o = 113
def SbM (o k : Nat) : Prop := (o = 0 ∧ (k = 2 ∨ k = 3 ∨ k = 8 ∨ k = 10 ∨ k = 11 ∨ k = 24 ∨ k = 35)) ∨ (1 ≤ o ∧ o ≤ 4) ∨ (o = 5 ∧ 175 ≤ k ∧ k < 1788) ∨ (o = 8 ∧ k < 56) ∨ o = 13
theorem NMS.cg {p p' : Nat} {σ τ σ' τ' : Sg} {W N : Nat} (bW : W ≤ 8) (bN : N ≤ 6) (h : NMS p σ τ W N) (hs : ∀ k, k < 14 → σ' (p' + 1) k = σ (p + 1) k) (ht : ∀ k, k < 14 → τ' 8 k = τ 8 k) : NMS p' σ' τ' W N := by
  refine ⟨fun w hw => ?_, fun i hi => ?_⟩
  · rw [hs _ (by omega), ht _ (by omega)]; exact h.1 w hw
  · rw [hs _ (by omega), ht _ (by omega)]; exact h.2 i hi
theorem YS.cg {y y' : Nat} {σ τ σ' τ' : Sg} {W N : Nat} (h : YS y σ τ W N) (h0 : ∀ k, 5 ≤ k → k ≤ 7 → σ' y' k = σ y k) (hs : ∀ j k, 1 ≤ j → j ≤ 5 → k < 60 → σ' (y' + j) k = σ (y + j) k) (ht : ∀ k, 175 ≤ k → k < 447 → τ' 5 k = τ 5 k) : YS y' σ' τ' W N := by
  unfold YS
  rw [h0 7 (by omega) (by omega), h0 6 (by omega) (by omega), h0 5 (by omega) (by omega), ht 175 (by omega) (by omega), ht 176 (by omega) (by omega), cl_c (fun k hk => hs 1 k (by omega) (by omega) hk), cl_c (fun k hk => hs 2 k (by omega) (by omega) hk), cl_c (fun k hk => hs 3 k (by omega) (by omega) hk), cl_c (fun k hk => hs 4 k (by omega) (by omega) hk), cl_c (fun k hk => hs 5 k (by omega) (by omega) hk), cl_c (n := 270) (f := fun k => τ' 5 (177 + k)) (g := fun k => τ 5 (177 + k)) (fun k hk => ht (177 + k) (by omega) (by omega))]
  exact h
theorem MK.cg {σ τ σ' τ' : Sg} {j : Nat} (hj : j < 3) (h : MK σ τ j) (hs : ∀ o k, 44 ≤ o → o ≤ 94 → σ' o k = σ o k) (ht : ∀ k, 447 ≤ k → k < 1788 → τ' 5 k = τ 5 k) (h8 : ∀ k, 14 ≤ k → k < 56 → τ' 8 k = τ 8 k) : MK σ' τ' j := by
  obtain ⟨W, N, D, E, h1, h2, h3, h4⟩ := h
  refine ⟨W, N, D, E, ?_, ?_, ?_, ?_⟩
  · exact h1.cg (fun i k _ _ => hs _ _ (by omega) (by omega)) (fun k hk => by rw [blk_5, blk_5]; exact ht _ (by omega) (by omega))
  · unfold DT at h2 ⊢; rw [blk_5] at h2 ⊢; rw [ht _ (by omega) (by omega)]; exact h2
  · exact h3.cg h1.bW h1.bN (fun k hk => hs _ _ (by omega) (by omega)) (fun k hk => by rw [blk_8, blk_8]; exact h8 _ (by omega) (by omega))
  · exact h4.cg (fun k _ _ => hs _ _ (by omega) (by omega)) (fun i k _ _ _ => hs _ _ (by omega) (by omega)) (fun k _ _ => by rw [blk_5, blk_5]; exact ht _ (by omega) (by omega))
section
variable {σ τ σ' τ' : Sg} {W N D E : Nat}
theorem TR.cg {t : Nat} (h : TR σ τ t) (hs : ∀ o k, 2 ≤ o → o ≤ 4 → σ' o k = σ o k) (ht : ∀ o k, 1 ≤ o → o ≤ 3 → τ' o k = τ o k) : TR σ' τ' t := by
  unfold TR
  rw [hs 2 t (by omega) (by omega), hs 3 t (by omega) (by omega), ht 1 t (by omega) (by omega), ht 2 t (by omega) (by omega)]
  rcases h with h | ⟨s, m, h1, h2, h3, h4, h5, h6, h7⟩
  · exact .inl h
  · refine .inr ⟨s, m, h1, h2, h3, h4, h5, h6, fun k hk => ?_⟩
    rw [hs 4 _ (by omega) (by omega), ht 3 _ (by omega) (by omega)]; exact h7 k hk
theorem TZ.cg (h : TZ σ τ) (h1 : σ' 5 1 = σ 5 1) (h2 : τ' 0 8 = τ 0 8) (h3 : ∀ k, σ' 6 k = σ 6 k) (h4 : ∀ k, τ' 4 k = τ 4 k) : TZ σ' τ' := by
  obtain ⟨m, a, b, c, d⟩ := h
  refine ⟨m, a, by rw [h1]; exact b, by rw [h2]; exact c, fun k hk => ?_⟩
  rw [h3, h4]; exact d k hk
theorem LV.cg (h : LV σ τ) (h1 : ∀ k, k < 5 → σ' 98 k = σ 98 k) (h2 : τ' 0 35 = τ 0 35) (h3 : ∀ k, k < 5 → τ' 13 k = τ 13 k) : LV σ' τ' := by
  unfold LV; rw [h2]
  rcases h with ⟨a, b⟩ | ⟨a, b⟩
  · exact .inl ⟨a, fun k hk => by rw [h1 k hk]; exact b k hk⟩
  · exact .inr ⟨a, fun k hk => by rw [h1 k hk, h3 k hk]; exact b k hk⟩
theorem MKS.cg (h : MKS σ τ) (h1 : σ' 0 5 = σ 0 5) (h2 : τ' 0 24 = τ 0 24) (hs : ∀ o k, 44 ≤ o → o ≤ 94 → σ' o k = σ o k) (ht : ∀ k, 447 ≤ k → k < 1788 → τ' 5 k = τ 5 k) (h8 : ∀ k, 14 ≤ k → k < 56 → τ' 8 k = τ 8 k) : MKS σ' τ' := by
  obtain ⟨m, a, b, c, d⟩ := h
  exact ⟨m, a, by rw [h1]; exact b, by rw [h2]; exact c, fun j hj => (d j hj).cg (by omega) hs ht h8⟩
theorem RB.fr (bW : W ≤ 8) (bN : N ≤ 6) (h : RB σ τ W N) (hs : ∀ o k, SbH o k → σ' o k = σ o k) (ht : ∀ o k, SbM o k → τ' o k = τ o k) : RB σ' τ' W N := by
  unfold SbH at hs
  unfold SbM at ht
  refine RB.mk ?_ ?_ ?_ ?_ ?_ ?_ ?_ ?_ ?_ ?_ ?_ ?_
  · rw [hs _ _ (by omega), ht _ _ (by omega)]; exact h.tp
  · rw [hs _ _ (by omega), ht _ _ (by omega)]; exact h.bt
  · rw [hs _ _ (by omega), ht _ _ (by omega)]; exact h.fk
  · rw [hs _ _ (by omega), ht _ _ (by omega)]; exact h.fp
  · exact fun t q => (h.tr t q).cg (fun o k _ _ => hs o k (by omega)) (fun o k _ _ => ht o k (by omega))
  · exact h.tz.cg (hs _ _ (by omega)) (ht _ _ (by omega)) (fun k => hs _ _ (by omega)) (fun k => ht _ _ (by omega))
  · exact h.na.cg bW bN (fun k _ => hs _ _ (by omega)) (fun k _ => ht _ _ (by omega))
  · exact h.ye.cg (fun k _ _ => hs _ _ (by omega)) (fun j k _ _ _ => hs _ _ (by omega)) (fun k _ _ => ht _ _ (by omega))
  · exact h.lv.cg (fun k _ => hs _ _ (by omega)) (ht _ _ (by omega)) (fun k _ => ht _ _ (by omega))
  · exact h.ms.cg (hs _ _ (by omega)) (ht _ _ (by omega)) (fun o k _ _ => hs _ _ (by omega)) (fun k _ _ => ht _ _ (by omega)) (fun k _ _ => ht _ _ (by omega))
  · rw [hs _ _ (by omega)]; exact h.mz
  · intro kk; rw [hs _ _ (by omega)]; exact h.kc kk
end
def RR (σ τ : Sg) (W N D E : Nat) : Prop := (PR 8 σ τ W N D E) ∧ (DT τ) ∧ (RB σ τ W N)
theorem RR.mk {σ τ : Sg} {W N D E : Nat} (hpr : PR 8 σ τ W N D E) (hdt : DT τ) (hrb : RB σ τ W N) : RR σ τ W N D E := ⟨hpr, hdt, hrb⟩
theorem RR.pr {σ τ : Sg} {W N D E : Nat} (h : RR σ τ W N D E) : PR 8 σ τ W N D E := h.1
theorem RR.dt {σ τ : Sg} {W N D E : Nat} (h : RR σ τ W N D E) : DT τ := h.2.1
theorem RR.rb {σ τ : Sg} {W N D E : Nat} (h : RR σ τ W N D E) : RB σ τ W N := h.2.2
def Rel (σ τ : Sg) : Prop := (∃ W N D E, RR σ τ W N D E) ∧ σ 0 0 = τ 0 0
def Ag (x y : Rs) : Prop := ∃ (r : Int) (σ1 τ1 : Sg), x = some (r, σ1) ∧ y = some (r, τ1) ∧ Rel σ1 τ1
section
variable {σ τ σ' τ' : Sg} {W N D E : Nat}
/-- nothing but what the relation does not speak of has changed -/
theorem RR.fr (h : RR σ τ W N D E) (hs : ∀ o k, SbH o k ∨ (8 ≤ o ∧ o ≤ 18) → σ' o k = σ o k) (ht : ∀ o k, SbM o k ∨ (o = 5 ∧ k < 175) → τ' o k = τ o k) : RR σ' τ' W N D E :=
  RR.mk (h.pr.cg (fun j k _ _ => hs _ _ (.inr (by omega))) (fun k hk => ht _ _ (.inr ⟨rfl, hk⟩)))
    (by have q := h.dt; unfold DT at q ⊢; rw [ht 5 6 (.inr (by omega))]; exact q)
    (h.rb.fr h.pr.bW h.pr.bN (fun o k q => hs o k (.inl q)) (fun o k q => ht o k (.inl q)))
/-- the province has moved, and nothing else -/
theorem RR.mv {D' E' : Nat} (h : RR σ τ W N D E) (hp : PR 8 σ' τ' W N D' E') (hd : DT τ') (hs : FH 8 σ σ') (ht : FM τ τ') : RR σ' τ' W N D' E' :=
  RR.mk hp hd (h.rb.fr h.pr.bW h.pr.bN (fun o k q => hs o k (by unfold SbH at q; omega)) (fun o k q => ht o k (by unfold SbM at q; omega)))
theorem RR.s0 (h : RR σ τ W N D E) (x : Int) : RR (up_s σ 0 0 x) τ W N D E :=
  h.fr (fun o k q => by rw [up_v, if_neg (by unfold SbH at q; omega)]) (fun _ _ _ => rfl)
theorem RR.t0 (h : RR σ τ W N D E) (x : Int) : RR σ (up_s τ 0 0 x) W N D E :=
  h.fr (fun _ _ _ => rfl) (fun o k q => by rw [up_v, if_neg (by unfold SbM at q; omega)])
theorem RR.t1 (h : RR σ τ W N D E) (x : Int) : RR σ (up_s τ 0 1 x) W N D E :=
  h.fr (fun _ _ _ => rfl) (fun o k q => by rw [up_v, if_neg (by unfold SbM at q; omega)])
theorem ag_fail (h : RR σ τ W N D E) (w : Int) : Ag (bd (H_fail w σ) (fun r s => some (r, s))) (bd (M_refuse w τ) (fun r s => some (r, s))) :=
  ⟨-1, up_s σ 0 0 w, up_s τ 0 0 w, rfl, rfl, ⟨W, N, D, E, (h.s0 w).t0 w⟩, by rw [up_e, up_e]⟩
theorem ag_no (h : RR σ τ W N D E) (w : Int) : Ag (bd (H_refuse w σ) (fun r s => zb r (some (r, s)))) (bd (M_no w τ) (fun r s => zb r (some (r, s)))) :=
  ⟨0, up_s σ 0 0 w, up_s τ 0 0 w, zb_0, zb_0, ⟨W, N, D, E, (h.s0 w).t0 w⟩, by rw [up_e, up_e]⟩
theorem ag_give (h : RR σ τ W N D E) (hz : τ 0 0 = 0) (r : Int) : Ag (bd (H_give r σ) (fun r s => some (r, s))) (some (r, τ)) :=
  ⟨r, up_s σ 0 0 0, τ, rfl, rfl, ⟨W, N, D, E, h.s0 0⟩, by rw [up_e, hz]⟩
theorem ag_yes (h : RR σ τ W N D E) (hz : τ 0 0 = 0) : Ag (bd (H_agree σ) (fun r s => zb r (some (r, s)))) (some (1, τ)) :=
  ⟨1, up_s σ 0 0 0, τ, zb_1, rfl, ⟨W, N, D, E, h.s0 0⟩, by rw [up_e, hz]⟩
theorem ag_go {x : Rs} {f : Sg → Rs} (h : RR σ τ W N D E) (k : ∀ τ', RR σ τ' W N D E → τ' 0 0 = 0 → Ag x (f τ')) : Ag x (nm (up_s τ 0 1 0) (fun s1 => nm (up_s s1 0 0 0) f)) :=
  k _ ((h.t1 0).t0 0) up_e
/-- status written late: as the class ends with it -/
theorem ag_h (h : RR σ τ W N D E) (hs : σ 0 0 = τ 0 0) (r : Int) : Ag (some (r, σ)) (some (r, τ)) := ⟨r, σ, τ, rfl, rfl, ⟨W, N, D, E, h⟩, hs⟩
end
theorem i10 : ¬ (1 : Int) = 0 := by omega
theorem within_h (x a b : Int) (σ : Sg) : H_within x a b σ = some (if a ≤ x ∧ x ≤ b then 1 else 0, σ) := by
  rw [H_within]
  by_cases h1 : x < a
  · rw [if_pos h1, if_neg (by omega)]
  · rw [if_neg h1]
    by_cases h2 : b < x
    · rw [if_pos h2, if_neg (by omega)]
    · rw [if_neg h2, if_pos (by omega)]
theorem isIn_m (x a b : Int) (τ : Sg) : M_isIn x a b τ = some (if a ≤ x ∧ x ≤ b then 1 else 0, τ) := by
  rw [M_isIn]
  by_cases h1 : x < a
  · rw [if_pos h1, if_neg (by omega)]
  · rw [if_neg h1]
    by_cases h2 : b < x
    · rw [if_pos h2, if_neg (by omega)]
    · rw [if_neg h2, if_pos (by omega)]
theorem zb_i {c : Prop} [Decidable c] {f : Rs} : zb (if c then 1 else 0) f = f := by split; exact zb_1; exact zb_0
theorem pc (a : Int) (N : Nat) : (∃ i : Nat, a = i ∧ i < N) ∨ ¬ (0 ≤ a ∧ a < N) := by
  by_cases h : 0 ≤ a ∧ a < N
  · exact .inl ⟨a.toNat, by omega, by omega⟩
  · exact .inr h
theorem sw_n {x lo : Int} {z : Rs} : ∀ {l : List Rs}, (x < lo ∨ lo + l.length ≤ x) → sw x lo l z = z
  | [], _ => rfl
  | a :: l, h => by
    rw [List.length_cons] at h
    rw [sw, if_neg (by omega)]; exact sw_n (by omega)
section
variable {p : Nat} {σ τ : Sg} {W N D E : Nat}
theorem isPm (h : PR p σ τ W N D E) (a : Int) : M_isPersonAt a τ = some (if 0 ≤ a ∧ a < N then 1 else 0, τ) := by
  have bN := h.bN
  rw [M_isPersonAt, rd_k (by omega) (by omega), show Int.toNat 1 = 1 from rfl, h.n', w32_i (by omega) (by omega), isIn_m, bd_s, zb_i]
  congr 3; exact propext ⟨fun q => by omega, fun q => by omega⟩
theorem isWm (h : PR p σ τ W N D E) (a : Int) : M_isWordAt a τ = some (if 0 ≤ a ∧ a < W then 1 else 0, τ) := by
  have bN := h.bW
  rw [M_isWordAt, rd_k (by omega) (by omega), Int.toNat_zero, h.w', w32_i (by omega) (by omega), isIn_m, bd_s, zb_i]
  congr 3; exact propext ⟨fun q => by omega, fun q => by omega⟩
theorem isDm (h : PR p σ τ W N D E) (a : Int) : M_isDinnerAt a τ = some (if 0 ≤ a ∧ a < D then 1 else 0, τ) := by
  have bN := h.bD
  rw [M_isDinnerAt, rd_k (by omega) (by omega), show Int.toNat 2 = 2 from rfl, h.d', w32_i (by omega) (by omega), isIn_m, bd_s, zb_i]
  congr 3; exact propext ⟨fun q => by omega, fun q => by omega⟩
theorem isP_0 (h : PR p σ τ W N D E) {a : Int} (ha : ¬ (0 ≤ a ∧ a < N)) : Pr_isPerson p a σ = some (0, σ) := by rw [isP_h h, if_neg ha]
theorem isW_0 (h : PR p σ τ W N D E) {a : Int} (ha : ¬ (0 ≤ a ∧ a < W)) : Pr_isWord p a σ = some (0, σ) := by rw [isW_h h, if_neg ha]
theorem isPm_0 (h : PR p σ τ W N D E) {a : Int} (ha : ¬ (0 ≤ a ∧ a < N)) : M_isPersonAt a τ = some (0, τ) := by rw [isPm h, if_neg ha]
theorem isWm_0 (h : PR p σ τ W N D E) {a : Int} (ha : ¬ (0 ≤ a ∧ a < W)) : M_isWordAt a τ = some (0, τ) := by rw [isWm h, if_neg ha]
theorem isDm_0 (h : PR p σ τ W N D E) {a : Int} (ha : ¬ (0 ≤ a ∧ a < D)) : M_isDinnerAt a τ = some (0, τ) := by rw [isDm h, if_neg ha]
theorem isPm_1 (h : PR p σ τ W N D E) {i : Nat} (hi : i < N) : M_isPersonAt i τ = some (1, τ) := by rw [isPm h, if_pos (by omega)]
theorem isWm_1 (h : PR p σ τ W N D E) {i : Nat} (hi : i < W) : M_isWordAt i τ = some (1, τ) := by rw [isWm h, if_pos (by omega)]
theorem isDm_1 (h : PR p σ τ W N D E) {i : Nat} (hi : i < D) : M_isDinnerAt i τ = some (1, τ) := by rw [isDm h, if_pos (by omega)]
theorem wi_1 {x a b : Int} (h : a ≤ x ∧ x ≤ b) (σ : Sg) : H_within x a b σ = some (1, σ) := by rw [within_h, if_pos h]
theorem wi_0 {x a b : Int} (h : ¬ (a ≤ x ∧ x ≤ b)) (σ : Sg) : H_within x a b σ = some (0, σ) := by rw [within_h, if_neg h]
theorem in_1 {x a b : Int} (h : a ≤ x ∧ x ≤ b) (σ : Sg) : M_isIn x a b σ = some (1, σ) := by rw [isIn_m, if_pos h]
theorem in_0 {x a b : Int} (h : ¬ (a ≤ x ∧ x ≤ b)) (σ : Sg) : M_isIn x a b σ = some (0, σ) := by rw [isIn_m, if_neg h]
end
