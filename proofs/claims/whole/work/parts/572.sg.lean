/-! the province of a text that is being read: the class's spare one against the reference's fifth block -/
def hos (σ τ : Sg) : Sg := up_s (up_s σ 19 14 (τ 5 1792)) 19 15 (τ 5 1793)
theorem hos_v (σ τ : Sg) (o k : Nat) : hos σ τ o k = if o = 19 ∧ k = 15 then τ 5 1793 else if o = 19 ∧ k = 14 then τ 5 1792 else σ o k := by unfold hos; rw [up_v, up_v]
theorem hos_e {σ τ σ' τ' : Sg} {o k : Nat} (h : σ' o k = σ o k) (h4 : τ' 5 1792 = τ 5 1792) (h5 : τ' 5 1793 = τ 5 1793) : hos σ' τ' o k = hos σ τ o k := by rw [hos_v, hos_v, h, h4, h5]
def HOQ (σ τ : Sg) : Prop := ∃ a c : Nat, a ≤ 1 ∧ c ≤ 1 ∧ τ 0 25 = ((a + 2 * c : Nat) : Int) ∧ (a = 0 → σ 19 14 = -1 ∧ τ 5 1792 = 3) ∧ (a = 1 → σ 19 14 = τ 5 1792) ∧ (c = 0 → σ 19 15 = -1 ∧ τ 5 1793 = 1) ∧ (c = 1 → σ 19 15 = τ 5 1793)
def PQ (σ τ : Sg) (W N D E : Nat) : Prop := (PR 19 (hos σ τ) (blk τ 4) W N D E) ∧ (NMS 19 σ (blk τ 4) W N) ∧ (∀ k, (k = 6 ∨ k = 7 ∨ k = 8 ∨ (49 ≤ k ∧ k < 145) ∨ k = 175) → τ 5 (1788 + k) = 0) ∧ (HOQ σ τ)
theorem PQ.mk {σ τ : Sg} {W N D E : Nat} (hpr : PR 19 (hos σ τ) (blk τ 4) W N D E) (hnm : NMS 19 σ (blk τ 4) W N) (hz : ∀ k, (k = 6 ∨ k = 7 ∨ k = 8 ∨ (49 ≤ k ∧ k < 145) ∨ k = 175) → τ 5 (1788 + k) = 0) (hho : HOQ σ τ) : PQ σ τ W N D E := ⟨hpr, hnm, hz, hho⟩
theorem PQ.pr {σ τ : Sg} {W N D E : Nat} (h : PQ σ τ W N D E) : PR 19 (hos σ τ) (blk τ 4) W N D E := h.1
theorem PQ.nm {σ τ : Sg} {W N D E : Nat} (h : PQ σ τ W N D E) : NMS 19 σ (blk τ 4) W N := h.2.1
theorem PQ.z {σ τ : Sg} {W N D E : Nat} (h : PQ σ τ W N D E) : ∀ k, (k = 6 ∨ k = 7 ∨ k = 8 ∨ (49 ≤ k ∧ k < 145) ∨ k = 175) → τ 5 (1788 + k) = 0 := h.2.2.1
theorem PQ.ho {σ τ : Sg} {W N D E : Nat} (h : PQ σ τ W N D E) : HOQ σ τ := h.2.2.2
section
variable {σ τ σ' τ' : Sg} {W N D E : Nat}
theorem HOQ.cg (h : HOQ σ τ) (h1 : σ' 19 14 = σ 19 14) (h2 : σ' 19 15 = σ 19 15) (h3 : τ' 0 25 = τ 0 25) (h4 : τ' 5 1792 = τ 5 1792) (h5 : τ' 5 1793 = τ 5 1793) : HOQ σ' τ' := by
  unfold HOQ
  rw [h1, h2, h3, h4, h5]; exact h
theorem PQ.cg (h : PQ σ τ W N D E) (hs : ∀ o k, 19 ≤ o → o ≤ 29 → σ' o k = σ o k) (h5 : ∀ k, 1788 ≤ k → τ' 5 k = τ 5 k) (h8 : ∀ k, 56 ≤ k → τ' 8 k = τ 8 k) (h25 : τ' 0 25 = τ 0 25) : PQ σ' τ' W N D E :=
  PQ.mk (h.pr.cg (fun j k _ _ => by rw [hos_v, hos_v, hs _ _ (by omega) (by omega), h5 _ (by omega), h5 _ (by omega)]) (fun k _ => by rw [blk_5, blk_5]; exact h5 _ (by omega)))
    (h.nm.cg h.pr.bW h.pr.bN (fun k _ => hs _ _ (by omega) (by omega)) (fun k _ => by rw [blk_8, blk_8]; exact h8 _ (by omega)))
    (fun k hk => by rw [h5 _ (by omega)]; exact h.z k hk)
    (h.ho.cg (hs _ _ (by omega) (by omega)) (hs _ _ (by omega) (by omega)) h25 (h5 _ (by omega)) (h5 _ (by omega)))
theorem PQ.t (h : PQ σ τ W N D E) (hs : T5 σ σ') (ht : T0 τ τ') : PQ σ' τ' W N D E :=
  h.cg (fun o k _ _ => hs _ _ (by omega)) (fun k _ => ht _ _ (by omega)) (fun k _ => ht _ _ (by omega)) (ht _ _ (by omega))
theorem PQ.w (h : PQ σ τ W N D E) : σ 19 10 = (W : Nat) := by have := h.pr.w; rw [hos_v, if_neg (by omega), if_neg (by omega)] at this; exact this
theorem PQ.n (h : PQ σ τ W N D E) : σ 19 11 = (N : Nat) := by have := h.pr.n; rw [hos_v, if_neg (by omega), if_neg (by omega)] at this; exact this
theorem PQ.d (h : PQ σ τ W N D E) : σ 19 12 = (D : Nat) := by have := h.pr.d; rw [hos_v, if_neg (by omega), if_neg (by omega)] at this; exact this
theorem PQ.e (h : PQ σ τ W N D E) : σ 19 13 = (E : Nat) := by have := h.pr.e; rw [hos_v, if_neg (by omega), if_neg (by omega)] at this; exact this
theorem PQ.w' (h : PQ σ τ W N D E) : τ 5 1788 = (W : Nat) := by have := h.pr.w'; rw [blk_5] at this; exact this
theorem PQ.n' (h : PQ σ τ W N D E) : τ 5 1789 = (N : Nat) := by have := h.pr.n'; rw [blk_5] at this; exact this
theorem PQ.d' (h : PQ σ τ W N D E) : τ 5 1790 = (D : Nat) := by have := h.pr.d'; rw [blk_5] at this; exact this
theorem PQ.e' (h : PQ σ τ W N D E) : τ 5 1791 = (E : Nat) := by have := h.pr.e'; rw [blk_5] at this; exact this
theorem PQ.nb (h : PQ σ τ W N D E) : NB 19 4 σ τ W N := ⟨by omega, by omega, h.pr.bW, h.pr.bN, h.w, h.n, h.w', h.n', h.nm⟩
/-- a name written behind those that are there -/
theorem NB.nw {pr : Nat} (h : NB pr 4 σ τ W N) (x : Int) : NB pr 4 σ (up_s τ 8 (56 + (8 * 1 + N)) x) W N := by
  obtain ⟨a1, a2, a3, a4, a5, a6, a7, a8, a9, a10⟩ := h
  refine ⟨a1, a2, a3, a4, a5, a6, by rw [up_o (by omega)]; exact a7, by rw [up_o (by omega)]; exact a8, fun w hw => ?_, fun i hi => ?_⟩
  · have := a9 w hw
    rw [blk_8] at this
    rw [blk_8, up_v, if_neg (by omega)]; exact this
  · have := a10 i hi
    rw [blk_8] at this
    rw [blk_8, up_v, if_neg (by omega)]; exact this
end
/-! what the class writes at the end of a part -/
def GOH (σ0 σ : Sg) : Prop := ∀ o k, ¬ ((o = 5 ∧ 5 ≤ k ∧ k ≤ 12) ∨ (19 ≤ o ∧ o ≤ 29)) → σ o k = σ0 o k
def GOM (τ0 τ : Sg) : Prop := ∀ o k, ¬ ((o = 0 ∧ ((12 ≤ k ∧ k ≤ 19) ∨ k = 25)) ∨ (o = 5 ∧ 1788 ≤ k) ∨ (o = 8 ∧ 56 ≤ k)) → τ o k = τ0 o k
theorem GOH.rf {σ : Sg} : GOH σ σ := fun _ _ _ => rfl
theorem GOM.rf {σ : Sg} : GOM σ σ := fun _ _ _ => rfl
theorem GOH.tr {a b c : Sg} (h : GOH a b) (h' : GOH b c) : GOH a c := fun o k q => (h' o k q).trans (h o k q)
theorem GOM.tr {a b c : Sg} (h : GOM a b) (h' : GOM b c) : GOM a c := fun o k q => (h' o k q).trans (h o k q)
theorem T5.g {a b : Sg} (h : T5 a b) : GOH a b := fun o k q => h o k (by omega)
theorem T0.g {a b : Sg} (h : T0 a b) : GOM a b := fun o k q => h o k (by omega)
theorem GOH.up {σ : Sg} {o k : Nat} {x : Int} (h : 19 ≤ o ∧ o ≤ 29) : GOH σ (up_s σ o k x) := fun a b q => by rw [up_v, if_neg (by omega)]
theorem GOM.u5 {σ : Sg} {k : Nat} {x : Int} (h : 1788 ≤ k) : GOM σ (up_s σ 5 k x) := fun a b q => by rw [up_v, if_neg (by omega)]
theorem GOM.u8 {σ : Sg} {k : Nat} {x : Int} (h : 56 ≤ k) : GOM σ (up_s σ 8 k x) := fun a b q => by rw [up_v, if_neg (by omega)]
theorem GOM.u0 {σ : Sg} {x : Int} : GOM σ (up_s σ 0 25 x) := fun a b q => by rw [up_v, if_neg (by omega)]
/-- a word more -/
def awH (σ : Sg) (W : Nat) (a g y : Int) : Sg := up_s (up_s (up_s (up_s (up_s σ 20 W a) 21 W g) 22 W y) 23 W 0) 19 10 (W + 1 : Nat)
theorem aw_h {σ : Sg} {W : Nat} (hw : σ 19 10 = (W : Nat)) (hW : W < 8) (a g y : Int) : Pr_addWord 19 a g y σ = some (0, awH σ W a g y) := by
  rw [Pr_addWord, hw, if_pos (by omega), wr_k (by omega) (by omega), Int.toNat_natCast]
  rw [up_o (by omega), hw, wr_k (by omega) (by omega), Int.toNat_natCast]
  rw [up_o (by omega), up_o (by omega), hw, wr_k (by omega) (by omega), Int.toNat_natCast]
  rw [up_o (by omega), up_o (by omega), up_o (by omega), hw, wr_k (by omega) (by omega), Int.toNat_natCast]
  rw [nm_k, up_o (by omega), up_o (by omega), up_o (by omega), up_o (by omega), hw, w32_i (by omega) (by omega), suc]; rfl
theorem awH_f {σ : Sg} {W : Nat} {a g y : Int} {o k : Nat} (h : ¬ ((o = 20 ∨ o = 21 ∨ o = 22 ∨ o = 23) ∧ k = W) ∧ ¬ (o = 19 ∧ k = 10)) : awH σ W a g y o k = σ o k := by
  unfold awH
  rw [up_v, if_neg (by omega), up_v, if_neg (by omega), up_v, if_neg (by omega), up_v, if_neg (by omega), up_v, if_neg (by omega)]
/-- a person more -/
def apS (σ : Sg) (N : Nat) (a g S : Int) (b17 : Int) : Sg := up_s (up_s (up_s (up_s (up_s σ 20 (8 + N) a) 24 N g) 25 N S) 26 N S) 19 17 b17
theorem apS_f {σ : Sg} {N : Nat} {a g S b17 : Int} {o k : Nat} (h : ¬ (o = 20 ∧ k = 8 + N) ∧ ¬ ((o = 24 ∨ o = 25 ∨ o = 26) ∧ k = N) ∧ ¬ (o = 19 ∧ k = 17)) : apS σ N a g S b17 o k = σ o k := by
  unfold apS
  rw [up_v, if_neg (by omega), up_v, if_neg (by omega), up_v, if_neg (by omega), up_v, if_neg (by omega), up_v, if_neg (by omega)]
theorem ap_l {N : Nat} (hN : N < 6) : ∀ (d w f : Nat) (σ : Sg), w + d = 8 → d < f → σ 19 11 = (N : Nat) → ∃ σ', Pr_addPerson_L81 19 f w σ = some (0, σ') ∧ σ' 19 11 = (N + 1 : Nat) ∧ (∀ k : Nat, w ≤ k → k < 8 → σ' 27 (N * 8 + k) = σ 19 16 ∧ σ' 28 (N * 8 + k) = σ 19 16) ∧
    (∀ o k : Nat, ¬ (o = 19 ∧ k = 11) → ¬ ((o = 27 ∨ o = 28) ∧ N * 8 + w ≤ k ∧ k < N * 8 + 8) → σ' o k = σ o k) := by
  intro d
  induction d with
  | zero =>
    intro w f σ hw hf hn
    obtain ⟨f, rfl⟩ : ∃ x, f = x + 1 := ⟨f - 1, by omega⟩
    refine ⟨up_s σ 19 11 (N + 1 : Nat), ?_, up_e, fun k _ _ => by omega, fun o k q1 q2 => by rw [up_v, if_neg (by omega)]⟩
    rw [Pr_addPerson_L81, if_neg (by omega), hn, nm_k, w32_i (by omega) (by omega), suc]
  | succ d ih =>
    intro w f σ hw hf hn
    obtain ⟨f, rfl⟩ : ∃ x, f = x + 1 := ⟨f - 1, by omega⟩
    have e : w32 (w32 ((N : Int) * 8) + w) = ((N * 8 + w : Nat) : Int) := by rw [w32_i (x := (N : Int) * 8) (by omega) (by omega), w32_i (by omega) (by omega)]; omega
    obtain ⟨σ', g1, g2, g3, g4⟩ := ih (w + 1) f (up_s (up_s σ 27 (N * 8 + w) (σ 19 16)) 28 (N * 8 + w) (σ 19 16)) (by omega) (by omega) (by rw [up_o (by omega), up_o (by omega)]; exact hn)
    have z16 : up_s (up_s σ 27 (N * 8 + w) (σ 19 16)) 28 (N * 8 + w) (σ 19 16) 19 16 = σ 19 16 := by rw [up_o (by omega), up_o (by omega)]
    rw [z16] at g3
    refine ⟨σ', ?_, g2, fun k q1 q2 => ?_, fun o k q1 q2 => ?_⟩
    · rw [Pr_addPerson_L81, if_pos (by omega), hn, e, wr_k (by omega) (by omega), Int.toNat_natCast, up_o (a := 19) (b := 11) (by omega), up_o (a := 19) (b := 16) (by omega), hn, e, wr_k (by omega) (by omega), Int.toNat_natCast, nm_k, w32_i (by omega) (by omega), suc]; exact g1
    · by_cases z : k = w
      · subst z
        rw [g4 _ _ (by omega) (by omega), g4 _ _ (by omega) (by omega), up_v, if_neg (by omega), up_e, up_e]
        exact ⟨rfl, rfl⟩
      · exact g3 k (by omega) q2
    · rw [g4 o k q1 (by omega), up_v, if_neg (by omega), up_v, if_neg (by omega)]
theorem ap_h {σ : Sg} {N : Nat} (hn : σ 19 11 = (N : Nat)) (hN : N < 6) (a g S : Int) {e : Int} : ∃ σ', Pr_addPerson 19 a g e S σ = some (0, σ') ∧ σ' 19 11 = (N + 1 : Nat) ∧ (∀ k : Nat, k < 8 → σ' 27 (N * 8 + k) = σ 19 16 ∧ σ' 28 (N * 8 + k) = σ 19 16) ∧
    (∀ o k : Nat, ¬ (o = 19 ∧ k = 11) → ¬ ((o = 27 ∨ o = 28) ∧ N * 8 ≤ k ∧ k < N * 8 + 8) → σ' o k = apS σ N a g S (or32 (σ 19 17) (if e = 0 then 0 else sl32 1 (N : Nat))) o k) := by
  obtain ⟨σ', g1, g2, g3, g4⟩ := ap_l hN 8 0 fu (apS σ N a g S (or32 (σ 19 17) (if e = 0 then 0 else sl32 1 (N : Nat)))) (by omega) (by unfold fu; omega) (by rw [apS_f (by omega)]; exact hn)
  rw [apS_f (o := 19) (k := 16) (by omega)] at g3
  refine ⟨σ', ?_, g2, fun k hk => g3 k (by omega) hk, fun o k q1 q2 => g4 o k q1 (by omega)⟩
  rw [Pr_addPerson, hn, if_pos (by omega), w32_i (by omega) (by omega), show 8 + (N : Int) = ((8 + N : Nat) : Int) by omega, wr_k (by omega) (by omega), Int.toNat_natCast]
  rw [up_o (by omega), hn, wr_k (by omega) (by omega), Int.toNat_natCast]
  rw [up_o (by omega), up_o (by omega), hn, wr_k (by omega) (by omega), Int.toNat_natCast]
  rw [up_o (by omega), up_o (by omega), up_o (by omega), hn, wr_k (by omega) (by omega), Int.toNat_natCast]
  by_cases c : e = 0
  · rw [if_pos c] at g1 ⊢
    rw [nm_k, up_o (o := 26) (by omega), up_o (o := 25) (by omega), up_o (o := 24) (by omega), up_o (o := 20) (by omega)]
    exact g1
  · rw [if_neg c] at g1 ⊢
    rw [nm_k, up_o (a := 19) (b := 17) (o := 26) (by omega), up_o (a := 19) (b := 17) (o := 25) (by omega), up_o (a := 19) (b := 17) (o := 24) (by omega), up_o (a := 19) (b := 17) (o := 20) (by omega), up_o (a := 19) (b := 11) (o := 26) (by omega), up_o (a := 19) (b := 11) (o := 25) (by omega), up_o (a := 19) (b := 11) (o := 24) (by omega), up_o (a := 19) (b := 11) (o := 20) (by omega), hn]
    exact g1
/-- a dinner more -/
def adH (σ : Sg) (D : Nat) (x y g : Int) : Sg := up_s (up_s (up_s (up_s σ 29 (3 * D) x) 29 (3 * D + 1) y) 29 (3 * D + 2) g) 19 12 (D + 1 : Nat)
theorem ad_h {σ : Sg} {D : Nat} (hd : σ 19 12 = (D : Nat)) (hD : D < 6) (x y g : Int) : Pr_addDinner 19 x y g σ = some (0, adH σ D x y g) := by
  have e0 : w32 ((D : Int) * 3) = ((3 * D : Nat) : Int) := by rw [w32_i (by omega) (by omega)]; omega
  have e1 : w32 (((3 * D : Nat) : Int) + 1) = ((3 * D + 1 : Nat) : Int) := by rw [w32_i (by omega) (by omega)]; omega
  have e2 : w32 (((3 * D : Nat) : Int) + 2) = ((3 * D + 2 : Nat) : Int) := by rw [w32_i (by omega) (by omega)]; omega
  rw [Pr_addDinner, hd, if_pos (by omega), e0, wr_k (by omega) (by omega), Int.toNat_natCast]
  rw [up_o (by omega), hd, e0, e1, wr_k (by omega) (by omega), Int.toNat_natCast]
  rw [up_o (by omega), up_o (by omega), hd, e0, e2, wr_k (by omega) (by omega), Int.toNat_natCast]
  rw [nm_k, up_o (by omega), up_o (by omega), up_o (by omega), hd, w32_i (by omega) (by omega), suc]; rfl
theorem adH_f {σ : Sg} {D : Nat} {x y g : Int} {o k : Nat} (h : ¬ (o = 29 ∧ 3 * D ≤ k) ∧ ¬ (o = 19 ∧ k = 12)) : adH σ D x y g o k = σ o k := by
  unfold adH
  rw [up_v, if_neg (by omega), up_v, if_neg (by omega), up_v, if_neg (by omega), up_v, if_neg (by omega)]
/-- halves more -/
def ahH (σ : Sg) (E x y : Nat) : Sg := up_s (up_s (up_s σ 23 x (or32 (σ 23 x) (sl32 1 (y : Nat)))) 23 y (or32 (σ 23 y) (sl32 1 (x : Nat)))) 19 13 (E + 1 : Nat)
theorem ah_h {σ : Sg} {W E x y : Nat} (hw : σ 19 10 = (W : Nat)) (he : σ 19 13 = (E : Nat)) (hW : W ≤ 8) (hE : E < 6) (hx : x < W) (hy : y < W) (hxy : x ≠ y) : Pr_addHalves 19 x y σ = some (0, ahH σ E x y) := by
  have i1 : ∀ z : Nat, z < W → Pr_isWord 19 z σ = some (1, σ) := fun z hz => by
    rw [Pr_isWord, hw, if_neg (by omega), if_pos (by omega), if_pos (by omega)]
  rw [Pr_addHalves, i1 x hx, bd_s, if_neg i10, i1 y hy, bd_s, if_neg i10, rd_k (by omega) (by omega), wr_k (by omega) (by omega), Int.toNat_natCast, rd_k (by omega) (by omega), wr_k (by omega) (by omega), Int.toNat_natCast, nm_k]
  rw [up_k (a := 23) (b := y) (by omega)]
  rw [up_o (a := 19) (b := 13) (by omega), up_o (a := 19) (b := 13) (by omega), he, w32_i (by omega) (by omega), suc]; rfl
theorem ahH_f {σ : Sg} {E x y o k : Nat} (h : ¬ (o = 23 ∧ (k = x ∨ k = y)) ∧ ¬ (o = 19 ∧ k = 13)) : ahH σ E x y o k = σ o k := by
  unfold ahH
  rw [up_v, if_neg (by omega), up_v, if_neg (by omega), up_v, if_neg (by omega)]
