/-! the orders of years, read by both -/
def FYH (O : Nat) (σ σ' : Sg) : Prop := ∀ o k, ¬ (o = 5 ∧ 5 ≤ k ∧ k ≤ 12) → ¬ (o = 36 ∧ (k = 5 ∨ k = 6)) → ¬ (37 ≤ o ∧ o ≤ 41 ∧ O ≤ k) → σ' o k = σ o k
def FYM (S : Nat) (τ τ' : Sg) : Prop := ∀ o k, ¬ (o = 0 ∧ ((12 ≤ k ∧ k ≤ 19) ∨ k = 26)) → ¬ (o = 5 ∧ 1965 + 9 * S ≤ k) → τ' o k = τ o k
def FYA (a : Nat) (τ τ' : Sg) : Prop := ∀ o k, ¬ (o = 0 ∧ 12 ≤ k ∧ k ≤ 19) → ¬ (o = 5 ∧ a < k ∧ k ≤ a + 7) → τ' o k = τ o k
def BA (a : Nat) (τ τ' : Sg) : Prop := ∀ o k, ¬ (o = 5 ∧ a < k ∧ k ≤ a + 7) → τ' o k = τ o k
theorem FYH.rf {O : Nat} {σ : Sg} : FYH O σ σ := fun _ _ _ _ _ => rfl
theorem FYM.rf {S : Nat} {σ : Sg} : FYM S σ σ := fun _ _ _ _ => rfl
theorem FYH.tr {O O' : Nat} {a b c : Sg} (h : FYH O a b) (h' : FYH O' b c) (hO : O ≤ O') : FYH O a c := fun o k q1 q2 q3 => (h' o k q1 q2 (by omega)).trans (h o k q1 q2 q3)
theorem FYM.tr {S S' : Nat} {a b c : Sg} (h : FYM S a b) (h' : FYM S' b c) (hS : S ≤ S') : FYM S a c := fun o k q1 q2 => (h' o k q1 (by omega)).trans (h o k q1 q2)
theorem FYA.tr {a : Nat} {x y z : Sg} (h : FYA a x y) (h' : FYA a y z) : FYA a x z := fun o k q1 q2 => (h' o k q1 q2).trans (h o k q1 q2)
theorem T5.y {O : Nat} {a b : Sg} (h : T5 a b) : FYH O a b := fun o k q1 q2 q3 => h o k (by omega)
theorem T0.y {S : Nat} {a b : Sg} (h : T0 a b) : FYM S a b := fun o k q1 q2 => h o k (by omega)
theorem T0.a {z : Nat} {a b : Sg} (h : T0 a b) : FYA z a b := fun o k q1 q2 => h o k (by omega)
theorem BA.a {z : Nat} {a b : Sg} (h : BA z a b) : FYA z a b := fun o k q1 q2 => h o k q2
theorem BA.tr {a : Nat} {x y z : Sg} (h : BA a x y) (h' : BA a y z) : BA a x z := fun o k q => (h' o k q).trans (h o k q)
theorem BA.u {a i : Nat} {τ : Sg} {x : Int} (h : 1 ≤ i) (h' : i ≤ 7) : BA a τ (up_s τ 5 (a + i) x) := fun o k q => by rw [up_v, if_neg (by omega)]
theorem FYA.u {a i : Nat} {τ : Sg} {x : Int} (h : 1 ≤ i) (h' : i ≤ 7) : FYA a τ (up_s τ 5 (a + i) x) := (BA.u h h').a
theorem FLT.ba {a : Nat} {σ τ τ' : Sg} (h : FLT σ τ) (g : BA a τ τ') : FLT σ τ' := h.cg (g _ _ (by omega)) (g _ _ (by omega))
theorem FYA.m {S : Nat} {τ τ' : Sg} (h : FYA (1965 + 9 * S) τ τ') : FYM S τ τ' := fun o k q1 q2 => h o k (by omega) (by omega)
theorem a_i {a i : Nat} (h : a < 2235) (hi : i < 9) : w32 ((a : Int) + (i : Nat)) = ((a + i : Nat) : Int) := w_p (by omega) (by omega)
theorem NB.y {W N O S : Nat} {σ τ σ' τ' : Sg} (h : NB 8 0 σ τ W N) (hs : FYH O σ σ') (ht : FYM S τ τ') : NB 8 0 σ' τ' W N := by
  obtain ⟨a1, a2, a3, a4, a5, a6, a7, a8, a9⟩ := h
  exact ⟨a1, a2, a3, a4, by rw [hs _ _ (by omega) (by omega) (by omega)]; exact a5, by rw [hs _ _ (by omega) (by omega) (by omega)]; exact a6, by rw [ht _ _ (by omega) (by omega)]; exact a7, by rw [ht _ _ (by omega) (by omega)]; exact a8,
    a9.cg a3 a4 (fun k _ => hs _ _ (by omega) (by omega) (by omega)) (fun k _ => by rw [blk_8, blk_8]; exact ht _ _ (by omega) (by omega))⟩
theorem NB.u5 {W N k : Nat} {σ τ : Sg} (h : NB 8 0 σ τ W N) (hk : 2 ≤ k) (x : Int) : NB 8 0 σ (up_s τ 5 k x) W N := by
  obtain ⟨a1, a2, a3, a4, a5, a6, a7, a8, a9⟩ := h
  exact ⟨a1, a2, a3, a4, a5, a6, by rw [up_k (by omega)]; exact a7, by rw [up_k (by omega)]; exact a8, a9.cg a3 a4 (fun k _ => rfl) (fun k _ => by rw [blk_8, blk_8, up_o (by omega)])⟩
/-! behind a fault -/
section
variable {τ : Sg} {a : Nat}
theorem w5 {i : Nat} (ha : a + 8 < 2235) (hi : i ≤ 8) (x : Int) (F : Sg → Rs) : wr 2235 ((a + i : Nat) : Int) (up_s τ 5 (Int.toNat ((a + i : Nat) : Int)) x) F = F (up_s τ 5 (a + i) x) := by
  rw [wr_k (by omega) (by omega), Int.toNat_natCast]
theorem e_1 (ha : a + 8 < 2235) : w32 ((a : Int) + 1) = ((a + 1 : Nat) : Int) := w_p (by omega) (by omega)
theorem e_2 (ha : a + 8 < 2235) : w32 ((a : Int) + 2) = ((a + 2 : Nat) : Int) := w_p (by omega) (by omega)
theorem e_3 (ha : a + 8 < 2235) : w32 ((a : Int) + 3) = ((a + 3 : Nat) : Int) := w_p (by omega) (by omega)
theorem e_6 (ha : a + 8 < 2235) : w32 ((a : Int) + 6) = ((a + 6 : Nat) : Int) := w_p (by omega) (by omega)
theorem e_7 (ha : a + 8 < 2235) : w32 ((a : Int) + 7) = ((a + 7 : Nat) : Int) := w_p (by omega) (by omega)
theorem e_8 (ha : a + 8 < 2235) : w32 ((a : Int) + 8) = ((a + 8 : Nat) : Int) := w_p (by omega) (by omega)
theorem r136_b (h : 0 < τ 0 12) (ha : a + 8 < 2235) (t : Int) : M_readRest_J136 a t τ = some (0, up_s τ 5 (a + 3) 0) := by
  rw [M_readRest_J136, must_b h, bd_s, rt_b h, bd_s, e_3 ha, w5 ha (by omega)]
theorem r109_b (h : 0 < τ 0 12) (ha : a + 8 < 2235) (κ : Int) : ∃ τ', M_readRest_J109 a κ τ = some (0, τ') ∧ BA a τ τ' := by
  have e : M_readRest_J119 a κ τ = some (0, up_s τ 5 (a + 3) 0) := by
    rw [M_readRest_J119]; split
    · obtain ⟨r, hr⟩ := to_t τ
      rw [hr, bd_s, r136_b h ha]
    · obtain ⟨r, hr⟩ := by_t τ
      rw [hr, bd_s, r136_b h ha]
  rw [M_readRest_J109]; split
  · exact ⟨_, e, BA.u (by omega) (by omega)⟩
  · split
    · exact ⟨_, e, BA.u (by omega) (by omega)⟩
    · exact ⟨_, rfl, fun _ _ _ => rfl⟩
theorem r95_b (h : 0 < τ 0 12) (ha : a + 8 < 2235) (κ : Int) : ∃ τ', M_readRest_J95 a κ τ = some (0, τ') ∧ BA a τ τ' := by
  obtain ⟨τ', g1, g2⟩ := r109_b (τ := up_s τ 5 (a + 2) 0) (by rw [up_o (by omega)]; exact h) ha κ
  exact ⟨τ', by rw [M_readRest_J95, rt_b h, bd_s, e_2 ha, w5 ha (by omega), g1], BA.tr (BA.u (by omega) (by omega)) g2⟩
theorem r85_b (h : 0 < τ 0 12) (ha : a + 8 < 2235) (κ : Int) : ∃ τ', M_readRest_J85 a κ τ = some (0, τ') ∧ BA a τ τ' := by
  rw [M_readRest_J85]; split
  · exact r95_b h ha κ
  · split
    · exact r95_b h ha κ
    · exact r109_b h ha κ
end
/-! one order -/
def YH (S O : Nat) (σ : Sg) : Prop := σ 36 5 = (O : Nat) ∧ σ 36 6 = (S : Nat) ∧ O < 60 ∧ S < 30
theorem YH.t {S O : Nat} {σ σ' : Sg} (h : YH S O σ) (g : T5 σ σ') : YH S O σ' := ⟨by rw [g.e (by omega)]; exact h.1, by rw [g.e (by omega)]; exact h.2.1, h.2.2⟩
theorem ya_1 {S O : Nat} {σ : Sg} (h : YH S O σ) {q : Int} (hq : q ≠ 23) (f s t : Int) : Ye_add 36 q f s t σ = some (1, yaH σ O (S + 1) q f s t) := by
  rw [ya_h h.1 h.2.1 h.2.2.1 (by have := h.2.2.2; omega), if_neg hq]
def PLQ (W N S O : Nat) (σ τ : Sg) : Prop := PLN (σ 37) (σ 38) (σ 39) (σ 40) (fun k => τ 5 (1965 + k)) W N S O
def OPQ (W N S O : Nat) (σ τ : Sg) : Prop := OPN (σ 37) (σ 38) (σ 39) (σ 40) (fun k => τ 5 (1965 + k)) W N S O
def ORO (n R : Nat) (B : Nat → Int) (b : Nat → Nat) (j S O : Nat) (P : Sg → Sg → Prop) (X Y : Rs) (σ τ : Sg) : Prop :=
  (∃ (σ' τ' : Sg) (j' k' v' p' : Nat), X = some (1, σ') ∧ Y = some (0, τ') ∧ j ≤ j' ∧ CU n R B b j' k' v' p' σ' τ' ∧ σ' 36 5 = (O + 1 : Nat) ∧ σ' 36 6 = (S + 1 : Nat) ∧ σ' 41 O = -1 ∧ FYH O σ σ' ∧ FYA (1965 + 9 * S) τ τ' ∧ P σ' τ') ∨
  (∃ σ' τ', X = some (0, σ') ∧ Y = some (0, τ') ∧ FLT σ' τ' ∧ FYH O σ σ' ∧ FYA (1965 + 9 * S) τ τ')
section
variable {n R j k v p : Nat} {B : Nat → Int} {b : Nat → Nat} {σ τ : Sg} {W N S O : Nat}
theorem oro_a {P : Sg → Sg → Prop} {X Y : Rs} {σ1 τ1 : Sg} {q f s t : Int} {j' k' v' p' : Nat} (f1 : T5 σ σ1) (hX : X = some (1, yaH σ1 O (S + 1) q f s t)) (hY : Y = some (0, τ1)) (hj : j ≤ j') (hc : CU n R B b j' k' v' p' σ1 τ1) (hF : FYA (1965 + 9 * S) τ τ1) (hP : P (yaH σ1 O (S + 1) q f s t) τ1) : ORO n R B b j S O P X Y σ τ :=
  .inl ⟨_, τ1, j', k', v', p', hX, hY, hj, hc.cg (fun o x z => yaH_f (by omega)) (fun _ _ _ => rfl), yaH_5, yaH_6, yaH_m, fun o k q1 q2 q3 => by rw [yaH_f (by omega)]; exact f1 o k (by omega), hF, hP⟩
theorem oro_b {P : Sg → Sg → Prop} {X Y : Rs} {σ1 τ1 : Sg} (f1 : T5 σ σ1) (hX : X = some (0, σ1)) (hY : Y = some (0, τ1)) (hf : FLT σ1 τ1) (hF : FYA (1965 + 9 * S) τ τ1) : ORO n R B b j S O P X Y σ τ :=
  .inr ⟨σ1, τ1, hX, hY, hf, f1.y, hF⟩
/-- day, loop -/
theorem or_count (h : CU n R B b j k v p σ τ) (hy : YH S O σ) {q κ most : Int} (hq : (q = 12 ∧ κ = 0 ∧ most = 20) ∨ (q = 22 ∧ κ = 6 ∧ most = 99)) (hκ : τ 5 (1965 + 9 * S) = κ) :
    ORO n R B b j S O (fun σ' τ' => if q = 12 then PLQ W N S O σ' τ' else OPQ W N S O σ' τ') (bd (YR_readCount 36 q most σ) (fun r s => zb r (some (r, s)))) (M_readRest ((1965 + 9 * S : Nat) : Int) τ) σ τ := by
  have hS := hy.2.2.2
  have ha : 1965 + 9 * S + 8 < 2235 := by omega
  have eM : M_readRest ((1965 + 9 * S : Nat) : Int) τ = bd (M_count 1 most τ) (fun r s => M_readRest_J85 ((1965 + 9 * S : Nat) : Int) κ (up_s s 5 (1965 + 9 * S + 1) r)) := by
    rw [M_readRest, rd_k (by omega) (by omega), Int.toNat_natCast, hκ, e_1 ha]
    rcases hq with ⟨_, rfl, rfl⟩ | ⟨_, rfl, rfl⟩
    · rw [if_pos rfl]
      exact bd_c (fun r s => w5 ha (by omega) _ _)
    · rw [if_neg (by omega), if_pos rfl]
      exact bd_c (fun r s => w5 ha (by omega) _ _)
  rw [YR_readCount]
  rcases h.num (x := 1) (y := most) (by omega) (by omega) with ⟨σ1, τ1, r, rl, ru, x1, y1, ⟨k1, v1, p1, c1⟩, f1, g1⟩ | ⟨σ1, τ1, x1, y1, n1, f1, g1⟩
  · rw [y1, bd_s] at eM
    have e85 : M_readRest_J85 ((1965 + 9 * S : Nat) : Int) κ (up_s τ1 5 (1965 + 9 * S + 1) (r : Nat)) = some (0, up_s τ1 5 (1965 + 9 * S + 1) (r : Nat)) := by
      rw [M_readRest_J85, if_neg (by omega), if_neg (by omega), M_readRest_J109, if_neg (by omega), if_neg (by omega)]
    refine oro_a f1 (q := q) (f := (r : Nat)) (s := 0) (t := 0) ?_ (eM.trans e85) (Nat.le_succ j) (c1.u5 _ _) (g1.a.tr (FYA.u (by omega) (by omega))) ?_
    · rw [x1, bd_s, if_neg (by omega), ya_1 (hy.t f1) (by omega), bd_s, if_neg i10, bd_s, zb_1]
    · have v0 : up_s τ1 5 (1965 + 9 * S + 1) (r : Int) 5 (1965 + 9 * S) = κ := by rw [up_v, if_neg (by omega), g1.e (by omega)]; exact hκ
      have v1 : up_s τ1 5 (1965 + 9 * S + 1) (r : Int) 5 (1965 + (9 * S + 1)) = r := by rw [up_v, if_pos (by omega)]
      show if q = 12 then _ else _
      rcases hq with ⟨rfl, rfl, rfl⟩ | ⟨rfl, rfl, rfl⟩
      · rw [if_pos rfl]
        exact .inl ⟨v0, yaH_o, by rw [yaH_a]; exact v1.symm, by rw [yaH_a]; omega, by rw [yaH_a]; omega⟩
      · rw [if_neg (by omega)]
        exact .inr (.inr ⟨v0, yaH_o, by rw [yaH_a]; exact v1.symm, by rw [yaH_a]; omega, by rw [yaH_a]; omega⟩)
  · rw [y1, bd_s] at eM
    have n2 : FLT σ1 (up_s τ1 5 (1965 + 9 * S + 1) 0) := n1.ba (BA.u (by omega) (by omega) : BA (1965 + 9 * S) τ1 _)
    obtain ⟨τ2, m1, m2⟩ := r85_b n2.b ha κ
    exact oro_b f1 (by rw [x1, bd_s, if_pos rfl, bd_s, zb_0]) (eM.trans m1) (n2.ba m2) ((g1.a.tr (FYA.u (by omega) (by omega))).tr m2.a)
/-- any, stop -/
theorem or_bare (h : CU n R B b j k v p σ τ) (hy : YH S O σ) {q κ : Int} (hq : (q = 18 ∧ κ = 4) ∨ (q = 24 ∧ κ = 7)) (hκ : τ 5 (1965 + 9 * S) = κ) :
    ORO n R B b j S O (PLQ W N S O) (bd (Ye_add 36 q 0 0 0 σ) (fun r s => zb r (some (r, s)))) (M_readRest ((1965 + 9 * S : Nat) : Int) τ) σ τ := by
  have hS := hy.2.2.2
  refine oro_a T5.rf (q := q) (f := 0) (s := 0) (t := 0) ?_ ?_ (Nat.le_refl j) h (fun _ _ _ _ => rfl) ?_
  · rw [ya_1 hy (by omega), bd_s, zb_1]
  · rw [M_readRest, rd_k (by omega) (by omega), Int.toNat_natCast, hκ, if_neg (by omega), if_neg (by omega), if_neg (by omega), if_neg (by omega), M_readRest_J85, if_neg (by omega), if_neg (by omega), M_readRest_J109, if_neg (by omega), if_neg (by omega)]
  · rcases hq with ⟨rfl, rfl⟩ | ⟨rfl, rfl⟩
    · exact .inr (.inr (.inr (.inr (.inl ⟨hκ, yaH_o⟩))))
    · exact .inr (.inr (.inr (.inr (.inr ⟨hκ, yaH_o⟩))))
/-- keep -/
theorem or_keep (h : CU n R B b j k v p σ τ) (hN : NB 8 0 σ τ W N) (hy : YH S O σ) (hκ : τ 5 (1965 + 9 * S) = 1) :
    ORO n R B b j S O (PLQ W N S O) (bd (YR_readPersonAndWord 8 36 13 σ) (fun r s => zb r (some (r, s)))) (M_readRest ((1965 + 9 * S : Nat) : Int) τ) σ τ := by
  have hS := hy.2.2.2
  have ha : 1965 + 9 * S + 8 < 2235 := by omega
  have eM : M_readRest ((1965 + 9 * S : Nat) : Int) τ = bd (M_readTold 0 1 τ) (fun r s => M_readRest_J85 ((1965 + 9 * S : Nat) : Int) 1 (up_s s 5 (1965 + 9 * S + 1) r)) := by
    rw [M_readRest, rd_k (by omega) (by omega), Int.toNat_natCast, hκ, e_1 ha, if_neg (by omega), if_neg (by omega), if_neg (by omega), if_pos (by omega)]
    exact bd_c (fun r s => w5 ha (by omega) _ _)
  rw [YR_readPersonAndWord]
  rcases h.rtP hN with ⟨r, σ1, τ1, rl, x1, y1, ⟨k1, v1, p1, c1⟩, f1, g1⟩ | ⟨σ1, τ1, x1, y1, n1, f1, g1⟩
  · rw [show M_readTold 0 1 τ = _ from y1, bd_s, M_readRest_J85, if_pos rfl, M_readRest_J95] at eM
    have c1' := c1.u5 (1965 + 9 * S + 1) (r : Nat)
    have nb1 := (hN.t f1 g1).u5 (k := 1965 + 9 * S + 1) (by omega) (r : Nat)
    rcases c1'.rtW nb1 with ⟨u, σ2, τ2, ul, x2, y2, ⟨k2, v2, p2, c2⟩, f2, g2⟩ | ⟨σ2, τ2, x2, y2, n2, f2, g2⟩
    · rw [show M_readTold 0 0 _ = _ from y2, bd_s, e_2 ha, w5 ha (by omega), M_readRest_J109, if_neg (by omega), if_neg (by omega)] at eM
      refine oro_a (f1.tr f2) (q := 13) (f := (r : Nat)) (s := (u : Nat)) (t := 0) ?_ eM (by omega) (c2.u5 _ _) (((g1.a.tr (FYA.u (by omega) (by omega))).tr g2.a).tr (FYA.u (by omega) (by omega))) ?_
      · rw [x1, bd_s, if_neg (by omega), x2, bd_s, if_neg (by omega), ya_1 (hy.t (f1.tr f2)) (by omega), bd_s, if_neg i10, bd_s, zb_1]
      · have v0 : up_s τ2 5 (1965 + 9 * S + 2) (u : Int) 5 (1965 + 9 * S) = 1 := by rw [up_v, if_neg (by omega), g2.e (by omega), up_v, if_neg (by omega), g1.e (by omega)]; exact hκ
        have v1 : up_s τ2 5 (1965 + 9 * S + 2) (u : Int) 5 (1965 + (9 * S + 1)) = r := by rw [up_v, if_neg (by omega), g2.e (by omega), up_v, if_pos (by omega)]
        have v2 : up_s τ2 5 (1965 + 9 * S + 2) (u : Int) 5 (1965 + (9 * S + 2)) = u := by rw [up_v, if_pos (by omega)]
        exact .inr (.inl ⟨v0, yaH_o, by rw [yaH_a]; exact v1.symm, by rw [yaH_s]; exact v2.symm, by rw [yaH_a]; omega, by rw [yaH_s]; omega⟩)
    · rw [show M_readTold 0 0 _ = _ from y2, bd_s, e_2 ha, w5 ha (by omega)] at eM
      have n3 : FLT σ2 (up_s τ2 5 (1965 + 9 * S + 2) 0) := n2.ba (BA.u (by omega) (by omega) : BA (1965 + 9 * S) τ2 _)
      obtain ⟨τ3, m1, m2⟩ := r109_b n3.b ha 1
      exact oro_b (f1.tr f2) (by rw [x1, bd_s, if_neg (by omega), x2, bd_s, if_pos rfl, bd_s, zb_0]) (eM.trans m1) (n3.ba m2) ((((g1.a.tr (FYA.u (by omega) (by omega))).tr g2.a).tr (FYA.u (by omega) (by omega))).tr m2.a)
  · rw [show M_readTold 0 1 τ = _ from y1, bd_s] at eM
    have n2 : FLT σ1 (up_s τ1 5 (1965 + 9 * S + 1) 0) := n1.ba (BA.u (by omega) (by omega) : BA (1965 + 9 * S) τ1 _)
    obtain ⟨τ2, m1, m2⟩ := r85_b n2.b ha 1
    exact oro_b f1 (by rw [x1, bd_s, if_pos rfl, bd_s, zb_0]) (eM.trans m1) (n2.ba m2) ((g1.a.tr (FYA.u (by omega) (by omega))).tr m2.a)
/-- cut -/
theorem or_cut (h : CU n R B b j k v p σ τ) (hN : NB 8 0 σ τ W N) (hy : YH S O σ) (hκ : τ 5 (1965 + 9 * S) = 3) :
    ORO n R B b j S O (PLQ W N S O) (bd (YR_readCutting 8 36 σ) (fun r s => zb r (some (r, s)))) (M_readRest ((1965 + 9 * S : Nat) : Int) τ) σ τ := by
  have hS := hy.2.2.2
  have ha : 1965 + 9 * S + 8 < 2235 := by omega
  have eM : M_readRest ((1965 + 9 * S : Nat) : Int) τ = bd (M_readTold 0 1 τ) (fun r s => M_readRest_J85 ((1965 + 9 * S : Nat) : Int) 3 (up_s s 5 (1965 + 9 * S + 1) r)) := by
    rw [M_readRest, rd_k (by omega) (by omega), Int.toNat_natCast, hκ, e_1 ha, if_neg (by omega), if_neg (by omega), if_neg (by omega), if_pos (by omega)]
    exact bd_c (fun r s => w5 ha (by omega) _ _)
  rw [YR_readCutting]
  rcases h.rtP hN with ⟨r, σ1, τ1, rl, x1, y1, ⟨k1, v1, p1, c1⟩, f1, g1⟩ | ⟨σ1, τ1, x1, y1, n1, f1, g1⟩
  · have c1' := c1.u5 (1965 + 9 * S + 1) (r : Nat)
    have nb1 := (hN.t f1 g1).u5 (k := 1965 + 9 * S + 1) (by omega) (r : Nat)
    rw [show M_readTold 0 1 τ = _ from y1, bd_s, M_readRest_J85, if_neg (by omega), if_neg (by omega), M_readRest_J109, if_neg (by omega), if_pos rfl, M_readRest_J119, if_neg (by omega), is_by c1'.td, bd_s, M_readRest_J136] at eM
    rcases c1'.key 17 with ⟨ka, kb, σ2, τ2, x2, y2, ⟨k2, v2, p2, c2⟩, f2, g2⟩ | ⟨σ2, τ2, x2, y2, n2, f2, g2⟩
    · rw [y2, bd_s] at eM
      rcases c2.rtP (nb1.t f2 g2) with ⟨u, σ3, τ3, ul, x3, y3, ⟨k3, v3, p3, c3⟩, f3, g3⟩ | ⟨σ3, τ3, x3, y3, n3, f3, g3⟩
      · rw [show M_readTold 0 1 τ2 = _ from y3, bd_s, e_3 ha, w5 ha (by omega)] at eM
        refine oro_a (f1.tr (f2.tr f3)) (q := 16) (f := (r : Nat)) (s := (u : Nat)) (t := 0) ?_ eM (by omega) (c3.u5 _ _) ((g1.a.tr (FYA.u (by omega) (by omega))).tr ((g2.tr g3).a.tr (FYA.u (by omega) (by omega)))) ?_
        · rw [x1, bd_s, if_neg (by omega), show To_takeKey 17 σ1 = _ from x2, bd_s, if_neg i10, x3, bd_s, if_neg (by omega), ya_1 (hy.t (f1.tr (f2.tr f3))) (by omega), bd_s, if_neg i10, bd_s, zb_1]
        · have v0 : up_s τ3 5 (1965 + 9 * S + 3) (u : Int) 5 (1965 + 9 * S) = 3 := by rw [up_v, if_neg (by omega), g3.e (by omega), g2.e (by omega), up_v, if_neg (by omega), g1.e (by omega)]; exact hκ
          have v1 : up_s τ3 5 (1965 + 9 * S + 3) (u : Int) 5 (1965 + (9 * S + 1)) = r := by rw [up_v, if_neg (by omega), g3.e (by omega), g2.e (by omega), up_v, if_pos (by omega)]
          have v3 : up_s τ3 5 (1965 + 9 * S + 3) (u : Int) 5 (1965 + (9 * S + 3)) = u := by rw [up_v, if_pos (by omega)]
          exact .inr (.inr (.inr (.inl ⟨v0, yaH_o, by rw [yaH_a]; exact v1.symm, by rw [yaH_s]; exact v3.symm, by rw [yaH_a]; omega, by rw [yaH_s]; omega⟩)))
      · rw [show M_readTold 0 1 τ2 = _ from y3, bd_s, e_3 ha, w5 ha (by omega)] at eM
        exact oro_b (f1.tr (f2.tr f3)) (by rw [x1, bd_s, if_neg (by omega), show To_takeKey 17 σ1 = _ from x2, bd_s, if_neg i10, x3, bd_s, if_pos rfl, bd_s, zb_0]) eM (n3.ba (BA.u (by omega) (by omega) : BA (1965 + 9 * S) τ3 _)) ((g1.a.tr (FYA.u (by omega) (by omega))).tr ((g2.tr g3).a.tr (FYA.u (by omega) (by omega))))
    · rw [y2, bd_s, rt_b n2.b, bd_s, e_3 ha, w5 ha (by omega)] at eM
      exact oro_b (f1.tr f2) (by rw [x1, bd_s, if_neg (by omega), show To_takeKey 17 σ1 = _ from x2, bd_s, if_pos rfl, bd_s, zb_0]) eM (n2.ba (BA.u (by omega) (by omega) : BA (1965 + 9 * S) τ2 _)) ((g1.a.tr (FYA.u (by omega) (by omega))).tr (g2.a.tr (FYA.u (by omega) (by omega))))
  · rw [show M_readTold 0 1 τ = _ from y1, bd_s] at eM
    have n2 : FLT σ1 (up_s τ1 5 (1965 + 9 * S + 1) 0) := n1.ba (BA.u (by omega) (by omega) : BA (1965 + 9 * S) τ1 _)
    obtain ⟨τ2, m1, m2⟩ := r85_b n2.b ha 3
    exact oro_b f1 (by rw [x1, bd_s, if_pos rfl, bd_s, zb_0]) (eM.trans m1) (n2.ba m2) ((g1.a.tr (FYA.u (by omega) (by omega))).tr m2.a)
/-- say -/
theorem or_say (h : CU n R B b j k v p σ τ) (hN : NB 8 0 σ τ W N) (hy : YH S O σ) (hκ : τ 5 (1965 + 9 * S) = 2) :
    ORO n R B b j S O (PLQ W N S O) (bd (YR_readSaying 8 36 σ) (fun r s => zb r (some (r, s)))) (M_readRest ((1965 + 9 * S : Nat) : Int) τ) σ τ := by
  have hS := hy.2.2.2
  have ha : 1965 + 9 * S + 8 < 2235 := by omega
  have eM : M_readRest ((1965 + 9 * S : Nat) : Int) τ = bd (M_readTold 0 1 τ) (fun r s => M_readRest_J85 ((1965 + 9 * S : Nat) : Int) 2 (up_s s 5 (1965 + 9 * S + 1) r)) := by
    rw [M_readRest, rd_k (by omega) (by omega), Int.toNat_natCast, hκ, e_1 ha, if_neg (by omega), if_neg (by omega), if_neg (by omega), if_pos (by omega)]
    exact bd_c (fun r s => w5 ha (by omega) _ _)
  rw [YR_readSaying]
  rcases h.rtP hN with ⟨r, σ1, τ1, rl, x1, y1, ⟨k1, v1, p1, c1⟩, f1, g1⟩ | ⟨σ1, τ1, x1, y1, n1, f1, g1⟩
  · have c1' := c1.u5 (1965 + 9 * S + 1) (r : Nat)
    have nb1 := (hN.t f1 g1).u5 (k := 1965 + 9 * S + 1) (by omega) (r : Nat)
    rw [show M_readTold 0 1 τ = _ from y1, bd_s, M_readRest_J85, if_neg (by omega), if_pos rfl, M_readRest_J95] at eM
    have gA : FYA (1965 + 9 * S) τ (up_s τ1 5 (1965 + 9 * S + 1) (r : Nat)) := g1.a.tr (FYA.u (by omega) (by omega))
    rcases c1'.rtW nb1 with ⟨u, σ2, τ2, ul, x2, y2, ⟨k2, v2, p2, c2⟩, f2, g2⟩ | ⟨σ2, τ2, x2, y2, n2, f2, g2⟩
    · have c2' := c2.u5 (1965 + 9 * S + 2) (u : Nat)
      have nb2 := (nb1.t f2 g2).u5 (k := 1965 + 9 * S + 2) (by omega) (u : Nat)
      have gB : FYA (1965 + 9 * S) τ (up_s τ2 5 (1965 + 9 * S + 2) (u : Nat)) := (gA.tr g2.a).tr (FYA.u (by omega) (by omega))
      rw [show M_readTold 0 0 _ = _ from y2, bd_s, e_2 ha, w5 ha (by omega), M_readRest_J109, if_pos rfl, M_readRest_J119, if_pos rfl, is_to c2'.td, bd_s, M_readRest_J136] at eM
      rcases c2'.key 15 with ⟨ka, kb, σ3, τ3, x3, y3, ⟨k3, v3, p3, c3⟩, f3, g3⟩ | ⟨σ3, τ3, x3, y3, n3, f3, g3⟩
      · rw [y3, bd_s] at eM
        rcases c3.rtP (nb2.t f3 g3) with ⟨t, σ4, τ4, tl, x4, y4, ⟨k4, v4, p4, c4⟩, f4, g4⟩ | ⟨σ4, τ4, x4, y4, n4, f4, g4⟩
        · rw [show M_readTold 0 1 τ3 = _ from y4, bd_s, e_3 ha, w5 ha (by omega)] at eM
          refine oro_a (f1.tr (f2.tr (f3.tr f4))) (q := 14) (f := (r : Nat)) (s := (u : Nat)) (t := (t : Nat)) ?_ eM (by omega) (c4.u5 _ _) (gB.tr ((g3.tr g4).a.tr (FYA.u (by omega) (by omega)))) ?_
          · rw [x1, bd_s, if_neg (by omega), x2, bd_s, if_neg (by omega), show To_takeKey 15 σ2 = _ from x3, bd_s, if_neg i10, x4, bd_s, if_neg (by omega), ya_1 (hy.t (f1.tr (f2.tr (f3.tr f4)))) (by omega), bd_s, if_neg i10, bd_s, zb_1]
          · have v0 : up_s τ4 5 (1965 + 9 * S + 3) (t : Int) 5 (1965 + 9 * S) = 2 := by rw [up_v, if_neg (by omega), g4.e (by omega), g3.e (by omega), up_v, if_neg (by omega), g2.e (by omega), up_v, if_neg (by omega), g1.e (by omega)]; exact hκ
            have v1 : up_s τ4 5 (1965 + 9 * S + 3) (t : Int) 5 (1965 + (9 * S + 1)) = r := by rw [up_v, if_neg (by omega), g4.e (by omega), g3.e (by omega), up_v, if_neg (by omega), g2.e (by omega), up_v, if_pos (by omega)]
            have v2 : up_s τ4 5 (1965 + 9 * S + 3) (t : Int) 5 (1965 + (9 * S + 2)) = u := by rw [up_v, if_neg (by omega), g4.e (by omega), g3.e (by omega), up_v, if_pos (by omega)]
            have v3 : up_s τ4 5 (1965 + 9 * S + 3) (t : Int) 5 (1965 + (9 * S + 3)) = t := by rw [up_v, if_pos (by omega)]
            exact .inr (.inr (.inl ⟨v0, yaH_o, by rw [yaH_a]; exact v1.symm, by rw [yaH_s]; exact v2.symm, by rw [yaH_t]; exact v3.symm, by rw [yaH_a]; omega, by rw [yaH_s]; omega, by rw [yaH_t]; omega⟩))
        · rw [show M_readTold 0 1 τ3 = _ from y4, bd_s, e_3 ha, w5 ha (by omega)] at eM
          exact oro_b (f1.tr (f2.tr (f3.tr f4))) (by rw [x1, bd_s, if_neg (by omega), x2, bd_s, if_neg (by omega), show To_takeKey 15 σ2 = _ from x3, bd_s, if_neg i10, x4, bd_s, if_pos rfl, bd_s, zb_0]) eM (n4.ba (BA.u (by omega) (by omega) : BA (1965 + 9 * S) τ4 _)) (gB.tr ((g3.tr g4).a.tr (FYA.u (by omega) (by omega))))
      · rw [y3, bd_s, rt_b n3.b, bd_s, e_3 ha, w5 ha (by omega)] at eM
        exact oro_b (f1.tr (f2.tr f3)) (by rw [x1, bd_s, if_neg (by omega), x2, bd_s, if_neg (by omega), show To_takeKey 15 σ2 = _ from x3, bd_s, if_pos rfl, bd_s, zb_0]) eM (n3.ba (BA.u (by omega) (by omega) : BA (1965 + 9 * S) τ3 _)) (gB.tr (g3.a.tr (FYA.u (by omega) (by omega))))
    · rw [show M_readTold 0 0 _ = _ from y2, bd_s, e_2 ha, w5 ha (by omega)] at eM
      have n3 : FLT σ2 (up_s τ2 5 (1965 + 9 * S + 2) 0) := n2.ba (BA.u (by omega) (by omega) : BA (1965 + 9 * S) τ2 _)
      obtain ⟨τ3, m1, m2⟩ := r109_b n3.b ha 2
      exact oro_b (f1.tr f2) (by rw [x1, bd_s, if_neg (by omega), x2, bd_s, if_pos rfl, bd_s, zb_0]) (eM.trans m1) (n3.ba m2) (((gA.tr g2.a).tr (FYA.u (by omega) (by omega))).tr m2.a)
  · rw [show M_readTold 0 1 τ = _ from y1, bd_s] at eM
    have n2 : FLT σ1 (up_s τ1 5 (1965 + 9 * S + 1) 0) := n1.ba (BA.u (by omega) (by omega) : BA (1965 + 9 * S) τ1 _)
    obtain ⟨τ2, m1, m2⟩ := r85_b n2.b ha 2
    exact oro_b f1 (by rw [x1, bd_s, if_pos rfl, bd_s, zb_0]) (eM.trans m1) (n2.ba m2) ((g1.a.tr (FYA.u (by omega) (by omega))).tr m2.a)
end
