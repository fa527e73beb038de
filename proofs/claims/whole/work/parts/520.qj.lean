/-! days ahead -/
theorem wb (z : Int) (h1 : -2147483648 ≤ z) (h2 : z < 2147483648) : z.bmod (2 ^ 32) = z := Int.bmod_eq_of_le (by omega) (by omega)
theorem dv_n {x y : Int} (h0 : 0 ≤ x) (h1 : x < 2147483648) (h2 : 0 < y) (h3 : y < 2147483648) : dv32 x y = x / y := by
  have q1 : 0 ≤ x / y := Int.ediv_nonneg h0 (Int.le_of_lt h2)
  have q2 : x / y ≤ x := Int.ediv_le_self y h0
  have q3 : x / y < 2147483648 := Int.lt_of_le_of_lt q2 h1
  unfold dv32
  rw [Int32.toInt_div, i32_of ⟨Int.le_trans (by decide) h0, h1⟩, i32_of ⟨Int.le_trans (by decide) (Int.le_of_lt h2), h3⟩, Int.tdiv_eq_ediv_of_nonneg h0]
  exact wb _ (Int.le_trans (by decide) q1) q3
theorem i32_dv {x y : Int} (h0 : 0 ≤ x) (h1 : x < 2147483648) (h2 : 0 < y) (h3 : y < 2147483648) : Int32.ofInt x / Int32.ofInt y = Int32.ofInt (x / y) := by
  have q := dv_n h0 h1 h2 h3
  unfold dv32 at q
  rw [← q, Int32.ofInt_toInt]
theorem rm_n {x y : Int} (h0 : 0 ≤ x) (h1 : x < 2147483648) (h2 : 0 < y) (h3 : y < 2147483648) : rm32 x y = x % y := by
  have q2 := Int.emod_nonneg x (Int.ne_of_gt h2)
  have q3 := Int.lt_trans (Int.emod_lt_of_pos x h2) h3
  unfold rm32
  rw [i32_dv h0 h1 h2 h3, ← Int32.ofInt_mul, ← Int32.ofInt_sub, Int.mul_comm, ← Int.emod_def]
  exact i32_of ⟨Int.le_trans (by decide) q2, q3⟩
def ln (j : Nat) : Nat := if j = 1 then 14 else if j ≤ 4 then 8 else if j ≤ 7 then 6 else if j ≤ 9 then 48 else 18
theorem PS.cgb {p p' : Nat} {σ τ σ' τ' : Sg} {W N D E : Nat} (h : PS p σ τ W N D E)
    (h0 : ∀ k, 10 ≤ k → k < 18 → k ≠ 16 → σ' p' k = σ p k) (hk : ∀ j k, ((2 ≤ j ∧ j ≤ 4 ∧ k < 8) ∨ (5 ≤ j ∧ j ≤ 7 ∧ k < 6) ∨ (j = 10 ∧ k < 18)) → σ' (p' + j) k = σ (p + j) k)
    (ht : ∀ k, k < 175 → (k < 6 ∨ 9 ≤ k) → (k < 37 ∨ 145 ≤ k) → τ' 5 k = τ 5 k) : PS p' σ' τ' W N D E := by
  have bW := h.bW
  have bN := h.bN
  have bD := h.bD
  have bE := h.bE
  refine PS.mk h.bW h.bN h.bD h.bE ?_ ?_ ?_ ?_ ?_ ?_ ?_ ?_ ?_ ?_ ?_ ?_ ?_ ?_ ?_ ?_ ?_ ?_ ?_ ?_ ?_ ?_ ?_ ?_ ?_ ?_ ?_ ?_ ?_ ?_ ?_
  · rw [h0 _ (by omega) (by omega) (by omega)]; exact h.w
  · rw [ht _ (by omega) (by omega) (by omega)]; exact h.w'
  · rw [h0 _ (by omega) (by omega) (by omega)]; exact h.n
  · rw [ht _ (by omega) (by omega) (by omega)]; exact h.n'
  · rw [h0 _ (by omega) (by omega) (by omega)]; exact h.d
  · rw [ht _ (by omega) (by omega) (by omega)]; exact h.d'
  · rw [h0 _ (by omega) (by omega) (by omega)]; exact h.e
  · rw [ht _ (by omega) (by omega) (by omega)]; exact h.e'
  · rw [h0 _ (by omega) (by omega) (by omega), ht _ (by omega) (by omega) (by omega)]; exact h.hd
  · rw [ht _ (by omega) (by omega) (by omega)]; exact h.hdb
  · rw [h0 _ (by omega) (by omega) (by omega), ht _ (by omega) (by omega) (by omega)]; exact h.od
  · rw [ht _ (by omega) (by omega) (by omega)]; exact h.odb
  · rw [h0 _ (by omega) (by omega) (by omega), h.ba]
    exact (bsum_c (fun i hi => ht _ (by omega) (by omega) (by omega))).symm
  · intro i hi; rw [ht _ (by omega) (by omega) (by omega)]; exact h.bab i hi
  · intro i hi; rw [hk _ _ (by omega), ht _ (by omega) (by omega) (by omega)]; exact h.gr i hi
  · intro i hi; rw [ht _ (by omega) (by omega) (by omega)]; exact h.grb i hi
  · intro i hi; rw [hk _ _ (by omega), ht _ (by omega) (by omega) (by omega)]; exact h.gy i hi
  · intro i hi; rw [ht _ (by omega) (by omega) (by omega)]; exact h.gyb i hi
  · intro i hi; rw [hk _ _ (by omega), h.oh i hi]
    exact (hsum_c (fun j hj => ht _ (by omega) (by omega) (by omega)) (fun j hj => ht _ (by omega) (by omega) (by omega))).symm
  · intro i hi; rw [hk _ _ (by omega), ht _ (by omega) (by omega) (by omega)]; exact h.tp i hi
  · intro i hi; rw [ht _ (by omega) (by omega) (by omega)]; exact h.tpb i hi
  · intro i hi; rw [hk _ _ (by omega), ht _ (by omega) (by omega) (by omega)]; exact h.d1 i hi
  · intro i hi; rw [ht _ (by omega) (by omega) (by omega)]; exact h.d1b i hi
  · intro i hi; rw [hk _ _ (by omega), ht _ (by omega) (by omega) (by omega)]; exact h.d2 i hi
  · intro i hi; rw [ht _ (by omega) (by omega) (by omega)]; exact h.d2b i hi
  · intro i hi; rw [hk _ _ (by omega), ht _ (by omega) (by omega) (by omega)]; exact h.d3 i hi
  · intro i hi; rw [ht _ (by omega) (by omega) (by omega)]; exact h.d3b i hi
  · intro i hi; rw [ht (145 + i) (by omega) (by omega) (by omega), ht (151 + i) (by omega) (by omega) (by omega)]; exact h.d12 i hi
  · intro i hi; rw [ht _ (by omega) (by omega) (by omega)]; exact h.h1b i hi
  · intro i hi; rw [ht _ (by omega) (by omega) (by omega)]; exact h.h2b i hi
  · intro i hi; rw [ht (163 + i) (by omega) (by omega) (by omega), ht (169 + i) (by omega) (by omega) (by omega)]; exact h.h12 i hi
theorem PD.cgb {p p' : Nat} {σ τ σ' τ' : Sg} {W N : Nat} (bW : W ≤ 8) (bN : N ≤ 6) (h : PD p σ τ W N)
    (h0 : ∀ k, (k = 16 ∨ k = 18 ∨ k = 19) → σ' p' k = σ p k) (hk : ∀ j k, ((6 ≤ j ∧ j ≤ 7 ∧ k < 6) ∨ (8 ≤ j ∧ j ≤ 9 ∧ k < 48)) → σ' (p' + j) k = σ (p + j) k)
    (ht : ∀ k, 6 ≤ k → k < 145 → (k < 25 ∨ 37 ≤ k) → τ' 5 k = τ 5 k) : PD p' σ' τ' W N := by
  refine PD.mk ?_ ?_ ?_ ?_ ?_ ?_ ?_ ?_ ?_ ?_ ?_ ?_ ?_
  · rw [h0 _ (by omega), ht _ (by omega) (by omega) (by omega)]; exact h.dt
  · rw [ht _ (by omega) (by omega) (by omega)]; exact h.dtb
  · rw [h0 _ (by omega), ht _ (by omega) (by omega) (by omega)]; exact h.sd
  · rw [ht _ (by omega) (by omega) (by omega)]; exact h.sdb
  · rw [h0 _ (by omega), ht _ (by omega) (by omega) (by omega)]; exact h.ct
  · rw [ht _ (by omega) (by omega) (by omega)]; exact h.ctb
  · intro i hi; rw [hk _ _ (by omega), ht _ (by omega) (by omega) (by omega)]; exact h.kn i hi
  · intro i hi; rw [ht _ (by omega) (by omega) (by omega)]; exact h.knb i hi
  · intro i hi; rw [hk _ _ (by omega), ht _ (by omega) (by omega) (by omega)]; exact h.kp i hi
  · intro i hi; rw [ht _ (by omega) (by omega) (by omega)]; exact h.kpb i hi
  · intro i k hi hk' hb
    rw [ht _ (by omega) (by omega) (by omega)] at hb
    exact (h.st i k hi hk' hb).cg (fun j _ => hk _ _ (by omega)) (fun a _ => ht _ (by omega) (by omega) (by omega))
  · intro i k hi hk'; rw [ht (49 + _) (by omega) (by omega) (by omega), ht (97 + _) (by omega) (by omega) (by omega)]; exact h.lnb i k hi hk'
  · intro i k hi hk'; rw [ht _ (by omega) (by omega) (by omega)]; exact h.agb i k hi hk'
/-- a province copied: as far as its arrays 1 to j - 1 -/
def CP (σ0 : Sg) (q p j : Nat) (s : Sg) : Prop := ∀ o k, s o k = if q < o ∧ o < q + j ∧ k < ln (o - q) then σ0 (p + (o - q)) k else σ0 o k
def CPF (σ0 : Sg) (q p j : Nat) (s : Sg) : Prop := ∀ o k, s o k = if o = q ∧ 10 ≤ k ∧ k < j then σ0 p k else if q < o ∧ o < q + 11 ∧ k < ln (o - q) then σ0 (p + (o - q)) k else σ0 o k
theorem cp_st {σ0 s : Sg} {q p j n : Nat} {z : Int} {F : Sg → Rs} {P : Sg → Prop} (hn : ln j = n) (hz : z = (n : Int)) (hd : p + 10 < q ∨ q + 10 < p) (hj : 1 ≤ j ∧ j ≤ 10) (h : CP σ0 q p j s)
    (k : ∀ s1, CP σ0 q p (j + 1) s1 → ∃ σ', F s1 = some (0, σ') ∧ P σ') : ∃ σ', cpw n n 0 0 z (cp_s s (p + j) (q + j) (Int.toNat 0) (Int.toNat 0) (Int.toNat z)) F = some (0, σ') ∧ P σ' := by
  subst hz
  rw [cpw_k (by omega)]
  refine k _ (fun o x => ?_)
  rw [cp_v, Int.toNat_zero, Int.toNat_natCast]
  by_cases e : o = q + j
  · subst e
    by_cases g : x < n
    · rw [if_pos (by omega), h (p + j), if_neg (by omega), if_pos ⟨by omega, by omega, by rw [show q + j - q = j by omega, hn]; exact g⟩, show q + j - q = j by omega]
      congr 1; omega
    · rw [if_neg (by omega), h, if_neg (by omega), if_neg (fun r => g (by have := r.2.2; rw [show q + j - q = j by omega, hn] at this; exact this))]
  · rw [if_neg (by omega), h]
    by_cases g : q < o ∧ o < q + j ∧ x < ln (o - q)
    · rw [if_pos g, if_pos ⟨g.1, by omega, g.2.2⟩]
    · rw [if_neg g, if_neg (fun r => g ⟨r.1, by omega, r.2.2⟩)]
theorem nm_st {σ0 s : Sg} {q p j : Nat} {F : Sg → Rs} {P : Sg → Prop} (hd : p + 10 < q ∨ q + 10 < p) (hj : 10 ≤ j) (h : CPF σ0 q p j s)
    (k : ∀ s1, CPF σ0 q p (j + 1) s1 → ∃ σ', F s1 = some (0, σ') ∧ P σ') : ∃ σ', nm (up_s s q j (s p j)) F = some (0, σ') ∧ P σ' := by
  refine k _ (fun o x => ?_)
  rw [up_v]
  by_cases e : o = q ∧ x = j
  · rw [if_pos e, if_pos (by omega), h, if_neg (by omega), if_neg (by omega), e.2]
  · rw [if_neg e, h]
    by_cases g : o = q ∧ 10 ≤ x ∧ x < j
    · rw [if_pos g, if_pos (by omega)]
    · rw [if_neg g, if_neg (show ¬ (o = q ∧ 10 ≤ x ∧ x < j + 1) by omega)]
theorem copyP {q p : Nat} (hd : p + 10 < q ∨ q + 10 < p) (σ : Sg) : ∃ σ', Pr_copyFrom q p σ = some (0, σ') ∧ CPF σ q p 20 σ' := by
  rw [Pr_copyFrom]
  refine cp_st (j := 1) (n := 14) (z := 14) rfl rfl hd (by omega) (fun o k => by rw [if_neg (by omega)]) (fun s1 h1 => ?_)
  refine cp_st (j := 2) (n := 8) (z := 8) rfl rfl hd (by omega) h1 (fun s2 h2 => ?_)
  refine cp_st (j := 3) (n := 8) (z := 8) rfl rfl hd (by omega) h2 (fun s3 h3 => ?_)
  refine cp_st (j := 4) (n := 8) (z := 8) rfl rfl hd (by omega) h3 (fun s4 h4 => ?_)
  refine cp_st (j := 5) (n := 6) (z := 6) rfl rfl hd (by omega) h4 (fun s5 h5 => ?_)
  refine cp_st (j := 6) (n := 6) (z := 6) rfl rfl hd (by omega) h5 (fun s6 h6 => ?_)
  refine cp_st (j := 7) (n := 6) (z := 6) rfl rfl hd (by omega) h6 (fun s7 h7 => ?_)
  refine cp_st (j := 8) (n := 48) (z := 48) rfl rfl hd (by omega) h7 (fun s8 h8 => ?_)
  refine cp_st (j := 9) (n := 48) (z := 48) rfl rfl hd (by omega) h8 (fun s9 h9 => ?_)
  refine cp_st (j := 10) (n := 18) (z := 18) rfl rfl hd (by omega) h9 (fun s10 h10 => ?_)
  have g0 : CPF σ q p 10 s10 := fun o k => by rw [if_neg (by omega)]; exact h10 o k
  refine nm_st (j := 10) hd (by omega) g0 (fun t1 g1 => ?_)
  refine nm_st (j := 11) hd (by omega) g1 (fun t2 g2 => ?_)
  refine nm_st (j := 12) hd (by omega) g2 (fun t3 g3 => ?_)
  refine nm_st (j := 13) hd (by omega) g3 (fun t4 g4 => ?_)
  refine nm_st (j := 14) hd (by omega) g4 (fun t5 g5 => ?_)
  refine nm_st (j := 15) hd (by omega) g5 (fun t6 g6 => ?_)
  refine nm_st (j := 16) hd (by omega) g6 (fun t7 g7 => ?_)
  refine nm_st (j := 17) hd (by omega) g7 (fun t8 g8 => ?_)
  refine nm_st (j := 18) hd (by omega) g8 (fun t9 g9 => ?_)
  refine nm_st (j := 19) hd (by omega) g9 (fun t10 g10 => ?_)
  exact ⟨t10, rfl, g10⟩
section
variable {σ τ σ' τ' : Sg} {W N D E : Nat}
theorem CPF.f {q p o k : Nat} (h : CPF σ q p 20 σ') (ho : o < q ∨ q + 10 < o) : σ' o k = σ o k := by rw [h, if_neg (by omega), if_neg (by omega)]
theorem CPF.h {q p k : Nat} (h : CPF σ q p 20 σ') (hk : 10 ≤ k ∧ k < 20) : σ' q k = σ p k := by rw [h, if_pos (by omega)]
theorem CPF.a {q p j k : Nat} (h : CPF σ q p 20 σ') (hj : 1 ≤ j ∧ j ≤ 10) (hk : k < ln j) : σ' (q + j) k = σ (p + j) k := by
  rw [h, if_neg (by omega), if_pos ⟨by omega, by omega, by rw [show q + j - q = j by omega]; exact hk⟩, show q + j - q = j by omega]
theorem CPF.pr {q p : Nat} (h : CPF σ q p 20 σ') (hp : PR p σ τ W N D E) (ht : ∀ k, k < 175 → τ' 5 k = τ 5 k) : PR q σ' τ' W N D E := by
  refine PR.mk (hp.toPS.cgb (fun k _ _ _ => h.h (by omega)) (fun j k q => h.a (by omega) ?_) (fun k q _ _ => ht k q)) (hp.toPD.cgb hp.bW hp.bN (fun k _ => h.h (by omega)) (fun j k q => h.a (by omega) ?_) (fun k _ _ _ => ht k (by omega)))
  · unfold ln; split
    · omega
    · split
      · omega
      · split
        · omega
        · split <;> omega
  · unfold ln; split
    · omega
    · split
      · omega
      · split
        · omega
        · split <;> omega
end
