/-! a province grows while its text is read -/
theorem hsum_0 {c : Nat → Int} {k : Int} : ∀ {E : Nat}, (∀ h, h < E → c (163 + h) ≠ k) → (∀ h, h < E → c (169 + h) ≠ k) → hsum c k E = 0
  | 0, _, _ => rfl
  | E + 1, h1, h2 => by
    rw [hsum, hsum_0 (fun h hh => h1 h (by omega)) (fun h hh => h2 h (by omega)), if_neg (h1 E (by omega)), if_neg (h2 E (by omega))]; rfl
theorem kb_0 {x : Int} {W : Nat} (hW : W < 8) (h0 : 0 ≤ x) (h1 : x < 2 ^ W) : ¬ an32 (sr32 x W) 1 = 1 := by
  obtain ⟨n, rfl⟩ := nat_of h0
  rw [← cast_pow] at h1
  have h2 : n < 2 ^ W := by omega
  have h3 : 2 ^ W ≤ 2 ^ 8 := Nat.pow_le_pow_right (by omega) (by omega)
  rw [hb_n (by omega) (by omega), Nat.testBit_lt_two_pow h2]
  simp
section
variable {p : Nat} {σ τ σ' τ' : Sg} {W N D E : Nat}
theorem PR.adW (h : PR p σ τ W N D E) (hW : W < 8) {g y : Int} (hg : 1 ≤ g ∧ g ≤ 9) (hy : 1 ≤ y ∧ y ≤ 99)
    (hs : ∀ o k, (p ≤ o ∧ o ≤ p + 10 ∧ o ≠ p + 1 ∧ ¬ (o = p ∧ k = 10) ∧ ¬ ((o = p + 2 ∨ o = p + 3 ∨ o = p + 4) ∧ k = W)) → σ' o k = σ o k)
    (ht : ∀ k, (k < 175 ∧ k ≠ 0 ∧ k ≠ 9 + W ∧ k ≠ 17 + W) → τ' 5 k = τ 5 k)
    (a1 : σ' p 10 = (W + 1 : Nat)) (a2 : τ' 5 0 = (W + 1 : Nat)) (a3 : σ' (p + 2) W = g) (a4 : τ' 5 (9 + W) = g) (a5 : σ' (p + 3) W = y) (a6 : τ' 5 (17 + W) = y) (a7 : σ' (p + 4) W = 0) : PR p σ' τ' (W + 1) N D E := by
  have bW := h.bW
  have bN := h.bN
  have bD := h.bD
  have bE := h.bE
  refine PR.mk (PS.mk ?_ ?_ ?_ ?_ ?_ ?_ ?_ ?_ ?_ ?_ ?_ ?_ ?_ ?_ ?_ ?_ ?_ ?_ ?_ ?_ ?_ ?_ ?_ ?_ ?_ ?_ ?_ ?_ ?_ ?_ ?_ ?_ ?_ ?_ ?_) (PD.mk ?_ ?_ ?_ ?_ ?_ ?_ ?_ ?_ ?_ ?_ ?_ ?_ ?_)
  · omega
  · exact h.bN
  · exact h.bD
  · exact h.bE
  · exact a1
  · exact a2
  · rw [hs _ _ (by omega)]; exact h.n
  · rw [ht _ (by omega)]; exact h.n'
  · rw [hs _ _ (by omega)]; exact h.d
  · rw [ht _ (by omega)]; exact h.d'
  · rw [hs _ _ (by omega)]; exact h.e
  · rw [ht _ (by omega)]; exact h.e'
  · rw [hs _ _ (by omega), ht _ (by omega)]; exact h.hd
  · rw [ht _ (by omega)]; exact h.hdb
  · rw [hs _ _ (by omega), ht _ (by omega)]; exact h.od
  · rw [ht _ (by omega)]; exact h.odb
  · rw [hs _ _ (by omega), h.ba]; exact (bsum_c (fun i hi => ht _ (by omega))).symm
  · intro i hi; rw [ht _ (by omega)]; exact h.bab i hi
  · intro i hi; rcases Nat.lt_or_ge i W with z | z
    · rw [hs _ _ (by omega), ht _ (by omega)]; exact h.gr i (by omega)
    · obtain rfl : i = W := by omega
      rw [a3, a4]
  · intro i hi; rcases Nat.lt_or_ge i W with z | z
    · rw [ht _ (by omega)]; exact h.grb i (by omega)
    · obtain rfl : i = W := by omega
      rw [a4]; exact hg
  · intro i hi; rcases Nat.lt_or_ge i W with z | z
    · rw [hs _ _ (by omega), ht _ (by omega)]; exact h.gy i (by omega)
    · obtain rfl : i = W := by omega
      rw [a5, a6]
  · intro i hi; rcases Nat.lt_or_ge i W with z | z
    · rw [ht _ (by omega)]; exact h.gyb i (by omega)
    · obtain rfl : i = W := by omega
      rw [a6]; exact hy
  · intro i hi; rcases Nat.lt_or_ge i W with z | z
    · rw [hs _ _ (by omega), h.oh i z]; exact (hsum_c (fun j hj => ht _ (by omega)) (fun j hj => ht _ (by omega))).symm
    · obtain rfl : i = W := by omega
      have z1 : ∀ j, j < E → τ' 5 (163 + j) ≠ (i : Int) := fun j hj => by rw [ht _ (by omega)]; have := (h.h1b j hj).2; omega
      have z2 : ∀ j, j < E → τ' 5 (169 + j) ≠ (i : Int) := fun j hj => by rw [ht _ (by omega)]; have := (h.h2b j hj).2; omega
      rw [a7, hsum_0 z1 z2]
  · intro i hi; rw [hs _ _ (by omega), ht _ (by omega)]; exact h.tp i hi
  · intro i hi; rw [ht _ (by omega)]; exact h.tpb i hi
  · intro i hi; rw [hs _ _ (by omega), ht _ (by omega)]; exact h.d1 i hi
  · intro i hi; rw [ht _ (by omega)]; exact h.d1b i hi
  · intro i hi; rw [hs _ _ (by omega), ht _ (by omega)]; exact h.d2 i hi
  · intro i hi; rw [ht _ (by omega)]; exact h.d2b i hi
  · intro i hi; rw [hs _ _ (by omega), ht _ (by omega)]; exact h.d3 i hi
  · intro i hi; rw [ht _ (by omega)]; exact h.d3b i hi
  · intro i hi; rw [ht (145 + i) (by omega), ht (151 + i) (by omega)]; exact h.d12 i hi
  · intro i hi; rw [ht _ (by omega)]; have := h.h1b i hi; omega
  · intro i hi; rw [ht _ (by omega)]; have := h.h2b i hi; omega
  · intro i hi; rw [ht (163 + i) (by omega), ht (169 + i) (by omega)]; exact h.h12 i hi
  · rw [hs _ _ (by omega), ht _ (by omega)]; exact h.dt
  · rw [ht _ (by omega)]; exact h.dtb
  · rw [hs _ _ (by omega), ht _ (by omega)]; exact h.sd
  · rw [ht _ (by omega)]; exact h.sdb
  · rw [hs _ _ (by omega), ht _ (by omega)]; exact h.ct
  · rw [ht _ (by omega)]; exact h.ctb
  · intro i hi; rw [hs _ _ (by omega), ht _ (by omega)]; exact h.kn i hi
  · intro i hi; rw [ht _ (by omega), Int.pow_succ]; have := h.knb i hi; omega
  · intro i hi; rw [hs _ _ (by omega), ht _ (by omega)]; exact h.kp i hi
  · intro i hi; rw [ht _ (by omega), Int.pow_succ]; have := h.kpb i hi; omega
  · intro i k hi hk hb
    rw [ht _ (by omega)] at hb
    have z : k < W := by
      rcases Nat.lt_or_ge k W with z | z
      · exact z
      · obtain rfl : k = W := by omega
        exact absurd hb (kb_0 hW (h.kpb i hi).1 (h.kpb i hi).2)
    exact (h.st i k hi z hb).cg (fun j _ => hs _ _ (by omega)) (fun a _ => ht _ (by omega))
  · intro i k hi hk; rw [ht (49 + _) (by omega), ht (97 + _) (by omega)]; exact h.lnb i k hi hk
  · intro i k hi hk; rw [ht _ (by omega)]; exact h.agb i k hi hk
theorem PR.adP (h : PR p σ τ W N D E) (hN : N < 6) {g S e : Int} (hg : 0 ≤ g ∧ g ≤ 999) (hS : 0 ≤ S ∧ S < 2 ^ W) (he : e = 0 ∨ e = 1)
    (hs : ∀ o k, (p ≤ o ∧ o ≤ p + 10 ∧ o ≠ p + 1 ∧ ¬ (o = p ∧ (k = 11 ∨ k = 17)) ∧ ¬ ((o = p + 5 ∨ o = p + 6 ∨ o = p + 7) ∧ k = N) ∧ ¬ ((o = p + 8 ∨ o = p + 9) ∧ N * 8 ≤ k ∧ k < N * 8 + 8)) → σ' o k = σ o k)
    (ht : ∀ k, (k < 175 ∧ k ≠ 1 ∧ k ≠ 25 + N ∧ k ≠ 31 + N ∧ k ≠ 37 + N ∧ k ≠ 43 + N) → τ' 5 k = τ 5 k)
    (a1 : σ' p 11 = (N + 1 : Nat)) (a2 : τ' 5 1 = (N + 1 : Nat)) (a3 : σ' p 17 = or32 (σ p 17) (if e = 1 then sl32 1 (N : Nat) else 0)) (a4 : τ' 5 (31 + N) = e) (a5 : σ' (p + 5) N = g) (a6 : τ' 5 (25 + N) = g)
    (a7 : σ' (p + 6) N = S) (a8 : τ' 5 (37 + N) = S) (a9 : σ' (p + 7) N = S) (a10 : τ' 5 (43 + N) = S) (a11 : ∀ k, k < 8 → σ' (p + 8) (N * 8 + k) = τ 5 6) (a12 : ∀ k, k < 8 → σ' (p + 9) (N * 8 + k) = τ 5 6)
    (a13 : ∀ k, k < 8 → τ 5 (49 + (8 * N + k)) = 0) (a14 : ∀ k, k < 8 → τ 5 (97 + (8 * N + k)) = 0) : PR p σ' τ' W (N + 1) D E := by
  have bW := h.bW
  have bN := h.bN
  have bD := h.bD
  have bE := h.bE
  refine PR.mk (PS.mk ?_ ?_ ?_ ?_ ?_ ?_ ?_ ?_ ?_ ?_ ?_ ?_ ?_ ?_ ?_ ?_ ?_ ?_ ?_ ?_ ?_ ?_ ?_ ?_ ?_ ?_ ?_ ?_ ?_ ?_ ?_ ?_ ?_ ?_ ?_) (PD.mk ?_ ?_ ?_ ?_ ?_ ?_ ?_ ?_ ?_ ?_ ?_ ?_ ?_)
  · exact h.bW
  · omega
  · exact h.bD
  · exact h.bE
  · rw [hs _ _ (by omega)]; exact h.w
  · rw [ht _ (by omega)]; exact h.w'
  · exact a1
  · exact a2
  · rw [hs _ _ (by omega)]; exact h.d
  · rw [ht _ (by omega)]; exact h.d'
  · rw [hs _ _ (by omega)]; exact h.e
  · rw [ht _ (by omega)]; exact h.e'
  · rw [hs _ _ (by omega), ht _ (by omega)]; exact h.hd
  · rw [ht _ (by omega)]; exact h.hdb
  · rw [hs _ _ (by omega), ht _ (by omega)]; exact h.od
  · rw [ht _ (by omega)]; exact h.odb
  · rw [bsum, a4, a3, h.ba, bsum_c (c := τ 5) (c' := τ' 5) (fun i hi => ht _ (by omega))]
  · intro i hi; rcases Nat.lt_or_ge i N with z | z
    · rw [ht _ (by omega)]; exact h.bab i (by omega)
    · obtain rfl : i = N := by omega
      rw [a4]; exact he
  · intro i hi; rw [hs _ _ (by omega), ht _ (by omega)]; exact h.gr i hi
  · intro i hi; rw [ht _ (by omega)]; exact h.grb i hi
  · intro i hi; rw [hs _ _ (by omega), ht _ (by omega)]; exact h.gy i hi
  · intro i hi; rw [ht _ (by omega)]; exact h.gyb i hi
  · intro i hi; rw [hs _ _ (by omega), h.oh i hi]; exact (hsum_c (fun j hj => ht _ (by omega)) (fun j hj => ht _ (by omega))).symm
  · intro i hi; rcases Nat.lt_or_ge i N with z | z
    · rw [hs _ _ (by omega), ht _ (by omega)]; exact h.tp i (by omega)
    · obtain rfl : i = N := by omega
      rw [a5, a6]
  · intro i hi; rcases Nat.lt_or_ge i N with z | z
    · rw [ht _ (by omega)]; exact h.tpb i (by omega)
    · obtain rfl : i = N := by omega
      rw [a6]; exact hg
  · intro i hi; rw [hs _ _ (by omega), ht _ (by omega)]; exact h.d1 i hi
  · intro i hi; rw [ht _ (by omega)]; have := h.d1b i hi; omega
  · intro i hi; rw [hs _ _ (by omega), ht _ (by omega)]; exact h.d2 i hi
  · intro i hi; rw [ht _ (by omega)]; have := h.d2b i hi; omega
  · intro i hi; rw [hs _ _ (by omega), ht _ (by omega)]; exact h.d3 i hi
  · intro i hi; rw [ht _ (by omega)]; exact h.d3b i hi
  · intro i hi; rw [ht (145 + i) (by omega), ht (151 + i) (by omega)]; exact h.d12 i hi
  · intro i hi; rw [ht _ (by omega)]; exact h.h1b i hi
  · intro i hi; rw [ht _ (by omega)]; exact h.h2b i hi
  · intro i hi; rw [ht (163 + i) (by omega), ht (169 + i) (by omega)]; exact h.h12 i hi
  · rw [hs _ _ (by omega), ht _ (by omega)]; exact h.dt
  · rw [ht _ (by omega)]; exact h.dtb
  · rw [hs _ _ (by omega), ht _ (by omega)]; exact h.sd
  · rw [ht _ (by omega)]; exact h.sdb
  · rw [hs _ _ (by omega), ht _ (by omega)]; exact h.ct
  · rw [ht _ (by omega)]; exact h.ctb
  · intro i hi; rcases Nat.lt_or_ge i N with z | z
    · rw [hs _ _ (by omega), ht _ (by omega)]; exact h.kn i (by omega)
    · obtain rfl : i = N := by omega
      rw [a7, a8]
  · intro i hi; rcases Nat.lt_or_ge i N with z | z
    · rw [ht _ (by omega)]; exact h.knb i (by omega)
    · obtain rfl : i = N := by omega
      rw [a8]; exact hS
  · intro i hi; rcases Nat.lt_or_ge i N with z | z
    · rw [hs _ _ (by omega), ht _ (by omega)]; exact h.kp i (by omega)
    · obtain rfl : i = N := by omega
      rw [a9, a10]
  · intro i hi; rcases Nat.lt_or_ge i N with z | z
    · rw [ht _ (by omega)]; exact h.kpb i (by omega)
    · obtain rfl : i = N := by omega
      rw [a10]; exact hS
  · intro i k hi hk hb; rcases Nat.lt_or_ge i N with z | z
    · rw [ht _ (by omega)] at hb; exact (h.st i k z hk hb).cg (fun j _ => hs _ _ (by omega)) (fun a _ => ht _ (by omega))
    · obtain rfl : i = N := by omega
      have dd := h.dtb
      unfold SA
      rw [a11 k (by omega), a12 k (by omega), ht 6 (by omega), ht (97 + _) (by omega), ht (49 + _) (by omega), a13 k (by omega), a14 k (by omega), lnF_0]
      exact ⟨by omega, by omega, rfl⟩
  · intro i k hi hk; rcases Nat.lt_or_ge i N with z | z
    · rw [ht (49 + _) (by omega), ht (97 + _) (by omega)]; exact h.lnb i k (by omega) hk
    · obtain rfl : i = N := by omega
      rw [ht (49 + _) (by omega), ht (97 + _) (by omega), a13 k hk, a14 k hk]; omega
  · intro i k hi hk; rcases Nat.lt_or_ge i N with z | z
    · rw [ht _ (by omega)]; exact h.agb i k (by omega) hk
    · obtain rfl : i = N := by omega
      rw [ht _ (by omega), a14 k hk]; omega
theorem PR.adD (h : PR p σ τ W N D E) (hD : D < 6) {x y g : Int} (hx : 0 ≤ x ∧ x < N) (hy : 0 ≤ y ∧ y < N) (hg : 1 ≤ g ∧ g ≤ 30) (hxy : x ≠ y)
    (hs : ∀ o k, (p ≤ o ∧ o ≤ p + 10 ∧ o ≠ p + 1 ∧ ¬ (o = p ∧ k = 12) ∧ ¬ (o = p + 10 ∧ 3 * D ≤ k)) → σ' o k = σ o k)
    (ht : ∀ k, (k < 175 ∧ k ≠ 2 ∧ k ≠ 145 + D ∧ k ≠ 151 + D ∧ k ≠ 157 + D) → τ' 5 k = τ 5 k)
    (a1 : σ' p 12 = (D + 1 : Nat)) (a2 : τ' 5 2 = (D + 1 : Nat)) (bx : σ' (p + 10) (3 * D) = x) (cx : τ' 5 (145 + D) = x) (by_ : σ' (p + 10) (3 * D + 1) = y) (cy : τ' 5 (151 + D) = y) (bg : σ' (p + 10) (3 * D + 2) = g) (cg : τ' 5 (157 + D) = g) : PR p σ' τ' W N (D + 1) E := by
  have bW := h.bW
  have bN := h.bN
  have bD := h.bD
  have bE := h.bE
  refine PR.mk (PS.mk ?_ ?_ ?_ ?_ ?_ ?_ ?_ ?_ ?_ ?_ ?_ ?_ ?_ ?_ ?_ ?_ ?_ ?_ ?_ ?_ ?_ ?_ ?_ ?_ ?_ ?_ ?_ ?_ ?_ ?_ ?_ ?_ ?_ ?_ ?_) (PD.mk ?_ ?_ ?_ ?_ ?_ ?_ ?_ ?_ ?_ ?_ ?_ ?_ ?_)
  · exact h.bW
  · exact h.bN
  · omega
  · exact h.bE
  · rw [hs _ _ (by omega)]; exact h.w
  · rw [ht _ (by omega)]; exact h.w'
  · rw [hs _ _ (by omega)]; exact h.n
  · rw [ht _ (by omega)]; exact h.n'
  · exact a1
  · exact a2
  · rw [hs _ _ (by omega)]; exact h.e
  · rw [ht _ (by omega)]; exact h.e'
  · rw [hs _ _ (by omega), ht _ (by omega)]; exact h.hd
  · rw [ht _ (by omega)]; exact h.hdb
  · rw [hs _ _ (by omega), ht _ (by omega)]; exact h.od
  · rw [ht _ (by omega)]; exact h.odb
  · rw [hs _ _ (by omega), h.ba]; exact (bsum_c (fun i hi => ht _ (by omega))).symm
  · intro i hi; rw [ht _ (by omega)]; exact h.bab i hi
  · intro i hi; rw [hs _ _ (by omega), ht _ (by omega)]; exact h.gr i hi
  · intro i hi; rw [ht _ (by omega)]; exact h.grb i hi
  · intro i hi; rw [hs _ _ (by omega), ht _ (by omega)]; exact h.gy i hi
  · intro i hi; rw [ht _ (by omega)]; exact h.gyb i hi
  · intro i hi; rw [hs _ _ (by omega), h.oh i hi]; exact (hsum_c (fun j hj => ht _ (by omega)) (fun j hj => ht _ (by omega))).symm
  · intro i hi; rw [hs _ _ (by omega), ht _ (by omega)]; exact h.tp i hi
  · intro i hi; rw [ht _ (by omega)]; exact h.tpb i hi
  · intro i hi; rcases Nat.lt_or_ge i D with z | z
    · rw [hs _ _ (by omega), ht _ (by omega)]; exact h.d1 i (by omega)
    · obtain rfl : i = D := by omega
      rw [bx, cx]
  · intro i hi; rcases Nat.lt_or_ge i D with z | z
    · rw [ht _ (by omega)]; exact h.d1b i (by omega)
    · obtain rfl : i = D := by omega
      rw [cx]; exact hx
  · intro i hi; rcases Nat.lt_or_ge i D with z | z
    · rw [hs _ _ (by omega), ht _ (by omega)]; exact h.d2 i (by omega)
    · obtain rfl : i = D := by omega
      rw [by_, cy]
  · intro i hi; rcases Nat.lt_or_ge i D with z | z
    · rw [ht _ (by omega)]; exact h.d2b i (by omega)
    · obtain rfl : i = D := by omega
      rw [cy]; exact hy
  · intro i hi; rcases Nat.lt_or_ge i D with z | z
    · rw [hs _ _ (by omega), ht _ (by omega)]; exact h.d3 i (by omega)
    · obtain rfl : i = D := by omega
      rw [bg, cg]
  · intro i hi; rcases Nat.lt_or_ge i D with z | z
    · rw [ht _ (by omega)]; exact h.d3b i (by omega)
    · obtain rfl : i = D := by omega
      rw [cg]; exact hg
  · intro i hi; rcases Nat.lt_or_ge i D with z | z
    · rw [ht (145 + i) (by omega), ht (151 + i) (by omega)]; exact h.d12 i (by omega)
    · obtain rfl : i = D := by omega
      rw [cx, cy]; exact hxy
  · intro i hi; rw [ht _ (by omega)]; exact h.h1b i hi
  · intro i hi; rw [ht _ (by omega)]; exact h.h2b i hi
  · intro i hi; rw [ht (163 + i) (by omega), ht (169 + i) (by omega)]; exact h.h12 i hi
  · rw [hs _ _ (by omega), ht _ (by omega)]; exact h.dt
  · rw [ht _ (by omega)]; exact h.dtb
  · rw [hs _ _ (by omega), ht _ (by omega)]; exact h.sd
  · rw [ht _ (by omega)]; exact h.sdb
  · rw [hs _ _ (by omega), ht _ (by omega)]; exact h.ct
  · rw [ht _ (by omega)]; exact h.ctb
  · intro i hi; rw [hs _ _ (by omega), ht _ (by omega)]; exact h.kn i hi
  · intro i hi; rw [ht _ (by omega)]; exact h.knb i hi
  · intro i hi; rw [hs _ _ (by omega), ht _ (by omega)]; exact h.kp i hi
  · intro i hi; rw [ht _ (by omega)]; exact h.kpb i hi
  · intro i k hi hk hb; rw [ht _ (by omega)] at hb; exact (h.st i k hi hk hb).cg (fun j _ => hs _ _ (by omega)) (fun a _ => ht _ (by omega))
  · intro i k hi hk; rw [ht (49 + _) (by omega), ht (97 + _) (by omega)]; exact h.lnb i k hi hk
  · intro i k hi hk; rw [ht _ (by omega)]; exact h.agb i k hi hk
theorem PR.adH (h : PR p σ τ W N D E) (hE : E < 6) {x y : Int} (hx : 0 ≤ x ∧ x < W) (hy : 0 ≤ y ∧ y < W) (hxy : x ≠ y)
    (hs : ∀ o k, (p ≤ o ∧ o ≤ p + 10 ∧ o ≠ p + 1 ∧ ¬ (o = p ∧ k = 13) ∧ o ≠ p + 4) → σ' o k = σ o k)
    (ht : ∀ k, (k < 175 ∧ k ≠ 3 ∧ k ≠ 163 + E ∧ k ≠ 169 + E) → τ' 5 k = τ 5 k)
    (a1 : σ' p 13 = (E + 1 : Nat)) (a2 : τ' 5 3 = (E + 1 : Nat)) (a3 : ∀ k : Nat, k < W → σ' (p + 4) k = or32 (σ (p + 4) k) (if x = k then sl32 1 y else if y = k then sl32 1 x else 0)) (cx : τ' 5 (163 + E) = x) (cy : τ' 5 (169 + E) = y) : PR p σ' τ' W N D (E + 1) := by
  have bW := h.bW
  have bN := h.bN
  have bD := h.bD
  have bE := h.bE
  refine PR.mk (PS.mk ?_ ?_ ?_ ?_ ?_ ?_ ?_ ?_ ?_ ?_ ?_ ?_ ?_ ?_ ?_ ?_ ?_ ?_ ?_ ?_ ?_ ?_ ?_ ?_ ?_ ?_ ?_ ?_ ?_ ?_ ?_ ?_ ?_ ?_ ?_) (PD.mk ?_ ?_ ?_ ?_ ?_ ?_ ?_ ?_ ?_ ?_ ?_ ?_ ?_)
  · exact h.bW
  · exact h.bN
  · exact h.bD
  · omega
  · rw [hs _ _ (by omega)]; exact h.w
  · rw [ht _ (by omega)]; exact h.w'
  · rw [hs _ _ (by omega)]; exact h.n
  · rw [ht _ (by omega)]; exact h.n'
  · rw [hs _ _ (by omega)]; exact h.d
  · rw [ht _ (by omega)]; exact h.d'
  · exact a1
  · exact a2
  · rw [hs _ _ (by omega), ht _ (by omega)]; exact h.hd
  · rw [ht _ (by omega)]; exact h.hdb
  · rw [hs _ _ (by omega), ht _ (by omega)]; exact h.od
  · rw [ht _ (by omega)]; exact h.odb
  · rw [hs _ _ (by omega), h.ba]; exact (bsum_c (fun i hi => ht _ (by omega))).symm
  · intro i hi; rw [ht _ (by omega)]; exact h.bab i hi
  · intro i hi; rw [hs _ _ (by omega), ht _ (by omega)]; exact h.gr i hi
  · intro i hi; rw [ht _ (by omega)]; exact h.grb i hi
  · intro i hi; rw [hs _ _ (by omega), ht _ (by omega)]; exact h.gy i hi
  · intro i hi; rw [ht _ (by omega)]; exact h.gyb i hi
  · intro i hi; rw [hsum, cx, cy, a3 i hi, h.oh i hi, hsum_c (c := τ 5) (c' := τ' 5) (fun j hj => ht _ (by omega)) (fun j hj => ht _ (by omega))]
  · intro i hi; rw [hs _ _ (by omega), ht _ (by omega)]; exact h.tp i hi
  · intro i hi; rw [ht _ (by omega)]; exact h.tpb i hi
  · intro i hi; rw [hs _ _ (by omega), ht _ (by omega)]; exact h.d1 i hi
  · intro i hi; rw [ht _ (by omega)]; exact h.d1b i hi
  · intro i hi; rw [hs _ _ (by omega), ht _ (by omega)]; exact h.d2 i hi
  · intro i hi; rw [ht _ (by omega)]; exact h.d2b i hi
  · intro i hi; rw [hs _ _ (by omega), ht _ (by omega)]; exact h.d3 i hi
  · intro i hi; rw [ht _ (by omega)]; exact h.d3b i hi
  · intro i hi; rw [ht (145 + i) (by omega), ht (151 + i) (by omega)]; exact h.d12 i hi
  · intro i hi; rcases Nat.lt_or_ge i E with z | z
    · rw [ht _ (by omega)]; exact h.h1b i (by omega)
    · obtain rfl : i = E := by omega
      rw [cx]; exact hx
  · intro i hi; rcases Nat.lt_or_ge i E with z | z
    · rw [ht _ (by omega)]; exact h.h2b i (by omega)
    · obtain rfl : i = E := by omega
      rw [cy]; exact hy
  · intro i hi; rcases Nat.lt_or_ge i E with z | z
    · rw [ht (163 + i) (by omega), ht (169 + i) (by omega)]; exact h.h12 i (by omega)
    · obtain rfl : i = E := by omega
      rw [cx, cy]; exact hxy
  · rw [hs _ _ (by omega), ht _ (by omega)]; exact h.dt
  · rw [ht _ (by omega)]; exact h.dtb
  · rw [hs _ _ (by omega), ht _ (by omega)]; exact h.sd
  · rw [ht _ (by omega)]; exact h.sdb
  · rw [hs _ _ (by omega), ht _ (by omega)]; exact h.ct
  · rw [ht _ (by omega)]; exact h.ctb
  · intro i hi; rw [hs _ _ (by omega), ht _ (by omega)]; exact h.kn i hi
  · intro i hi; rw [ht _ (by omega)]; exact h.knb i hi
  · intro i hi; rw [hs _ _ (by omega), ht _ (by omega)]; exact h.kp i hi
  · intro i hi; rw [ht _ (by omega)]; exact h.kpb i hi
  · intro i k hi hk hb; rw [ht _ (by omega)] at hb; exact (h.st i k hi hk hb).cg (fun j _ => hs _ _ (by omega)) (fun a _ => ht _ (by omega))
  · intro i k hi hk; rw [ht (49 + _) (by omega), ht (97 + _) (by omega)]; exact h.lnb i k hi hk
  · intro i k hi hk; rw [ht _ (by omega)]; exact h.agb i k hi hk
theorem PR.adR (h : PR p σ τ W N D E)
    (hs : ∀ o k, (p ≤ o ∧ o ≤ p + 10 ∧ o ≠ p + 1 ∧ ¬ (o = p ∧ (k = 14 ∨ k = 15))) → σ' o k = σ o k)
    (ht : ∀ k, (k < 175 ∧ k ≠ 4 ∧ k ≠ 5) → τ' 5 k = τ 5 k)
    (a1 : σ' p 14 = τ' 5 4) (a2 : 0 ≤ τ' 5 4 ∧ τ' 5 4 ≤ 99) (a3 : σ' p 15 = τ' 5 5) (a4 : 0 ≤ τ' 5 5 ∧ τ' 5 5 ≤ 16) : PR p σ' τ' W N D E := by
  have bW := h.bW
  have bN := h.bN
  have bD := h.bD
  have bE := h.bE
  refine PR.mk (PS.mk ?_ ?_ ?_ ?_ ?_ ?_ ?_ ?_ ?_ ?_ ?_ ?_ ?_ ?_ ?_ ?_ ?_ ?_ ?_ ?_ ?_ ?_ ?_ ?_ ?_ ?_ ?_ ?_ ?_ ?_ ?_ ?_ ?_ ?_ ?_) (PD.mk ?_ ?_ ?_ ?_ ?_ ?_ ?_ ?_ ?_ ?_ ?_ ?_ ?_)
  · exact h.bW
  · exact h.bN
  · exact h.bD
  · exact h.bE
  · rw [hs _ _ (by omega)]; exact h.w
  · rw [ht _ (by omega)]; exact h.w'
  · rw [hs _ _ (by omega)]; exact h.n
  · rw [ht _ (by omega)]; exact h.n'
  · rw [hs _ _ (by omega)]; exact h.d
  · rw [ht _ (by omega)]; exact h.d'
  · rw [hs _ _ (by omega)]; exact h.e
  · rw [ht _ (by omega)]; exact h.e'
  · exact a1
  · exact a2
  · exact a3
  · exact a4
  · rw [hs _ _ (by omega), h.ba]; exact (bsum_c (fun i hi => ht _ (by omega))).symm
  · intro i hi; rw [ht _ (by omega)]; exact h.bab i hi
  · intro i hi; rw [hs _ _ (by omega), ht _ (by omega)]; exact h.gr i hi
  · intro i hi; rw [ht _ (by omega)]; exact h.grb i hi
  · intro i hi; rw [hs _ _ (by omega), ht _ (by omega)]; exact h.gy i hi
  · intro i hi; rw [ht _ (by omega)]; exact h.gyb i hi
  · intro i hi; rw [hs _ _ (by omega), h.oh i hi]; exact (hsum_c (fun j hj => ht _ (by omega)) (fun j hj => ht _ (by omega))).symm
  · intro i hi; rw [hs _ _ (by omega), ht _ (by omega)]; exact h.tp i hi
  · intro i hi; rw [ht _ (by omega)]; exact h.tpb i hi
  · intro i hi; rw [hs _ _ (by omega), ht _ (by omega)]; exact h.d1 i hi
  · intro i hi; rw [ht _ (by omega)]; exact h.d1b i hi
  · intro i hi; rw [hs _ _ (by omega), ht _ (by omega)]; exact h.d2 i hi
  · intro i hi; rw [ht _ (by omega)]; exact h.d2b i hi
  · intro i hi; rw [hs _ _ (by omega), ht _ (by omega)]; exact h.d3 i hi
  · intro i hi; rw [ht _ (by omega)]; exact h.d3b i hi
  · intro i hi; rw [ht (145 + i) (by omega), ht (151 + i) (by omega)]; exact h.d12 i hi
  · intro i hi; rw [ht _ (by omega)]; exact h.h1b i hi
  · intro i hi; rw [ht _ (by omega)]; exact h.h2b i hi
  · intro i hi; rw [ht (163 + i) (by omega), ht (169 + i) (by omega)]; exact h.h12 i hi
  · rw [hs _ _ (by omega), ht _ (by omega)]; exact h.dt
  · rw [ht _ (by omega)]; exact h.dtb
  · rw [hs _ _ (by omega), ht _ (by omega)]; exact h.sd
  · rw [ht _ (by omega)]; exact h.sdb
  · rw [hs _ _ (by omega), ht _ (by omega)]; exact h.ct
  · rw [ht _ (by omega)]; exact h.ctb
  · intro i hi; rw [hs _ _ (by omega), ht _ (by omega)]; exact h.kn i hi
  · intro i hi; rw [ht _ (by omega)]; exact h.knb i hi
  · intro i hi; rw [hs _ _ (by omega), ht _ (by omega)]; exact h.kp i hi
  · intro i hi; rw [ht _ (by omega)]; exact h.kpb i hi
  · intro i k hi hk hb; rw [ht _ (by omega)] at hb; exact (h.st i k hi hk hb).cg (fun j _ => hs _ _ (by omega)) (fun a _ => ht _ (by omega))
  · intro i k hi hk; rw [ht (49 + _) (by omega), ht (97 + _) (by omega)]; exact h.lnb i k hi hk
  · intro i k hi hk; rw [ht _ (by omega)]; exact h.agb i k hi hk
end
