/-! what is done: rules, tempers, trades, dinners -/
def Gba (p : Nat) (σ τ : Sg) (N : Nat) : Prop := (σ p 17 = bsum (τ 5) N) ∧ (∀ i, i < N → τ 5 (31 + i) = 0 ∨ τ 5 (31 + i) = 1)
theorem Gba.mk {p : Nat} {σ τ : Sg} {N : Nat} (ha : σ p 17 = bsum (τ 5) N) (hb : ∀ i, i < N → τ 5 (31 + i) = 0 ∨ τ 5 (31 + i) = 1) : Gba p σ τ N := ⟨ha, hb⟩
theorem Gba.a {p : Nat} {σ τ : Sg} {N : Nat} (h : Gba p σ τ N) : σ p 17 = bsum (τ 5) N := h.1
theorem Gba.b {p : Nat} {σ τ : Sg} {N : Nat} (h : Gba p σ τ N) : ∀ i, i < N → τ 5 (31 + i) = 0 ∨ τ 5 (31 + i) = 1 := h.2
def Gtp (p : Nat) (σ τ : Sg) (N : Nat) : Prop := (∀ i, i < N → σ (p + 5) i = τ 5 (25 + i)) ∧ (∀ i, i < N → 0 ≤ τ 5 (25 + i) ∧ τ 5 (25 + i) ≤ 999)
theorem Gtp.mk {p : Nat} {σ τ : Sg} {N : Nat} (ha : ∀ i, i < N → σ (p + 5) i = τ 5 (25 + i)) (hb : ∀ i, i < N → 0 ≤ τ 5 (25 + i) ∧ τ 5 (25 + i) ≤ 999) : Gtp p σ τ N := ⟨ha, hb⟩
theorem Gtp.a {p : Nat} {σ τ : Sg} {N : Nat} (h : Gtp p σ τ N) : ∀ i, i < N → σ (p + 5) i = τ 5 (25 + i) := h.1
theorem Gtp.b {p : Nat} {σ τ : Sg} {N : Nat} (h : Gtp p σ τ N) : ∀ i, i < N → 0 ≤ τ 5 (25 + i) ∧ τ 5 (25 + i) ≤ 999 := h.2
def Gdn (p : Nat) (σ τ : Sg) (N D : Nat) : Prop := (D ≤ 6) ∧ (σ p 12 = D) ∧ (τ 5 2 = D) ∧ (∀ d, d < D → σ (p + 10) (3 * d) = τ 5 (145 + d)) ∧ (∀ d, d < D → 0 ≤ τ 5 (145 + d) ∧ τ 5 (145 + d) < N) ∧ (∀ d, d < D → σ (p + 10) (3 * d + 1) = τ 5 (151 + d)) ∧ (∀ d, d < D → 0 ≤ τ 5 (151 + d) ∧ τ 5 (151 + d) < N) ∧ (∀ d, d < D → σ (p + 10) (3 * d + 2) = τ 5 (157 + d)) ∧ (∀ d, d < D → 1 ≤ τ 5 (157 + d) ∧ τ 5 (157 + d) ≤ 30) ∧ (∀ d, d < D → τ 5 (145 + d) ≠ τ 5 (151 + d))
theorem Gdn.mk {p : Nat} {σ τ : Sg} {N D : Nat} (hbD : D ≤ 6) (hd : σ p 12 = D) (hd' : τ 5 2 = D) (hd1 : ∀ d, d < D → σ (p + 10) (3 * d) = τ 5 (145 + d)) (hd1b : ∀ d, d < D → 0 ≤ τ 5 (145 + d) ∧ τ 5 (145 + d) < N) (hd2 : ∀ d, d < D → σ (p + 10) (3 * d + 1) = τ 5 (151 + d)) (hd2b : ∀ d, d < D → 0 ≤ τ 5 (151 + d) ∧ τ 5 (151 + d) < N) (hd3 : ∀ d, d < D → σ (p + 10) (3 * d + 2) = τ 5 (157 + d)) (hd3b : ∀ d, d < D → 1 ≤ τ 5 (157 + d) ∧ τ 5 (157 + d) ≤ 30) (hd12 : ∀ d, d < D → τ 5 (145 + d) ≠ τ 5 (151 + d)) : Gdn p σ τ N D := ⟨hbD, hd, hd', hd1, hd1b, hd2, hd2b, hd3, hd3b, hd12⟩
theorem Gdn.bD {p : Nat} {σ τ : Sg} {N D : Nat} (h : Gdn p σ τ N D) : D ≤ 6 := h.1
theorem Gdn.d {p : Nat} {σ τ : Sg} {N D : Nat} (h : Gdn p σ τ N D) : σ p 12 = D := h.2.1
theorem Gdn.d' {p : Nat} {σ τ : Sg} {N D : Nat} (h : Gdn p σ τ N D) : τ 5 2 = D := h.2.2.1
theorem Gdn.d1 {p : Nat} {σ τ : Sg} {N D : Nat} (h : Gdn p σ τ N D) : ∀ d, d < D → σ (p + 10) (3 * d) = τ 5 (145 + d) := h.2.2.2.1
theorem Gdn.d1b {p : Nat} {σ τ : Sg} {N D : Nat} (h : Gdn p σ τ N D) : ∀ d, d < D → 0 ≤ τ 5 (145 + d) ∧ τ 5 (145 + d) < N := h.2.2.2.2.1
theorem Gdn.d2 {p : Nat} {σ τ : Sg} {N D : Nat} (h : Gdn p σ τ N D) : ∀ d, d < D → σ (p + 10) (3 * d + 1) = τ 5 (151 + d) := h.2.2.2.2.2.1
theorem Gdn.d2b {p : Nat} {σ τ : Sg} {N D : Nat} (h : Gdn p σ τ N D) : ∀ d, d < D → 0 ≤ τ 5 (151 + d) ∧ τ 5 (151 + d) < N := h.2.2.2.2.2.2.1
theorem Gdn.d3 {p : Nat} {σ τ : Sg} {N D : Nat} (h : Gdn p σ τ N D) : ∀ d, d < D → σ (p + 10) (3 * d + 2) = τ 5 (157 + d) := h.2.2.2.2.2.2.2.1
theorem Gdn.d3b {p : Nat} {σ τ : Sg} {N D : Nat} (h : Gdn p σ τ N D) : ∀ d, d < D → 1 ≤ τ 5 (157 + d) ∧ τ 5 (157 + d) ≤ 30 := h.2.2.2.2.2.2.2.2.1
theorem Gdn.d12 {p : Nat} {σ τ : Sg} {N D : Nat} (h : Gdn p σ τ N D) : ∀ d, d < D → τ 5 (145 + d) ≠ τ 5 (151 + d) := h.2.2.2.2.2.2.2.2.2
section
variable {p : Nat} {σ τ σ' τ' : Sg} {W N D E D' : Nat}
theorem PS.gba (h : PS p σ τ W N D E) : Gba p σ τ N := Gba.mk h.ba h.bab
theorem PS.gtp (h : PS p σ τ W N D E) : Gtp p σ τ N := Gtp.mk h.tp h.tpb
theorem PS.gdn (h : PS p σ τ W N D E) : Gdn p σ τ N D := Gdn.mk h.bD h.d h.d' h.d1 h.d1b h.d2 h.d2b h.d3 h.d3b h.d12
theorem Gba.cg (h : Gba p σ τ N) (h1 : σ' p 17 = σ p 17) (h2 : ∀ i, i < N → τ' 5 (31 + i) = τ 5 (31 + i)) : Gba p σ' τ' N :=
  Gba.mk (by rw [h1, h.a]; exact (bsum_c h2).symm) (fun i hi => by rw [h2 i hi]; exact h.b i hi)
theorem Gtp.cg (h : Gtp p σ τ N) (h1 : ∀ i, i < N → σ' (p + 5) i = σ (p + 5) i) (h2 : ∀ i, i < N → τ' 5 (25 + i) = τ 5 (25 + i)) : Gtp p σ' τ' N :=
  Gtp.mk (fun i hi => by rw [h1 i hi, h2 i hi]; exact h.a i hi) (fun i hi => by rw [h2 i hi]; exact h.b i hi)
theorem Gdn.cg (h : Gdn p σ τ N D) (h1 : σ' p 12 = σ p 12) (h2 : τ' 5 2 = τ 5 2) (h3 : ∀ k, σ' (p + 10) k = σ (p + 10) k) (h4 : ∀ k, 145 ≤ k → k < 163 → τ' 5 k = τ 5 k) : Gdn p σ' τ' N D := by
  have bD := h.bD
  refine Gdn.mk h.bD ?_ ?_ ?_ ?_ ?_ ?_ ?_ ?_ ?_
  · rw [h1]; exact h.d
  · rw [h2]; exact h.d'
  · intro d hd; rw [h3, h4 _ (by omega) (by omega)]; exact h.d1 d hd
  · intro d hd; rw [h4 _ (by omega) (by omega)]; exact h.d1b d hd
  · intro d hd; rw [h3, h4 _ (by omega) (by omega)]; exact h.d2 d hd
  · intro d hd; rw [h4 _ (by omega) (by omega)]; exact h.d2b d hd
  · intro d hd; rw [h3, h4 _ (by omega) (by omega)]; exact h.d3 d hd
  · intro d hd; rw [h4 _ (by omega) (by omega)]; exact h.d3b d hd
  · intro d hd; rw [h4 (145 + d) (by omega) (by omega), h4 (151 + d) (by omega) (by omega)]; exact h.d12 d hd
theorem PS.g (h : PS p σ τ W N D E) (h0 : ∀ k, k = 10 ∨ k = 11 ∨ k = 13 → σ' p k = σ p k) (hk : ∀ j k, 2 ≤ j → j ≤ 4 → σ' (p + j) k = σ (p + j) k)
    (ht : ∀ k, (k < 2 ∨ k = 3 ∨ (9 ≤ k ∧ k < 25) ∨ (163 ≤ k ∧ k < 175)) → τ' 5 k = τ 5 k) (hd : σ' p 14 = τ' 5 4) (hdb : 0 ≤ τ' 5 4 ∧ τ' 5 4 ≤ 99) (od : σ' p 15 = τ' 5 5) (odb : 0 ≤ τ' 5 5 ∧ τ' 5 5 ≤ 16)
    (gb : Gba p σ' τ' N) (gt : Gtp p σ' τ' N) (gd : Gdn p σ' τ' N D') : PS p σ' τ' W N D' E := by
  have bW := h.bW
  have bN := h.bN
  have bE := h.bE
  refine PS.mk h.bW h.bN gd.bD h.bE ?_ ?_ ?_ ?_ gd.d gd.d' ?_ ?_ hd hdb od odb gb.a gb.b ?_ ?_ ?_ ?_ ?_ gt.a gt.b gd.d1 gd.d1b gd.d2 gd.d2b gd.d3 gd.d3b gd.d12 ?_ ?_ ?_
  · rw [h0 _ (by omega)]; exact h.w
  · rw [ht _ (by omega)]; exact h.w'
  · rw [h0 _ (by omega)]; exact h.n
  · rw [ht _ (by omega)]; exact h.n'
  · rw [h0 _ (by omega)]; exact h.e
  · rw [ht _ (by omega)]; exact h.e'
  · intro i hi; rw [hk _ _ (by omega) (by omega), ht _ (by omega)]; exact h.gr i hi
  · intro i hi; rw [ht _ (by omega)]; exact h.grb i hi
  · intro i hi; rw [hk _ _ (by omega) (by omega), ht _ (by omega)]; exact h.gy i hi
  · intro i hi; rw [ht _ (by omega)]; exact h.gyb i hi
  · intro i hi; rw [hk _ _ (by omega) (by omega), h.oh i hi]
    exact (hsum_c (fun j hj => ht _ (by omega)) (fun j hj => ht _ (by omega))).symm
  · intro i hi; rw [ht _ (by omega)]; exact h.h1b i hi
  · intro i hi; rw [ht _ (by omega)]; exact h.h2b i hi
  · intro i hi; rw [ht (163 + i) (by omega), ht (169 + i) (by omega)]; exact h.h12 i hi
theorem PR.sTp (h : PR p σ τ W N D E) {i : Nat} (hi : i < N) {x : Int} (h0 : 0 ≤ x) (h1 : x ≤ 999) : PR p (up_s σ (p + 5) i x) (up_s τ 5 (25 + i) x) W N D E := by
  have bN := h.bN
  have s := h.toPS
  refine PR.mk (s.g (fun k _ => up_o (by omega)) (fun j k _ _ => up_o (by omega)) (fun k _ => up_k (by omega)) ?_ ?_ ?_ ?_ ?_ ?_ ?_) (h.toPD.cg h.bW bN (fun k _ => up_o (by omega)) (fun j k _ _ => up_o (by omega)) (fun k _ _ _ => up_k (by omega)))
  · rw [up_o (by omega), up_k (by omega)]; exact s.hd
  · rw [up_k (by omega)]; exact s.hdb
  · rw [up_o (by omega), up_k (by omega)]; exact s.od
  · rw [up_k (by omega)]; exact s.odb
  · exact s.gba.cg (up_o (by omega)) (fun i hi => up_k (by omega))
  · refine Gtp.mk (fun j hj => ?_) (fun j hj => ?_)
    · by_cases e : j = i
      · rw [e, up_e, up_e]
      · rw [up_k (by omega), up_k (by omega)]; exact h.tp j hj
    · by_cases e : j = i
      · rw [e, up_e]; exact ⟨h0, h1⟩
      · rw [up_k (by omega)]; exact h.tpb j hj
  · exact s.gdn.cg (up_o (by omega)) (up_k (by omega)) (fun k => up_o (by omega)) (fun k _ _ => up_k (by omega))
theorem PR.sHd (h : PR p σ τ W N D E) {x : Int} (h0 : 0 ≤ x) (h1 : x ≤ 99) : PR p (up_s σ p 14 x) (up_s τ 5 4 x) W N D E := by
  have bN := h.bN
  have s := h.toPS
  refine PR.mk (s.g (fun k _ => up_k (by omega)) (fun j k _ _ => up_o (by omega)) (fun k _ => up_k (by omega)) ?_ ?_ ?_ ?_ ?_ ?_ ?_) (h.toPD.cg h.bW bN (fun k _ => up_k (by omega)) (fun j k _ _ => up_o (by omega)) (fun k _ _ _ => up_k (by omega)))
  · rw [up_e, up_e]
  · rw [up_e]; exact ⟨h0, h1⟩
  · rw [up_k (by omega), up_k (by omega)]; exact s.od
  · rw [up_k (by omega)]; exact s.odb
  · exact s.gba.cg (up_k (by omega)) (fun i hi => up_k (by omega))
  · exact s.gtp.cg (fun i hi => up_o (by omega)) (fun i hi => up_k (by omega))
  · exact s.gdn.cg (up_k (by omega)) (up_k (by omega)) (fun k => up_o (by omega)) (fun k _ _ => up_k (by omega))
theorem PR.sOd (h : PR p σ τ W N D E) {x : Int} (h0 : 0 ≤ x) (h1 : x ≤ 16) : PR p (up_s σ p 15 x) (up_s τ 5 5 x) W N D E := by
  have bN := h.bN
  have s := h.toPS
  refine PR.mk (s.g (fun k _ => up_k (by omega)) (fun j k _ _ => up_o (by omega)) (fun k _ => up_k (by omega)) ?_ ?_ ?_ ?_ ?_ ?_ ?_) (h.toPD.cg h.bW bN (fun k _ => up_k (by omega)) (fun j k _ _ => up_o (by omega)) (fun k _ _ _ => up_k (by omega)))
  · rw [up_k (by omega), up_k (by omega)]; exact s.hd
  · rw [up_k (by omega)]; exact s.hdb
  · rw [up_e, up_e]
  · rw [up_e]; exact ⟨h0, h1⟩
  · exact s.gba.cg (up_k (by omega)) (fun i hi => up_k (by omega))
  · exact s.gtp.cg (fun i hi => up_o (by omega)) (fun i hi => up_k (by omega))
  · exact s.gdn.cg (up_k (by omega)) (up_k (by omega)) (fun k => up_o (by omega)) (fun k _ _ => up_k (by omega))
theorem bsum_f {c c' : Nat → Int} {i : Nat} (hN : N ≤ 6) (hi : i < N) (h1 : ∀ j, j ≠ i → c' (31 + j) = c (31 + j)) (h2 : c' (31 + i) = 1 ↔ ¬ c (31 + i) = 1) : bsum c' N = xo32 (bsum c N) (sl32 1 i) := by
  rw [bsum_o, bsum_o]
  obtain ⟨m, a1, a2, a3⟩ := orS_n (fun i => decide (c (31 + i) = 1)) N (by omega)
  obtain ⟨m', b1, b2, b3⟩ := orS_n (fun i => decide (c' (31 + i) = 1)) N (by omega)
  have e2 : 2 ^ N ≤ 2 ^ 6 := Nat.pow_le_pow_right (by omega) (by omega)
  have e3 : 2 ^ i < 2 ^ N := Nat.pow_lt_pow_right (by omega) hi
  rw [a1, b1, sl_1 (by omega), xo_n (by omega) (by omega)]
  congr 1
  apply Nat.eq_of_testBit_eq
  intro j
  rw [Nat.testBit_xor, a3, b3, Nat.testBit_two_pow]
  by_cases e : i = j
  · subst e
    by_cases q : c (31 + i) = 1
    · have : ¬ c' (31 + i) = 1 := fun g => h2.mp g q
      simp [hi, q, this]
    · simp [hi, q, h2.mpr q]
  · simp [e, h1 j (fun q => e q.symm)]
theorem PR.sBa (h : PR p σ τ W N D E) {i : Nat} (hi : i < N) {x : Int} (h0 : x = 0 ∨ x = 1) (h1 : x ≠ τ 5 (31 + i)) : PR p (up_s σ p 17 (xo32 (σ p 17) (sl32 1 i))) (up_s τ 5 (31 + i) x) W N D E := by
  have bN := h.bN
  have s := h.toPS
  have q := h.bab i hi
  refine PR.mk (s.g (fun k _ => up_k (by omega)) (fun j k _ _ => up_o (by omega)) (fun k _ => up_k (by omega)) ?_ ?_ ?_ ?_ ?_ ?_ ?_) (h.toPD.cg h.bW bN (fun k _ => up_k (by omega)) (fun j k _ _ => up_o (by omega)) (fun k _ _ _ => up_k (by omega)))
  · rw [up_k (by omega), up_k (by omega)]; exact s.hd
  · rw [up_k (by omega)]; exact s.hdb
  · rw [up_k (by omega), up_k (by omega)]; exact s.od
  · rw [up_k (by omega)]; exact s.odb
  · refine Gba.mk ?_ (fun j hj => ?_)
    · rw [up_e, h.ba]
      exact (bsum_f bN hi (fun j hj => up_k (by omega)) (by rw [up_e]; omega)).symm
    · by_cases e : j = i
      · rw [e, up_e]; exact h0
      · rw [up_k (by omega)]; exact h.bab j hj
  · exact s.gtp.cg (fun i hi => up_o (by omega)) (fun i hi => up_k (by omega))
  · exact s.gdn.cg (up_k (by omega)) (up_k (by omega)) (fun k => up_o (by omega)) (fun k _ _ => up_k (by omega))
theorem PR.sD (h : PR p σ τ W N (D + 1) E) : PR p (up_s σ p 12 (D : Int)) (up_s τ 5 2 (D : Int)) W N D E := by
  have bN := h.bN
  have s := h.toPS
  have bD := s.bD
  refine PR.mk (s.g (fun k _ => up_k (by omega)) (fun j k _ _ => up_o (by omega)) (fun k _ => up_k (by omega)) ?_ ?_ ?_ ?_ ?_ ?_ ?_) (h.toPD.cg h.bW bN (fun k _ => up_k (by omega)) (fun j k _ _ => up_o (by omega)) (fun k _ _ _ => up_k (by omega)))
  · rw [up_k (by omega), up_k (by omega)]; exact s.hd
  · rw [up_k (by omega)]; exact s.hdb
  · rw [up_k (by omega), up_k (by omega)]; exact s.od
  · rw [up_k (by omega)]; exact s.odb
  · exact s.gba.cg (up_k (by omega)) (fun i hi => up_k (by omega))
  · exact s.gtp.cg (fun i hi => up_o (by omega)) (fun i hi => up_k (by omega))
  · refine Gdn.mk (by omega) up_e up_e ?_ ?_ ?_ ?_ ?_ ?_ ?_
    · intro d hd; rw [up_o (by omega), up_k (by omega)]; exact h.d1 d (by omega)
    · intro d hd; rw [up_k (by omega)]; exact h.d1b d (by omega)
    · intro d hd; rw [up_o (by omega), up_k (by omega)]; exact h.d2 d (by omega)
    · intro d hd; rw [up_k (by omega)]; exact h.d2b d (by omega)
    · intro d hd; rw [up_o (by omega), up_k (by omega)]; exact h.d3 d (by omega)
    · intro d hd; rw [up_k (by omega)]; exact h.d3b d (by omega)
    · intro d hd; rw [up_k (by omega), up_k (by omega)]; exact h.d12 d (by omega)
def invH (σ : Sg) (p D : Nat) (a b e : Int) : Sg := up_s (up_s (up_s (up_s σ (p + 10) (3 * D) a) (p + 10) (3 * D + 1) b) (p + 10) (3 * D + 2) e) p 12 (D + 1 : Nat)
def invM (τ : Sg) (D : Nat) (a b e : Int) : Sg := up_s (up_s (up_s (up_s τ 5 (145 + D) a) 5 (151 + D) b) 5 (157 + D) e) 5 2 (D + 1 : Nat)
theorem PR.sI (h : PR p σ τ W N D E) (hD : D < 6) {a b : Nat} {e : Int} (ha : a < N) (hb : b < N) (hab : a ≠ b) (he : 1 ≤ e ∧ e ≤ 30) : PR p (invH σ p D a b e) (invM τ D a b e) W N (D + 1) E := by
  have bN := h.bN
  have s := h.toPS
  have fs : ∀ o k, (o ≠ p ∨ k ≠ 12) → (o ≠ p + 10 ∨ k < 3 * D ∨ 3 * D + 2 < k) → invH σ p D a b e o k = σ o k := fun o k q1 q2 => by
    unfold invH; rw [up_v, if_neg (by omega), up_v, if_neg (by omega), up_v, if_neg (by omega), up_v, if_neg (by omega)]
  have ft : ∀ k, k ≠ 2 → k ≠ 145 + D → k ≠ 151 + D → k ≠ 157 + D → invM τ D a b e 5 k = τ 5 k := fun k q1 q2 q3 q4 => by
    unfold invM; rw [up_k q1, up_k q4, up_k q3, up_k q2]
  have x1 : invM τ D a b e 5 (145 + D) = a := by unfold invM; rw [up_k (by omega), up_k (by omega), up_k (by omega), up_e]
  have x2 : invM τ D a b e 5 (151 + D) = b := by unfold invM; rw [up_k (by omega), up_k (by omega), up_e]
  have x3 : invM τ D a b e 5 (157 + D) = e := by unfold invM; rw [up_k (by omega), up_e]
  have y1 : invH σ p D a b e (p + 10) (3 * D) = a := by unfold invH; rw [up_o (by omega), up_k (by omega), up_k (by omega), up_e]
  have y2 : invH σ p D a b e (p + 10) (3 * D + 1) = b := by unfold invH; rw [up_o (by omega), up_k (by omega), up_e]
  have y3 : invH σ p D a b e (p + 10) (3 * D + 2) = e := by unfold invH; rw [up_o (by omega), up_e]
  refine PR.mk (s.g (fun k _ => fs _ _ (by omega) (by omega)) (fun j k _ _ => fs _ _ (by omega) (by omega)) (fun k _ => ft _ (by omega) (by omega) (by omega) (by omega)) ?_ ?_ ?_ ?_ ?_ ?_ ?_) (h.toPD.cg h.bW bN (fun k _ => fs _ _ (by omega) (by omega)) (fun j k _ _ => fs _ _ (by omega) (by omega)) (fun k _ _ _ => ft _ (by omega) (by omega) (by omega) (by omega)))
  · rw [fs _ _ (by omega) (by omega), ft _ (by omega) (by omega) (by omega) (by omega)]; exact s.hd
  · rw [ft _ (by omega) (by omega) (by omega) (by omega)]; exact s.hdb
  · rw [fs _ _ (by omega) (by omega), ft _ (by omega) (by omega) (by omega) (by omega)]; exact s.od
  · rw [ft _ (by omega) (by omega) (by omega) (by omega)]; exact s.odb
  · exact s.gba.cg (fs _ _ (by omega) (by omega)) (fun i hi => ft _ (by omega) (by omega) (by omega) (by omega))
  · exact s.gtp.cg (fun i hi => fs _ _ (by omega) (by omega)) (fun i hi => ft _ (by omega) (by omega) (by omega) (by omega))
  · refine Gdn.mk (by omega) ?_ ?_ ?_ ?_ ?_ ?_ ?_ ?_ ?_
    · unfold invH; rw [up_e]
    · unfold invM; rw [up_e]
    · intro d hd; by_cases q : d = D
      · rw [q, y1, x1]
      · rw [fs _ _ (by omega) (by omega), ft _ (by omega) (by omega) (by omega) (by omega)]; exact h.d1 d (by omega)
    · intro d hd; by_cases q : d = D
      · rw [q, x1]; omega
      · rw [ft _ (by omega) (by omega) (by omega) (by omega)]; exact h.d1b d (by omega)
    · intro d hd; by_cases q : d = D
      · rw [q, y2, x2]
      · rw [fs _ _ (by omega) (by omega), ft _ (by omega) (by omega) (by omega) (by omega)]; exact h.d2 d (by omega)
    · intro d hd; by_cases q : d = D
      · rw [q, x2]; omega
      · rw [ft _ (by omega) (by omega) (by omega) (by omega)]; exact h.d2b d (by omega)
    · intro d hd; by_cases q : d = D
      · rw [q, y3, x3]
      · rw [fs _ _ (by omega) (by omega), ft _ (by omega) (by omega) (by omega) (by omega)]; exact h.d3 d (by omega)
    · intro d hd; by_cases q : d = D
      · rw [q, x3]; exact he
      · rw [ft _ (by omega) (by omega) (by omega) (by omega)]; exact h.d3b d (by omega)
    · intro d hd; by_cases q : d = D
      · rw [q, x1, x2]; omega
      · rw [ft _ (by omega) (by omega) (by omega) (by omega), ft _ (by omega) (by omega) (by omega) (by omega)]; exact h.d12 d (by omega)
end
section
variable {σ τ σ' τ' : Sg} {W N D E : Nat}
theorem DT.up {k : Nat} {x : Int} (h : DT τ) (hk : k ≠ 6) : DT (up_s τ 5 k x) := by unfold DT at h ⊢; rw [up_k (fun q => hk q.symm)]; exact h
theorem k_train (h : RR σ τ W N D E) (a b : Int) : Ag (H_train a b σ) (M_train a b τ) := by
  rw [M_train]; refine ag_go h (fun τ h hz => ?_)
  rw [H_train]
  have hp := h.pr
  have bN := hp.bN
  rcases pc a N with ⟨i, rfl, hi⟩ | ha
  · rw [isP_1 hp hi, isPm_1 hp hi, bd_s, bd_s, if_neg i10, if_neg i10]
    by_cases hb : 0 ≤ b ∧ b ≤ 999
    · rw [wi_1 hb, in_1 hb, bd_s, bd_s, if_neg i10, if_neg i10, wr_k (by omega) (by omega), w32_i (by omega) (by omega), wr_k (by omega) (by omega), Int.toNat_natCast, tn25]
      exact ag_yes (h.mv (hp.sTp hi hb.1 hb.2) (h.dt.up (by omega)) (FH.up (p := 8) (by omega) (by omega) (by omega)) (FM.up (by omega))) (by rw [up_o (by omega)]; exact hz)
    · rw [wi_0 hb, in_0 hb, bd_s, bd_s, if_pos rfl, if_pos rfl]; exact ag_no h 5
  · rw [isP_0 hp ha, isPm_0 hp ha, bd_s, bd_s, if_pos rfl, if_pos rfl]; exact ag_no h 2
theorem k_trade (h : RR σ τ W N D E) (a b : Int) (hb : b = 0 ∨ b = 1) : Ag (H_trade a b σ) (M_trade a b τ) := by
  rw [M_trade]; refine ag_go h (fun τ h hz => ?_)
  rw [H_trade]
  have hp := h.pr
  have bN := hp.bN
  rcases pc a N with ⟨i, rfl, hi⟩ | ha
  · have q := hp.bab i hi
    have e1 : (if τ 5 (31 + i) = 1 then M_trade_J42 i b 1 τ else M_trade_J42 i b 0 τ) = M_trade_J42 i b (τ 5 (31 + i)) τ := by
      rcases q with e | e
      · rw [e, if_neg (by omega)]
      · rw [e, if_pos rfl]
    rw [isP_1 hp hi, isPm_1 hp hi, bd_s, bd_s, if_neg i10, if_neg i10, barb_h hp hi, bd_s, w32_i (by omega) (by omega), rd_k (by omega) (by omega), tn31, e1, M_trade_J42]
    by_cases e : τ 5 (31 + i) = b
    · rw [if_pos e, if_pos e]; exact ag_no h 9
    · rw [if_neg e, if_neg e, nm_k, w32_i (by omega) (by omega), wr_k (by omega) (by omega), wr_k (by omega) (by omega), tn31]
      have e2 : (if b = 0 then some (1, up_s τ 5 (31 + i) 0) else some (1, up_s τ 5 (31 + i) 1)) = (some (1, up_s τ 5 (31 + i) b) : Rs) := by
        rcases hb with g | g
        · rw [g, if_pos rfl]
        · rw [g, if_neg i10]
      rw [e2]
      exact ag_yes (h.mv (hp.sBa hi hb (fun g => e g.symm)) (h.dt.up (by omega)) (FH.up (p := 8) (by omega) (by omega) (by omega)) (FM.up (by omega))) (by rw [up_o (by omega)]; exact hz)
  · rw [isP_0 hp ha, isPm_0 hp ha, bd_s, bd_s, if_pos rfl, if_pos rfl]; exact ag_no h 2
theorem k_rule (h : RR σ τ W N D E) (a b : Int) : Ag (H_rule a b σ) (M_rule a b τ) := by
  rw [M_rule]; refine ag_go h (fun τ h hz => ?_)
  rw [H_rule]
  have hp := h.pr
  by_cases e4 : a = 4
  · subst e4
    rw [if_pos rfl, in_1 (by omega), bd_s, if_neg i10, if_pos rfl, M_rule_J41]
    by_cases hb : 0 ≤ b ∧ b ≤ 99
    · rw [wi_1 hb, in_1 hb, bd_s, bd_s, if_neg i10, if_neg i10, nm_k, wr_k (by omega) (by omega), show Int.toNat 4 = 4 from rfl]
      exact ag_yes (h.mv (hp.sHd hb.1 hb.2) (h.dt.up (by omega)) (FH.up (p := 8) (by omega) (by omega) (by omega)) (FM.up (by omega))) (by rw [up_o (by omega)]; exact hz)
    · rw [wi_0 hb, in_0 hb, bd_s, bd_s, if_pos rfl, if_pos rfl, H_rule_J28, if_neg (by omega)]; exact ag_no h 5
  · rw [if_neg e4, H_rule_J28]
    by_cases e5 : a = 5
    · subst e5
      rw [if_pos rfl, in_1 (x := 5) (by omega), bd_s, if_neg i10, if_neg (by omega), M_rule_J41]
      by_cases hb : 0 ≤ b ∧ b ≤ 16
      · rw [wi_1 hb, in_1 hb, bd_s, bd_s, if_neg i10, if_neg i10, nm_k, wr_k (by omega) (by omega), show Int.toNat 5 = 5 from rfl]
        exact ag_yes (h.mv (hp.sOd hb.1 hb.2) (h.dt.up (by omega)) (FH.up (p := 8) (by omega) (by omega) (by omega)) (FM.up (by omega))) (by rw [up_o (by omega)]; exact hz)
      · rw [wi_0 hb, in_0 hb, bd_s, bd_s, if_pos rfl, if_pos rfl]; exact ag_no h 5
    · rw [if_neg e5, in_0 (by omega), bd_s, if_pos rfl]; exact ag_no h 5
theorem k_cancel (h : RR σ τ W N D E) : Ag (H_cancel σ) (M_cancel τ) := by
  rw [M_cancel]; refine ag_go h (fun τ h hz => ?_)
  have hp := h.pr
  have bD := hp.bD
  rw [H_cancel, rd_k (by omega) (by omega), show Int.toNat 2 = 2 from rfl, hp.d, hp.d']
  cases D with
  | zero => rw [if_neg (by omega), if_pos (by omega)]; exact ag_fail h 8
  | succ d =>
    rw [if_pos (by omega), if_neg (by omega), nm_k, up_e, rd_k (by omega) (by omega), wr_k (by omega) (by omega), rd_k (by omega) (by omega), up_e, w32_i (by omega) (by omega), show ((d + 1 : Nat) : Int) - 1 = d by omega]
    exact ag_give (h.mv hp.sD (h.dt.up (by omega)) (FH.up (p := 8) (by omega) (by omega) (by omega)) (FM.up (by omega))) (by rw [up_o (by omega)]; exact hz) _
theorem k_invite (h : RR σ τ W N D E) (a b c : Int) : Ag (H_invite a b c σ) (M_invite a b c τ) := by
  rw [M_invite]; refine ag_go h (fun τ h hz => ?_)
  rw [H_invite]
  have hp := h.pr
  have bD := hp.bD
  rcases pc a N with ⟨i, rfl, hi⟩ | ha
  · rw [isP_1 hp hi, isPm_1 hp hi, bd_s, bd_s, if_neg i10, if_neg i10]
    rcases pc b N with ⟨j, rfl, hj⟩ | hb
    · rw [isP_1 hp hj, isPm_1 hp hj, bd_s, bd_s, if_neg i10, if_neg i10]
      by_cases hc : 1 ≤ c ∧ c ≤ 30
      · rw [wi_1 hc, in_1 hc, bd_s, bd_s, if_neg i10, if_neg i10]
        by_cases e : (i : Int) = j
        · rw [if_pos e, if_pos e]; exact ag_fail h 5
        · rw [if_neg e, if_neg e, rd_k (by omega) (by omega), show Int.toNat 2 = 2 from rfl, hp.d, hp.d']
          by_cases e6 : D < 6
          · rw [if_pos (by omega), if_neg (by omega), Pr_addDinner, hp.d, if_pos (by omega), w32_i (x := (D : Int) * 3) (by omega) (by omega), wr_k (by omega) (by omega), up_o (by omega), hp.d, w32_i (x := (D : Int) * 3) (by omega) (by omega), w32_i (x := (D : Int) * 3 + 1) (by omega) (by omega), wr_k (by omega) (by omega), up_o (by omega), up_o (by omega), hp.d, w32_i (x := (D : Int) * 3) (by omega) (by omega), w32_i (x := (D : Int) * 3 + 2) (by omega) (by omega), wr_k (by omega) (by omega), nm_k, up_o (by omega), up_o (by omega), up_o (by omega), hp.d, w32_i (x := (D : Int) + 1) (by omega) (by omega), bd_s, up_e, w32_i (by omega) (by omega)]
            rw [w32_i (x := 145 + (D : Int)) (by omega) (by omega), w32_i (x := 151 + (D : Int)) (by omega) (by omega), w32_i (x := 157 + (D : Int)) (by omega) (by omega), wr_k (by omega) (by omega), wr_k (by omega) (by omega), wr_k (by omega) (by omega), rd_k (by omega) (by omega), wr_k (by omega) (by omega), tn145, tn151, tn157, up_k (by omega), up_k (by omega), up_k (by omega), hp.d', w32_i (x := (D : Int) + 1) (by omega) (by omega), show Int.toNat ((D : Int) * 3) = 3 * D by omega, show Int.toNat ((D : Int) * 3 + 1) = 3 * D + 1 by omega, show Int.toNat ((D : Int) * 3 + 2) = 3 * D + 2 by omega, show (D : Int) + 1 - 1 = D by omega, suc]
            refine ag_give (h.mv (hp.sI e6 hi hj (by omega) hc) ?_ ?_ ?_) ?_ _
            · unfold invM; exact (((h.dt.up (by omega)).up (by omega)).up (by omega)).up (by omega)
            · unfold invH; exact (((FH.up (p := 8) (by omega) (by omega) (by omega)).tr (FH.up (by omega) (by omega) (by omega))).tr (FH.up (by omega) (by omega) (by omega))).tr (FH.up (by omega) (by omega) (by omega))
            · unfold invM; exact (((FM.up (by omega)).tr (FM.up (by omega))).tr (FM.up (by omega))).tr (FM.up (by omega))
            · unfold invM; rw [up_o (by omega), up_o (by omega), up_o (by omega), up_o (by omega)]; exact hz
          · rw [if_neg (by omega), if_pos (by omega)]; exact ag_fail h 7
      · rw [wi_0 hc, bd_s, if_pos rfl]
        by_cases e : (i : Int) = j
        · rw [if_pos e]; exact ag_fail h 5
        · rw [if_neg e, in_0 hc, bd_s, if_pos rfl]; exact ag_fail h 5
    · rw [isP_0 hp hb, isPm_0 hp hb, bd_s, bd_s, if_pos rfl, if_pos rfl]; exact ag_fail h 2
  · rw [isP_0 hp ha, isPm_0 hp ha, bd_s, bd_s, if_pos rfl, if_pos rfl]; exact ag_fail h 2
end
