/-! marks -/
def CYa (σ0 : Sg) (q p j : Nat) (s : Sg) : Prop := ∀ o k, s o k = if q < o ∧ o < q + j ∧ k < 60 then σ0 (p + (o - q)) k else σ0 o k
def CYf (σ0 : Sg) (q p j : Nat) (s : Sg) : Prop := ∀ o k, s o k = if o = q ∧ 5 ≤ k ∧ k < j then σ0 p k else if q < o ∧ o < q + 6 ∧ k < 60 then σ0 (p + (o - q)) k else σ0 o k
theorem cq_st {σ0 s : Sg} {q p j : Nat} {F : Sg → Rs} {P : Sg → Prop} (hd : p + 5 < q ∨ q + 5 < p) (hj : 1 ≤ j ∧ j ≤ 5) (h : CYa σ0 q p j s)
    (k : ∀ s1, CYa σ0 q p (j + 1) s1 → ∃ σ', F s1 = some (0, σ') ∧ P σ') : ∃ σ', cpw 60 60 0 0 60 (cp_s s (p + j) (q + j) (Int.toNat 0) (Int.toNat 0) (Int.toNat 60)) F = some (0, σ') ∧ P σ' := by
  rw [cpw_k (by omega)]
  refine k _ (fun o x => ?_)
  rw [cp_v, Int.toNat_zero, show Int.toNat 60 = 60 from rfl]
  by_cases e : o = q + j
  · subst e
    by_cases g : x < 60
    · rw [if_pos (by omega), h (p + j), if_neg (by omega), if_pos (by omega), show q + j - q = j by omega]
      congr 1 <;> omega
    · rw [if_neg (by omega), h, if_neg (by omega), if_neg (by omega)]
  · rw [if_neg (by omega), h]
    by_cases g : q < o ∧ o < q + j ∧ x < 60
    · rw [if_pos g, if_pos (by omega)]
    · rw [if_neg g, if_neg (by omega)]
theorem nq_st {σ0 s : Sg} {q p j : Nat} {F : Sg → Rs} {P : Sg → Prop} (hd : p + 5 < q ∨ q + 5 < p) (hj : 5 ≤ j) (h : CYf σ0 q p j s)
    (k : ∀ s1, CYf σ0 q p (j + 1) s1 → ∃ σ', F s1 = some (0, σ') ∧ P σ') : ∃ σ', nm (up_s s q j (s p j)) F = some (0, σ') ∧ P σ' := by
  refine k _ (fun o x => ?_)
  rw [up_v]
  by_cases e : o = q ∧ x = j
  · rw [if_pos e, if_pos (by omega), h, if_neg (by omega), if_neg (by omega), e.2]
  · rw [if_neg e, h]
    by_cases g : o = q ∧ 5 ≤ x ∧ x < j
    · rw [if_pos g, if_pos (by omega)]
    · rw [if_neg g, if_neg (show ¬ (o = q ∧ 5 ≤ x ∧ x < j + 1) by omega)]
theorem zb_k {x : Int} {f : Rs} (h : x = 0 ∨ x = 1) : zb x f = f := if_pos h
theorem copyY {q p : Nat} (hd : p + 5 < q ∨ q + 5 < p) (σ : Sg) (h7 : σ p 7 = 0 ∨ σ p 7 = 1) : ∃ σ', Ye_copyFrom q p σ = some (0, σ') ∧ CYf σ q p 8 σ' := by
  rw [Ye_copyFrom]
  refine cq_st (j := 1) hd (by omega) (fun o k => by rw [if_neg (by omega)]) (fun s1 h1 => ?_)
  refine cq_st (j := 2) hd (by omega) h1 (fun s2 h2 => ?_)
  refine cq_st (j := 3) hd (by omega) h2 (fun s3 h3 => ?_)
  refine cq_st (j := 4) hd (by omega) h3 (fun s4 h4 => ?_)
  refine cq_st (j := 5) hd (by omega) h4 (fun s5 h5 => ?_)
  have g0 : CYf σ q p 5 s5 := fun o k => by rw [if_neg (by omega)]; exact h5 o k
  refine nq_st (j := 5) hd (by omega) g0 (fun t1 g1 => ?_)
  refine nq_st (j := 6) hd (by omega) g1 (fun t2 g2 => ?_)
  have e7 : t2 p 7 = σ p 7 := by rw [g2, if_neg (by omega), if_neg (by omega)]
  rw [zb_k (by rw [e7]; exact h7)]
  refine nq_st (j := 7) hd (by omega) g2 (fun t3 g3 => ?_)
  exact ⟨t3, rfl, g3⟩
/-- a block of the reference copied -/
def cpB (τ : Sg) (a b n m : Nat) : Sg := fun o k => if o = 5 ∧ 447 * b ≤ k ∧ k < 447 * b + n then τ 5 (447 * a + (k - 447 * b)) else if o = 8 ∧ 14 * b ≤ k ∧ k < 14 * b + m then τ 8 (14 * a + (k - 14 * b)) else τ o k
theorem cpB_0 (τ : Sg) (a b : Nat) : cpB τ a b 0 0 = τ := by funext o k; unfold cpB; rw [if_neg (by omega), if_neg (by omega)]
theorem i447 {a v : Nat} (ha : a ≤ 4) (hv : v < 447) : w32 (w32 (447 * (a : Int)) + v) = ((447 * a + v : Nat) : Int) := by
  rw [w32_i (x := 447 * (a : Int)) (by omega) (by omega), w32_i (by omega) (by omega)]; omega
theorem i14 {a v : Nat} (ha : a ≤ 4) (hv : v < 14) : w32 (w32 (14 * (a : Int)) + v) = ((14 * a + v : Nat) : Int) := by
  rw [w32_i (x := 14 * (a : Int)) (by omega) (by omega), w32_i (by omega) (by omega)]; omega
theorem cpB_s1 {τ : Sg} {a b n : Nat} (hab : a ≠ b) (hn : n < 447) : up_s (cpB τ a b n 0) 5 (447 * b + n) (cpB τ a b n 0 5 (447 * a + n)) = cpB τ a b (n + 1) 0 := by
  funext o k; rw [up_v]
  by_cases e : o = 5 ∧ k = 447 * b + n
  · rw [if_pos e]; unfold cpB
    rw [if_neg (by omega), if_neg (by omega), if_pos (by omega), e.2]; congr 1 <;> omega
  · rw [if_neg e]; unfold cpB
    by_cases g : o = 5 ∧ 447 * b ≤ k ∧ k < 447 * b + n
    · rw [if_pos g, if_pos (by omega)]
    · rw [if_neg g, if_neg (show ¬ (o = 5 ∧ 447 * b ≤ k ∧ k < 447 * b + (n + 1)) by omega)]
theorem cpB_s2 {τ : Sg} {a b n : Nat} (hab : a ≠ b) (hn : n < 14) : up_s (cpB τ a b 447 n) 8 (14 * b + n) (cpB τ a b 447 n 8 (14 * a + n)) = cpB τ a b 447 (n + 1) := by
  funext o k; rw [up_v]
  by_cases e : o = 8 ∧ k = 14 * b + n
  · rw [if_pos e]; unfold cpB
    rw [if_neg (by omega), if_neg (by omega), if_neg (by omega), if_pos (by omega), e.2]; congr 1 <;> omega
  · rw [if_neg e]; unfold cpB
    by_cases g0 : o = 5 ∧ 447 * b ≤ k ∧ k < 447 * b + 447
    · rw [if_pos g0, if_pos g0]
    · rw [if_neg g0, if_neg g0]
      by_cases g : o = 8 ∧ 14 * b ≤ k ∧ k < 14 * b + n
      · rw [if_pos g, if_pos (by omega)]
      · rw [if_neg g, if_neg (by omega)]
theorem copy_m {a b : Nat} (ha : a ≤ 4) (hb : b ≤ 4) (hab : a ≠ b) (τ : Sg) : M_copy a b τ = some (0, cpB τ a b 447 14) := by
  rw [M_copy]
  have q1 := loopN (X := fun n k => M_copy_L2 a b (fun x4 s5 => M_copy_L41 a b fu x4 s5) n k (cpB τ a b k 0)) (W := 447) (R := M_copy_L41 a b fu 0 (cpB τ a b 447 0)) ?_ ?_ fu (by unfold fu; omega)
  · have q2 := loopN (X := fun n k => M_copy_L41 a b n k (cpB τ a b 447 k)) (W := 14) (R := some (0, cpB τ a b 447 14)) ?_ ?_ fu (by unfold fu; omega)
    · rw [cpB_0] at q1
      exact q1.trans q2
    · intro k n hk
      show M_copy_L41 a b (n + 1) k _ = _
      rw [M_copy_L41, if_pos (by omega), i14 ha hk, i14 hb hk, rd_k (by omega) (by omega), wr_k (by omega) (by omega), Int.toNat_natCast, Int.toNat_natCast, cpB_s2 hab hk, nm_k, w32_i (by omega) (by omega), suc]
    · intro n
      show M_copy_L41 a b (n + 1) (14 : Nat) _ = _
      rw [M_copy_L41, if_neg (by omega)]
  · intro k n hk
    show M_copy_L2 a b _ (n + 1) k _ = _
    rw [M_copy_L2, if_pos (by omega), i447 ha hk, i447 hb hk, rd_k (by omega) (by omega), wr_k (by omega) (by omega), Int.toNat_natCast, Int.toNat_natCast, cpB_s1 hab hk, nm_k, w32_i (by omega) (by omega), suc]
  · intro n
    show M_copy_L2 a b _ (n + 1) (447 : Nat) _ = _
    rw [M_copy_L2, if_neg (by omega)]
section
variable {σ τ σ' τ' : Sg} {W N D E : Nat}
theorem MK.cgj {j : Nat} (h : MK σ τ j) (hs : ∀ o k, 44 + 17 * j ≤ o → o ≤ 60 + 17 * j → σ' o k = σ o k) (ht : ∀ k, 447 * (j + 1) ≤ k → k < 447 * (j + 2) → τ' 5 k = τ 5 k) (h8 : ∀ k, 14 * (j + 1) ≤ k → k < 14 * (j + 2) → τ' 8 k = τ 8 k) : MK σ' τ' j := by
  obtain ⟨W, N, D, E, h1, h2, h3, h4⟩ := h
  refine ⟨W, N, D, E, ?_, ?_, ?_, ?_⟩
  · exact h1.cg (fun i k _ _ => hs _ _ (by omega) (by omega)) (fun k hk => by rw [blk_5, blk_5]; exact ht _ (by omega) (by omega))
  · unfold DT at h2 ⊢; rw [blk_5] at h2 ⊢; rw [ht _ (by omega) (by omega)]; exact h2
  · exact h3.cg h1.bW h1.bN (fun k hk => hs _ _ (by omega) (by omega)) (fun k hk => by rw [blk_8, blk_8]; exact h8 _ (by omega) (by omega))
  · exact h4.cg (fun k _ _ => hs _ _ (by omega) (by omega)) (fun i k _ _ _ => hs _ _ (by omega) (by omega)) (fun k _ _ => by rw [blk_5, blk_5]; exact ht _ (by omega) (by omega))
theorem CYf.f {q p o k : Nat} (h : CYf σ q p 8 σ') (ho : o < q ∨ q + 5 < o) : σ' o k = σ o k := by rw [h, if_neg (by omega), if_neg (by omega)]
theorem CYf.h {q p k : Nat} (h : CYf σ q p 8 σ') (hk : 5 ≤ k ∧ k < 8) : σ' q k = σ p k := by rw [h, if_pos (by omega)]
theorem CYf.a {q p j k : Nat} (h : CYf σ q p 8 σ') (hj : 1 ≤ j ∧ j ≤ 5) (hk : k < 60) : σ' (q + j) k = σ (p + j) k := by
  rw [h, if_neg (by omega), if_pos (by omega), show q + j - q = j by omega]
theorem YS.b {y : Nat} (h : YS y σ τ W N) : σ y 7 = 0 ∨ σ y 7 = 1 := by
  rcases h with h | h
  · exact .inl h.1
  · exact .inr h.1
theorem blk_0 (τ : Sg) : blk τ 0 = τ := by
  funext o k; unfold blk
  rw [Nat.mul_zero, Nat.zero_add]
  split
  · next e => rw [e]
  · split
    · next e => rw [e]
    · rfl
theorem k_mark (h : RR σ τ W N D E) : Ag (H_mark σ) (M_mark τ) := by
  rw [M_mark]; refine ag_go h (fun τ h hz => ?_)
  obtain ⟨m, m1, m2, m3, m4⟩ := h.rb.ms
  have bW := h.pr.bW
  have bN := h.pr.bN
  rw [H_mark, m2, m3]
  by_cases e : m = 3
  · subst e
    rw [if_neg (by omega), if_pos (by omega)]; exact ag_fail h 7
  · have hm : m < 3 := by omega
    obtain ⟨σ1, a1, a2⟩ := copyP (q := 44 + 17 * m) (p := 8) (by omega) σ
    have b0 : σ1 0 5 = m := by rw [a2.f (by omega)]; exact m2
    have b1 : ∀ o k, (o < 44 + 17 * m ∨ 54 + 17 * m < o) → σ1 o k = σ o k := fun o k q => a2.f (by omega)
    obtain ⟨σ2, c1, c2⟩ := copyY (q := 55 + 17 * m) (p := 30) (by omega) σ1 (by rw [b1 30 7 (by omega)]; exact h.rb.ye.b)
    have d0 : σ2 0 5 = m := by rw [c2.f (by omega)]; exact b0
    have p42 : Ph 42 m = 44 + 17 * m := rfl
    have p43 : Ph 43 m = 55 + 17 * m := rfl
    rw [if_pos (by omega), if_neg (by omega), rd_k (by omega) (by omega), Int.toNat_natCast, p42, a1, bd_s, b0, rd_k (by omega) (by omega), Int.toNat_natCast, p43, c1, bd_s, nm_k, d0, up_e, nm_k, up_e, w32_i (by omega) (by omega), suc]
    rw [show M_copy 0 ((m + 1 : Nat) : Int) (up_s τ 0 24 (m + 1 : Nat)) = _ from copy_m (a := 0) (b := m + 1) (by omega) (by omega) (by omega) _, bd_s]
    have t24 : cpB (up_s τ 0 24 (m + 1 : Nat)) 0 (m + 1) 447 14 0 24 = (m + 1 : Nat) := by unfold cpB; rw [if_neg (by omega), if_neg (by omega), up_e]
    have tf : ∀ o k, (o ≠ 0 ∨ k ≠ 24) → (o ≠ 5 ∨ k < 447 * (m + 1) ∨ 447 * (m + 2) ≤ k) → (o ≠ 8 ∨ k < 14 * (m + 1) ∨ 14 * (m + 2) ≤ k) → cpB (up_s τ 0 24 (m + 1 : Nat)) 0 (m + 1) 447 14 o k = τ o k := fun o k q1 q2 q3 => by
      unfold cpB; rw [if_neg (by omega), if_neg (by omega), up_v, if_neg (by omega)]
    have t5 : ∀ k, k < 447 → cpB (up_s τ 0 24 (m + 1 : Nat)) 0 (m + 1) 447 14 5 (447 * (m + 1) + k) = τ 5 k := fun k hk => by
      unfold cpB; rw [if_pos (by omega), up_v, if_neg (by omega), show 447 * 0 + (447 * (m + 1) + k - 447 * (m + 1)) = k by omega]
    have t8 : ∀ k, k < 14 → cpB (up_s τ 0 24 (m + 1 : Nat)) 0 (m + 1) 447 14 8 (14 * (m + 1) + k) = τ 8 k := fun k hk => by
      unfold cpB; rw [if_neg (by omega), if_pos (by omega), up_v, if_neg (by omega)]; congr 1 <;> omega
    have sf : ∀ o k, (o ≠ 0 ∨ k ≠ 5) → (o < 44 + 17 * m ∨ 60 + 17 * m < o) → up_s σ2 0 5 (m + 1 : Nat) o k = σ o k := fun o k q1 q2 => by
      rw [up_v, if_neg (by omega), c2.f (by omega), b1 o k (by omega)]
    rw [t24]
    have r := h.rb
    have hp' : PR (44 + 17 * m) (up_s σ2 0 5 (m + 1 : Nat)) (blk (cpB (up_s τ 0 24 (m + 1 : Nat)) 0 (m + 1) 447 14) (m + 1)) W N D E :=
      (a2.pr h.pr (τ' := blk (cpB (up_s τ 0 24 (m + 1 : Nat)) 0 (m + 1) 447 14) (m + 1)) (fun k hk => by rw [blk_5]; exact t5 k (by omega))).cg (fun j k _ _ => by rw [up_v, if_neg (by omega), c2.f (by omega)]) (fun _ _ => rfl)
    refine ag_give (W := W) (N := N) (D := D) (E := E) (RR.mk ?_ ?_ (RB.mk ?_ ?_ ?_ ?_ ?_ ?_ ?_ ?_ ?_ ?_ ?_ ?_)) ?_ _
    · exact h.pr.cg (fun j k _ _ => sf _ _ (by omega) (by omega)) (fun k _ => tf _ _ (by omega) (by omega) (by omega))
    · exact h.dt.eq (tf _ _ (by omega) (by omega) (by omega))
    · rw [sf _ _ (by omega) (by omega), tf _ _ (by omega) (by omega) (by omega)]; exact r.tp
    · rw [sf _ _ (by omega) (by omega), tf _ _ (by omega) (by omega) (by omega)]; exact r.bt
    · rw [sf _ _ (by omega) (by omega), tf _ _ (by omega) (by omega) (by omega)]; exact r.fk
    · rw [sf _ _ (by omega) (by omega), tf _ _ (by omega) (by omega) (by omega)]; exact r.fp
    · exact fun t q => (r.tr t q).cg (fun o k _ _ => sf o k (by omega) (by omega)) (fun o k _ _ => tf o k (by omega) (by omega) (by omega))
    · exact r.tz.cg (sf _ _ (by omega) (by omega)) (tf _ _ (by omega) (by omega) (by omega)) (fun k => sf _ _ (by omega) (by omega)) (fun k => tf _ _ (by omega) (by omega) (by omega))
    · exact r.na.cg bW bN (fun k _ => sf _ _ (by omega) (by omega)) (fun k _ => tf _ _ (by omega) (by omega) (by omega))
    · exact r.ye.cg (fun k _ _ => sf _ _ (by omega) (by omega)) (fun j k _ _ _ => sf _ _ (by omega) (by omega)) (fun k _ _ => tf _ _ (by omega) (by omega) (by omega))
    · exact r.lv.cg (fun k _ => sf _ _ (by omega) (by omega)) (tf _ _ (by omega) (by omega) (by omega)) (fun k _ => tf _ _ (by omega) (by omega) (by omega))
    · refine ⟨m + 1, by omega, up_e, t24, fun j hj => ?_⟩
      by_cases z : j = m
      · subst z
        refine ⟨W, N, D, E, hp', ?_, ?_, ?_⟩
        · unfold DT; rw [blk_5, t5 _ (by omega)]; exact h.dt
        · exact r.na.cg bW bN (fun k hk => by rw [up_v, if_neg (by omega), c2.f (by omega)]; exact a2.a (by omega) (by unfold ln; rw [if_pos rfl]; exact hk)) (fun k hk => by rw [blk_8]; exact t8 k hk)
        · refine r.ye.cg (fun k _ _ => ?_) (fun i k _ _ _ => ?_) (fun k _ _ => by rw [blk_5]; exact t5 k (by omega))
          · rw [up_v, if_neg (by omega), c2.h (by omega), b1 _ _ (by omega)]
          · rw [up_v, if_neg (by omega), c2.a (by omega) (by omega), b1 _ _ (by omega)]
      · exact (m4 j (by omega)).cgj (fun o k _ _ => sf _ _ (by omega) (by omega)) (fun k _ _ => tf _ _ (by omega) (by omega) (by omega)) (fun k _ _ => tf _ _ (by omega) (by omega) (by omega))
    · rw [sf _ _ (by omega) (by omega)]; exact r.mz
    · intro kk; rw [sf _ _ (by omega) (by omega)]; exact r.kc kk
    · rw [tf _ _ (by omega) (by omega) (by omega)]; exact hz
theorem k_back (h : RR σ τ W N D E) : Ag (H_back σ) (M_back τ) := by
  rw [M_back]; refine ag_go h (fun τ h hz => ?_)
  obtain ⟨m, m1, m2, m3, m4⟩ := h.rb.ms
  rw [H_back, m2, m3]
  cases m with
  | zero => rw [if_neg (by omega), if_pos (by omega)]; exact ag_fail h 8
  | succ m =>
    obtain ⟨W', N', D', E', g1, g2, g3, g4⟩ := m4 m (by omega)
    have bW := g1.bW
    have bN := g1.bN
    obtain ⟨σ1, a1, a2⟩ := copyP (q := 8) (p := 44 + 17 * m) (by omega) (up_s σ 0 5 (m : Nat))
    have b0 : σ1 0 5 = m := by rw [a2.f (by omega), up_e]
    have b1 : ∀ o k, (o ≠ 0 ∨ k ≠ 5) → (o < 8 ∨ 18 < o) → σ1 o k = σ o k := fun o k q1 q2 => by rw [a2.f (by omega), up_v, if_neg (by omega)]
    obtain ⟨σ2, c1, c2⟩ := copyY (q := 30) (p := 55 + 17 * m) (by omega) σ1 (by rw [b1 _ _ (by omega) (by omega)]; exact g4.b)
    have d0 : σ2 0 5 = m := by rw [c2.f (by omega)]; exact b0
    have p42 : Ph 42 m = 44 + 17 * m := rfl
    have p43 : Ph 43 m = 55 + 17 * m := rfl
    rw [if_pos (by omega), if_neg (by omega), nm_k, w32_i (by omega) (by omega), show ((m + 1 : Nat) : Int) - 1 = (m : Nat) by omega, up_e, rd_k (by omega) (by omega), Int.toNat_natCast, p42, a1, bd_s, b0, rd_k (by omega) (by omega), Int.toNat_natCast, p43, c1, bd_s, d0]
    rw [show M_copy ((m + 1 : Nat) : Int) 0 τ = _ from copy_m (a := m + 1) (b := 0) (by omega) (by omega) (by omega) _, bd_s, nm_k, up_e]
    have t24 : cpB τ (m + 1) 0 447 14 0 24 = (m + 1 : Nat) := by unfold cpB; rw [if_neg (by omega), if_neg (by omega), m3]
    rw [t24, w32_i (by omega) (by omega), show ((m + 1 : Nat) : Int) - 1 = (m : Nat) by omega]
    have tf : ∀ o k, (o ≠ 0 ∨ k ≠ 24) → (o ≠ 5 ∨ 447 ≤ k) → (o ≠ 8 ∨ 14 ≤ k) → up_s (cpB τ (m + 1) 0 447 14) 0 24 (m : Nat) o k = τ o k := fun o k q1 q2 q3 => by
      rw [up_v, if_neg (by omega)]; unfold cpB; rw [if_neg (by omega), if_neg (by omega)]
    have t5 : ∀ k, k < 447 → up_s (cpB τ (m + 1) 0 447 14) 0 24 (m : Nat) 5 k = blk τ (m + 1) 5 k := fun k hk => by
      rw [up_v, if_neg (by omega), blk_5]; unfold cpB; rw [if_pos (by omega)]; congr 1 <;> omega
    have t8 : ∀ k, k < 14 → up_s (cpB τ (m + 1) 0 447 14) 0 24 (m : Nat) 8 k = blk τ (m + 1) 8 k := fun k hk => by
      rw [up_v, if_neg (by omega), blk_8]; unfold cpB; rw [if_neg (by omega), if_pos (by omega)]; congr 1 <;> omega
    have sf : ∀ o k, (o ≠ 0 ∨ k ≠ 5) → (o < 8 ∨ (18 < o ∧ o < 30) ∨ 35 < o) → σ2 o k = σ o k := fun o k q1 q2 => by
      rw [c2.f (by omega), b1 o k (by omega) (by omega)]
    have r := h.rb
    have gp : PR (44 + 17 * m) (up_s σ 0 5 (m : Nat)) (blk τ (m + 1)) W' N' D' E' := g1.cg (fun j k _ _ => by rw [up_v, if_neg (by omega)]) (fun _ _ => rfl)
    refine ag_give (W := W') (N := N') (D := D') (E := E') (RR.mk ?_ ?_ (RB.mk ?_ ?_ ?_ ?_ ?_ ?_ ?_ ?_ ?_ ?_ ?_ ?_)) ?_ _
    · exact (a2.pr gp (τ' := up_s (cpB τ (m + 1) 0 447 14) 0 24 (m : Nat)) (fun k hk => t5 k (by omega))).cg (fun j k _ _ => by rw [c2.f (by omega)]) (fun _ _ => rfl)
    · exact DT.eq g2 (t5 6 (by omega))
    · rw [sf _ _ (by omega) (by omega), tf _ _ (by omega) (by omega) (by omega)]; exact r.tp
    · rw [sf _ _ (by omega) (by omega), tf _ _ (by omega) (by omega) (by omega)]; exact r.bt
    · rw [sf _ _ (by omega) (by omega), tf _ _ (by omega) (by omega) (by omega)]; exact r.fk
    · rw [sf _ _ (by omega) (by omega), tf _ _ (by omega) (by omega) (by omega)]; exact r.fp
    · exact fun t q => (r.tr t q).cg (fun o k _ _ => sf o k (by omega) (by omega)) (fun o k _ _ => tf o k (by omega) (by omega) (by omega))
    · exact r.tz.cg (sf _ _ (by omega) (by omega)) (tf _ _ (by omega) (by omega) (by omega)) (fun k => sf _ _ (by omega) (by omega)) (fun k => tf _ _ (by omega) (by omega) (by omega))
    · exact g3.cg bW bN (fun k hk => by rw [c2.f (by omega), a2.a (by omega) (by unfold ln; rw [if_pos rfl]; exact hk), up_v, if_neg (by omega)]) (fun k hk => t8 k hk)
    · refine g4.cg (fun k _ _ => ?_) (fun i k _ _ _ => ?_) (fun k _ _ => t5 k (by omega))
      · rw [c2.h (by omega), b1 _ _ (by omega) (by omega)]
      · rw [c2.a (by omega) (by omega), b1 _ _ (by omega) (by omega)]
    · exact r.lv.cg (fun k _ => sf _ _ (by omega) (by omega)) (tf _ _ (by omega) (by omega) (by omega)) (fun k _ => tf _ _ (by omega) (by omega) (by omega))
    · refine ⟨m, by omega, d0, up_e, fun j hj => ?_⟩
      exact (m4 j (by omega)).cgj (fun o k _ _ => sf _ _ (by omega) (by omega)) (fun k _ _ => tf _ _ (by omega) (by omega) (by omega)) (fun k _ _ => tf _ _ (by omega) (by omega) (by omega))
    · rw [sf _ _ (by omega) (by omega)]; exact r.mz
    · intro kk; rw [sf _ _ (by omega) (by omega)]; exact r.kc kk
    · rw [tf _ _ (by omega) (by omega) (by omega)]; exact hz
end
