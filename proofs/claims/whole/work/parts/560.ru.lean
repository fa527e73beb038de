/-! the call live -/
section
variable {σ τ σ' τ' : Sg} {W N D E : Nat}
theorem RB.fl (bW : W ≤ 8) (bN : N ≤ 6) (h : RB σ τ W N) (hs : ∀ o k, SbH o k → o ≠ 98 → σ' o k = σ o k) (ht : ∀ o k, SbM o k → (o ≠ 0 ∨ k ≠ 35) → o ≠ 13 → τ' o k = τ o k) (hl : LV σ' τ') : RB σ' τ' W N := by
  unfold SbH at hs
  unfold SbM at ht
  refine RB.mk ?_ ?_ ?_ ?_ ?_ ?_ ?_ ?_ hl ?_ ?_ ?_
  · rw [hs _ _ (by omega) (by omega), ht _ _ (by omega) (by omega) (by omega)]; exact h.tp
  · rw [hs _ _ (by omega) (by omega), ht _ _ (by omega) (by omega) (by omega)]; exact h.bt
  · rw [hs _ _ (by omega) (by omega), ht _ _ (by omega) (by omega) (by omega)]; exact h.fk
  · rw [hs _ _ (by omega) (by omega), ht _ _ (by omega) (by omega) (by omega)]; exact h.fp
  · exact fun t q => (h.tr t q).cg (fun o k _ _ => hs o k (by omega) (by omega)) (fun o k _ _ => ht o k (by omega) (by omega) (by omega))
  · exact h.tz.cg (hs _ _ (by omega) (by omega)) (ht _ _ (by omega) (by omega) (by omega)) (fun k => hs _ _ (by omega) (by omega)) (fun k => ht _ _ (by omega) (by omega) (by omega))
  · exact h.na.cg bW bN (fun k _ => hs _ _ (by omega) (by omega)) (fun k _ => ht _ _ (by omega) (by omega) (by omega))
  · exact h.ye.cg (fun k _ _ => hs _ _ (by omega) (by omega)) (fun j k _ _ _ => hs _ _ (by omega) (by omega)) (fun k _ _ => ht _ _ (by omega) (by omega) (by omega))
  · exact h.ms.cg (hs _ _ (by omega) (by omega)) (ht _ _ (by omega) (by omega) (by omega)) (fun o k _ _ => hs _ _ (by omega) (by omega)) (fun k _ _ => ht _ _ (by omega) (by omega) (by omega)) (fun k _ _ => ht _ _ (by omega) (by omega) (by omega))
  · rw [hs _ _ (by omega) (by omega)]; exact h.mz
  · intro kk; rw [hs _ _ (by omega) (by omega)]; exact h.kc kk
def lvE (τ : Sg) : Sg := up_s (up_s (up_s (up_s (up_s (up_s τ 13 0 (τ 0 39)) 13 1 (τ 0 40)) 13 2 (τ 0 41)) 13 3 (τ 0 42)) 13 4 (τ 0 43)) 0 35 1
theorem lvE_o {o k : Nat} (h : o ≠ 13) (h' : o ≠ 0 ∨ k ≠ 35) : lvE τ o k = τ o k := by
  unfold lvE
  rw [up_v, if_neg (by omega), up_o (by omega), up_o (by omega), up_o (by omega), up_o (by omega), up_o (by omega)]
theorem lvE_v {j : Nat} (h : j < 5) : lvE τ 13 j = τ 0 (39 + j) := by
  unfold lvE
  have g : j = 0 ∨ j = 1 ∨ j = 2 ∨ j = 3 ∨ j = 4 := by omega
  rcases g with rfl | rfl | rfl | rfl | rfl
  · rw [up_o (by omega), up_k (by omega), up_k (by omega), up_k (by omega), up_k (by omega), up_e]
  · rw [up_o (by omega), up_k (by omega), up_k (by omega), up_k (by omega), up_e]
  · rw [up_o (by omega), up_k (by omega), up_k (by omega), up_e]
  · rw [up_o (by omega), up_k (by omega), up_e]
  · rw [up_o (by omega), up_e]
theorem k_live (h : RR σ τ W N D E) (n : Int) (hn : c32 n) : Ag (H_live n σ) (M_live n τ) := by
  rw [M_live]; refine ag_go h (fun τ h hz => ?_)
  rw [H_live]
  by_cases ha : 0 ≤ n ∧ n ≤ 9999
  · rw [wi_1 ha, in_1 ha, bd_s, bd_s, if_neg i10, if_neg i10, rd_k (by omega) (by omega), show Int.toNat 175 = 175 from rfl]
    have y := h.rb.ye
    by_cases e : σ 30 7 = 0
    · have e' : τ 5 175 = 0 := by
        rcases y with y | y
        · exact y.2
        · have := y.1; omega
      rw [if_pos e, if_pos e']; exact ag_fail h 8
    · have e' : τ 5 175 ≠ 0 := by
        rcases y with y | y
        · exact absurd y.1 e
        · have := y.2.1; omega
      obtain ⟨σ', τ', k, a1, a2, a3, a4, a5, a6⟩ := lives_r (p := 8) (by omega) h.pr h.dt y e ha.1 ha.2
      have z : ∀ s : Sg, s = lvE τ' → s 0 38 = k := fun s hs => by rw [hs, lvE_o (by omega) (by omega)]; exact a3.st'
      have c98 : ∀ j, j < 5 → cp_s σ' 96 98 0 0 5 98 j = σ' 96 j := fun j hj => by rw [cp_v, if_pos (by omega), Nat.sub_zero, Nat.zero_add]
      have co : ∀ o j, o ≠ 98 → cp_s σ' 96 98 0 0 5 o j = σ' o j := fun o j hj => by rw [cp_v, if_neg (by omega)]
      have lv : LV (cp_s σ' 96 98 0 0 5) (lvE τ') := by
        refine .inr ⟨by unfold lvE; exact up_e, fun j hj => ?_⟩
        rw [c98 j hj, lvE_v hj]
        have g : j = 0 ∨ j = 1 ∨ j = 2 ∨ j = 3 ∨ j = 4 := by omega
        rcases g with rfl | rfl | rfl | rfl | rfl
        · exact ⟨a3.f0, a3.f0b.1⟩
        · exact ⟨a3.f1, a3.f1b.1⟩
        · exact ⟨a3.f2, a3.f2b.1⟩
        · exact ⟨a3.f3, a3.f3b.1⟩
        · exact ⟨a3.f4, a3.f4b.1⟩
      have rr : RR (cp_s σ' 96 98 0 0 5) (lvE τ') W N D E := by
        refine RR.mk (a3.pr.cg (fun i y _ _ => co _ _ (by omega)) (fun y _ => lvE_o (by omega) (by omega))) (a3.dt.eq (lvE_o (by omega) (by omega))) (h.rb.fl h.pr.bW h.pr.bN (fun o j q1 q2 => ?_) (fun o j q1 q2 q3 => ?_) lv)
        · unfold SbH at q1
          rw [co o j q2]; exact a5 o j (by omega) (by omega) (by omega) (by omega)
        · unfold SbM at q1
          rw [lvE_o q3 q2]; exact a6 o j (by omega) (by omega)
      have hz' : lvE τ' 0 0 = 0 := by rw [lvE_o (by omega) (by omega), a6 0 0 (by omega) (by omega)]; exact hz
      have hv : (bd (M_runsYears n τ) (fun r10 s11 => (wr 5 0 (up_s s11 13 (Int.toNat 0) (s11 0 39)) (fun s12 => (wr 5 1 (up_s s12 13 (Int.toNat 1) (s12 0 40)) (fun s13 => (wr 5 2 (up_s s13 13 (Int.toNat 2) (s13 0 41)) (fun s14 => (wr 5 3 (up_s s14 13 (Int.toNat 3) (s14 0 42)) (fun s15 => (wr 5 4 (up_s s15 13 (Int.toNat 4) (s15 0 43)) (fun s16 => (zb 1 (nm (up_s s16 0 35 1) (fun s17 => (some ((s17 0 38), s17))))))))))))))))) = some ((k : Int), lvE τ') := by
        rw [a2, bd_s, wr_k (by omega) (by omega), wr_k (by omega) (by omega), wr_k (by omega) (by omega), wr_k (by omega) (by omega), wr_k (by omega) (by omega), zb_1, nm_k, ← z (lvE τ') rfl]
        rfl
      rw [if_neg e, if_neg e', hv, a1, bd_s, cpw_k (by omega), show Int.toNat 0 = 0 from rfl, show Int.toNat 5 = 5 from rfl, co _ _ (by omega), a3.st]
      exact ag_give rr hz' _
  · rw [wi_0 ha, in_0 ha, bd_s, bd_s, if_pos rfl, if_pos rfl]; exact ag_fail h 5
end
