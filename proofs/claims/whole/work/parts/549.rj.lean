/-! living: days go by -/
section
variable {p : Nat} {σ τ : Sg} {W N D E k b m : Nat}
theorem a_day (hp : p ≤ 19) (hb : b ≤ 300) (q : LQ p σ τ W N D E k b m) {dd : Nat} (hd : dd ≤ 20) (a3 : Int) :
    ∃ X : Rs, (if 9999 < (w32 ((σ p 16) + (dd : Int))) then (Li_behindPlain_J74 p a3 dd 0 σ) else (Li_behindPlain_J74 p a3 dd 1 σ)) = bd X (fun r s => Li_behindPlain_J165 a3 r s) ∧ ACT p X (M_anyDays dd τ) σ τ W N D E k b m := by
  have h := q.pr
  have g2 := q.f2b
  have g1 := q.f1b
  obtain ⟨d0, d1⟩ := q.dt
  rw [h.dt, w32_i (x := τ 5 6 + (dd : Int)) (by omega) (by omega), M_anyDays, rd_k (by omega) (by omega), show Int.toNat 6 = 6 from rfl, w32_i (x := τ 5 6 + (dd : Int)) (by omega) (by omega)]
  by_cases e : 9999 < τ 5 6 + (dd : Int)
  · rw [if_pos e, if_pos e]
    exact ⟨some (0, σ), by rw [Li_behindPlain_J74, if_pos rfl, bd_s], act_no q⟩
  · rw [if_neg e, if_neg e]
    obtain ⟨S, hS⟩ := nat_of g2.1
    obtain ⟨r, σ', τ', a1, a2, a3', a4, a5, a6, a7, a8⟩ := days_y (p := p) (dd := dd) (v2 := σ p 18) (by omega) dd 0 fu fu σ τ 0 S (by omega) (by unfold fu; omega) (by unfold fu; omega) h (by omega) (by rw [h.sd, show ((0 : Nat) : Int) = 0 from rfl, Int.add_zero, w32_id h.sdb]) (by omega) (by omega) hS
    have q0 := q.u hp (j := 2) (x := ((S + r : Nat) : Int)) (b' := b + 1) (m' := m) (by omega) (by omega) (by omega) ⟨fun z => by omega, fun z => by omega, fun _ => by omega, fun z => by omega, fun z => by omega⟩
    have fh : FH p (up_s σ 96 2 ((S + r : Nat) : Int)) (up_s σ' 96 2 ((S + r : Nat) : Int)) := by
      intro o x z
      by_cases e : o = 96 ∧ x = 2
      · rw [up_v, if_pos e, up_v, if_pos e]
      · rw [up_v, if_neg e, up_v, if_neg e]; exact a4 o x z
    have pr1 : PR p (up_s σ' 96 2 ((S + r : Nat) : Int)) τ' W N D E := a3'.cg (fun i y _ _ => up_o (by omega)) (fun _ _ => rfl)
    have dt1 : DT τ' := by unfold DT; rw [a6, w32_i (by omega) (by omega)]; omega
    have q1 := q0.mv hp pr1 dt1 fh a5
    have t40 : τ' 0 40 = τ 0 40 := (a5 _ _ (by omega)).trans (up_k (by omega))
    have q2 := q1.u hp (j := 1) (x := τ 0 40 + dd) (b' := b + 1) (m' := m) (by omega) (by omega) (by omega) ⟨fun z => by omega, fun _ => by omega, fun z => by omega, fun z => by omega, fun z => by omega⟩
    refine ⟨some (1, up_s (up_s σ' 96 2 ((S + r : Nat) : Int)) 96 1 (τ 0 40 + dd)), ?_, 1, _, _, rfl, ?_, .inr rfl, q2, ?_, ?_, ?_⟩
    · have a1' : Pr_passDays p dd σ = some ((r : Int), σ') := by rw [Pr_passDays, nm_k]; rw [Nat.zero_add] at a1; exact a1
      have e1 : up_s σ' 96 2 ((S + r : Nat) : Int) 96 1 = τ 0 40 := q1.f1.trans t40
      rw [Li_behindPlain_J74, if_neg i10, rd_k (by omega) (by omega), show Int.toNat 2 = 2 from rfl, a1', bd_s, bd_s, wr_k (by omega) (by omega), q.f2, hS, ← Int.natCast_add, w32_i (x := ((S + r : Nat) : Int)) (by omega) (by omega), rd_k (by omega) (by omega), show Int.toNat 1 = 1 from rfl, wr_k (by omega) (by omega), e1, w32_i (x := τ 0 40 + (dd : Int)) (by omega) (by omega)]
    · have a2' : M_anyDays_L19 dd fu 0 τ = some (1, up_s τ' 0 40 (w32 (τ' 0 40 + dd))) := a2
      rw [a2', t40, w32_i (x := τ 0 40 + (dd : Int)) (by omega) (by omega)]
    · exact (LFH.tr a4.l (LFH.u (by omega))).tr (LFH.u (by omega))
    · exact ((LFM.u (by omega)).tr a5.l).tr (LFM.u (by omega))
    · intro x z; rw [up_k (by omega)]; exact (a5 _ _ (by omega)).trans (up_k (by omega))
end
