/-! province -/
theorem clear_h (σ : Sg) : ∃ σ2, PR_readAll 19 σ = PR_readAll_L16 19 (fun s10 => PR_readAll_J46 19 s10) fu ((0 : Nat) : Int) σ2 ∧ (∀ k, 10 ≤ k → k < 20 → k ≠ 14 → k ≠ 15 → σ2 19 k = 0) ∧ σ2 19 14 = -1 ∧ σ2 19 15 = -1 ∧ (∀ o k, o ≠ 19 → σ2 o k = σ o k) := by
  refine ⟨_, by rw [PR_readAll, Pr_clear, nm_k, nm_k, nm_k, nm_k, nm_k, nm_k, nm_k, nm_k, nm_k, nm_k, bd_s, nm_k, nm_k]; rfl, fun k a c d e => ?_, ?_, up_e, fun o k z => ?_⟩
  · have q : k = 10 ∨ k = 11 ∨ k = 12 ∨ k = 13 ∨ k = 16 ∨ k = 17 ∨ k = 18 ∨ k = 19 := by omega
    rcases q with rfl | rfl | rfl | rfl | rfl | rfl | rfl | rfl <;> simp [up_v]
  · rw [up_k (by omega), up_e]
  · rw [up_o z, up_o z, up_o z, up_o z, up_o z, up_o z, up_o z, up_o z, up_o z, up_o z, up_o z, up_o z]
section
variable {σ τ : Sg} {W N D E : Nat}
theorem well_m {τ : Sg} (h : τ 0 12 = 0) : M_isWell τ = some (1, up_s (up_s τ 0 10 0) 0 11 (-1)) := by
  rw [M_isWell, nm_k, h, up_k (by omega), h, if_pos rfl, M_isWell_J24, nm_k, up_k (by omega), up_k (by omega), h, if_pos rfl]
set_option maxHeartbeats 1000000 in
theorem k_province (h : RR σ τ W N D E) (hs : σ 0 0 = τ 0 0) (n : Int) (hn : c32 n) : Ag (H_province n σ) (M_province n τ) := by
  rw [M_province]; refine ag_go h (fun τ h hz => ?_)
  have htz := h.rb.tz
  obtain ⟨m, m1, m2, m3, m4⟩ := h.rb.tz
  rw [H_province, within_h, bd_s]
  by_cases c : 0 ≤ n ∧ n ≤ σ 5 1
  · rw [if_pos c, if_neg i10]
    obtain ⟨q, rfl⟩ : ∃ q : Nat, n = q := ⟨n.toNat, by omega⟩
    obtain ⟨σ1, τ1, R, B, b, k, v, p, s1, s2, cu, fs, ft, f8⟩ := start_2 htz h.rb.kc (most := 900) c.2 (by omega)
    have hR := cu.row.2.2.2.1
    have hR0 := cu.row.1
    rw [s1, bd_s, s2, bd_s, if_neg i10]
    obtain ⟨τ2, e1, e2, e3⟩ := empt_m τ1
    rw [e1, bd_s, nm_k]
    obtain ⟨σ2, g1, g2, g3, g4, g5⟩ := clear_h σ1
    rw [g1]
    have cu2 : CU q R B b 0 k v p σ2 (up_s τ2 0 25 0) := cu.cg (fun o x z => g5 o x (by omega)) (fun o x z => by rw [up_v, if_neg (by omega)]; exact e3 o x (by omega))
    have hq0 : PQ σ2 (up_s τ2 0 25 0) 0 0 0 0 := pq_0 g2 g3 g4 (fun k a d => by rw [up_o (by omega)]; exact e2 k a d) up_e
    have sB : ∀ {s : Sg}, GOH σ2 s → ∀ o k, o ≠ 5 → o ≠ 7 → (o < 19 ∨ 29 < o) → s o k = σ o k := fun {s} g o k z1 z2 z3 => by
      rw [g o k (by omega), g5 o k (by omega)]; exact fs o k z2 (by omega)
    have tB : ∀ {t : Sg}, GOM (up_s τ2 0 25 0) t → ∀ o k, ¬ (o = 0 ∧ (k = 8 ∨ k = 9 ∨ (12 ≤ k ∧ k ≤ 19) ∨ k = 25)) → ¬ (o = 5 ∧ 1788 ≤ k) → ¬ (o = 8 ∧ 56 ≤ k) → t o k = τ o k := fun {t} g o k z1 z2 z3 => by
      rw [g o k (by omega), up_v, if_neg (by omega), e3 o k (by omega)]; exact ft o k (by omega)
    have t8 : ∀ {t : Sg}, GOM (up_s τ2 0 25 0) t → t 0 8 = 0 := fun {t} g => by
      rw [g 0 8 (by omega), up_v, if_neg (by omega), e3 0 8 (by omega)]; exact f8
    rcases all_p (K := fun s10 => PR_readAll_J46 19 s10) (K' := fun s14 => M_province_J64 s14) R 0 0 fu fu k v p σ2 (up_s τ2 0 25 0) 0 0 0 0 (by omega) (by unfold fu; omega) (by unfold fu; omega) (by omega) cu2 hq0 with ⟨σ3, τ3, W', N', D', E', a1, a2, a3, a4, a5, a6⟩ | ⟨σ3, τ3, a1, a2, a3, a4, a5⟩
    · rw [a1, a2]
      show Ag (bd (PR_readAll_J46 19 σ3) _) (M_province_J64 τ3)
      have e4 : H_closeText 1 (hos σ3 τ3) = some (0, up_s (up_s (up_s (hos σ3 τ3) 5 1 0) 0 3 0) 0 4 (-1)) := by
        rw [H_closeText, nm_k, if_neg i10, H_closeText_J24, nm_k, if_neg i10, nm_k]
      rw [settle_h a3, bd_s, e4, bd_s, if_neg i10, M_province_J64, well_m a4, bd_s, if_neg i10]
      have s4f : ∀ o k, ¬ (o = 5 ∧ k = 1) → ¬ (o = 0 ∧ (k = 3 ∨ k = 4)) → up_s (up_s (up_s (hos σ3 τ3) 5 1 0) 0 3 0) 0 4 (-1) o k = hos σ3 τ3 o k := fun o k z1 z2 => by
        rw [up_v, if_neg (by omega), up_v, if_neg (by omega), up_v, if_neg (by omega)]
      have s41 : up_s (up_s (up_s (hos σ3 τ3) 5 1 0) 0 3 0) 0 4 (-1) 5 1 = 0 := by rw [up_o (by omega), up_o (by omega), up_e]
      have s43 : up_s (up_s (up_s (hos σ3 τ3) 5 1 0) 0 3 0) 0 4 (-1) 0 3 = 0 := by rw [up_k (by omega), up_e]
      have s44 : up_s (up_s (up_s (hos σ3 τ3) 5 1 0) 0 3 0) 0 4 (-1) 0 4 = -1 := by rw [up_e]
      generalize up_s (up_s (up_s (hos σ3 τ3) 5 1 0) 0 3 0) 0 4 (-1) = σ4 at *
      have tf1 : ∀ o k, ¬ (o = 0 ∧ (k = 10 ∨ k = 11)) → up_s (up_s τ3 0 10 0) 0 11 (-1) o k = τ3 o k := fun o k z => by rw [up_v, if_neg (by omega), up_v, if_neg (by omega)]
      have t10 : up_s (up_s τ3 0 10 0) 0 11 (-1) 0 10 = 0 := by rw [up_k (by omega), up_e]
      have t11 : up_s (up_s τ3 0 10 0) 0 11 (-1) 0 11 = -1 := by rw [up_e]
      generalize up_s (up_s τ3 0 10 0) 0 11 (-1) = τ4 at *
      obtain ⟨σ5, c1, c2⟩ := copyP (q := 8) (p := 19) (by omega) σ4
      rw [c1, bd_s, Ye_clear, nm_k, nm_k, zb_0, nm_k, bd_s, show M_copy 4 0 τ4 = _ from copy_m (a := 4) (b := 0) (by omega) (by omega) (by omega) τ4, bd_s, rd_k (by omega) (by omega), show Int.toNat 1 = 1 from rfl]
      have s6f : ∀ o k, o ≠ 30 → up_s (up_s (up_s σ5 30 5 0) 30 6 0) 30 7 0 o k = σ5 o k := fun o k z => by rw [up_o z, up_o z, up_o z]
      have s67 : up_s (up_s (up_s σ5 30 5 0) 30 6 0) 30 7 0 30 7 = 0 := up_e
      generalize up_s (up_s (up_s σ5 30 5 0) 30 6 0) 30 7 0 = σ6 at *
      have tg : ∀ o k, ¬ (o = 5 ∧ k < 447) → ¬ (o = 8 ∧ k < 14) → cpB τ4 4 0 447 14 o k = τ4 o k := fun o k z1 z2 => by
        unfold cpB; rw [if_neg (by omega), if_neg (by omega)]
      have tg5 : ∀ k, k < 447 → cpB τ4 4 0 447 14 5 k = τ3 5 (1788 + k) := fun k hk => by
        unfold cpB; rw [if_pos (by omega), tf1 _ _ (by omega)]; congr 1
      have tg8 : ∀ k, k < 14 → cpB τ4 4 0 447 14 8 k = τ3 8 (56 + k) := fun k hk => by
        unfold cpB; rw [if_neg (by omega), if_pos (by omega), tf1 _ _ (by omega)]; congr 1
      generalize cpB τ4 4 0 447 14 = τ6 at *
      have sf : ∀ o k, o ≠ 5 → o ≠ 7 → (o < 8 ∨ 30 < o) → ¬ (o = 0 ∧ (k = 3 ∨ k = 4)) → σ6 o k = σ o k := fun o k z1 z2 z3 z4 => by
        rw [s6f o k (by omega), c2.f (by omega), s4f o k (by omega) z4, hos_v, if_neg (by omega), if_neg (by omega)]
        exact sB a5 o k z1 z2 (by omega)
      have tf : ∀ o k, ¬ (o = 0 ∧ (k = 8 ∨ k = 9 ∨ k = 10 ∨ k = 11 ∨ (12 ≤ k ∧ k ≤ 19) ∨ k = 25)) → ¬ (o = 5 ∧ (k < 447 ∨ 1788 ≤ k)) → ¬ (o = 8 ∧ (k < 14 ∨ 56 ≤ k)) → τ6 o k = τ o k := fun o k z1 z2 z3 => by
        rw [tg o k (by omega) (by omega), tf1 o k (by omega)]
        exact tB a6 o k (by omega) (by omega) (by omega)
      have r := h.rb
      have v1 : σ6 8 11 = (N' : Nat) := by
        rw [s6f _ _ (by omega), c2.h (by omega), s4f _ _ (by omega) (by omega), hos_v, if_neg (by omega), if_neg (by omega)]; exact a3.n
      have v2 : τ6 5 1 = (N' : Nat) := by rw [tg5 _ (by omega)]; exact a3.n'
      rw [v1, v2]
      have hp : PR 19 σ4 (blk τ3 4) W' N' D' E' := a3.pr.cg (fun j k _ _ => s4f _ _ (by omega) (by omega)) (fun _ _ => rfl)
      refine ag_give (W := W') (N := N') (D := D') (E := E') (RR.mk ?_ ?_ (RB.mk ?_ ?_ ?_ ?_ ?_ ⟨0, by omega, ?_, ?_, fun k hk => by omega⟩ ?_ (.inl ⟨s67, ?_⟩) ?_ ?_ ?_ ?_)) ?_ _
      · exact (c2.pr hp (τ' := τ6) (fun k hk => by rw [blk_5]; exact tg5 k (by omega))).cg (fun j k _ _ => s6f _ _ (by omega)) (fun _ _ => rfl)
      · unfold DT; rw [tg5 _ (by omega), a3.z 6 (by omega)]; omega
      · rw [sf _ _ (by omega) (by omega) (by omega) (by omega), tf _ _ (by omega) (by omega) (by omega)]; exact r.tp
      · rw [sf _ _ (by omega) (by omega) (by omega) (by omega), tf _ _ (by omega) (by omega) (by omega)]; exact r.bt
      · rw [s6f _ _ (by omega), c2.f (by omega), s43, tg _ _ (by omega) (by omega), t10]
      · rw [s6f _ _ (by omega), c2.f (by omega), s44, tg _ _ (by omega) (by omega), t11]
      · exact fun t q => (r.tr t q).cg (fun o k _ _ => sf o k (by omega) (by omega) (by omega) (by omega)) (fun o k _ _ => tf o k (by omega) (by omega) (by omega))
      · rw [s6f _ _ (by omega), c2.f (by omega)]; exact s41
      · rw [tg _ _ (by omega) (by omega), tf1 _ _ (by omega)]; exact t8 a6
      · refine ⟨fun w hw => ?_, fun i hi => ?_⟩
        · have bW := a3.pr.bW
          have := a3.nm.1 w hw
          rw [blk_8] at this
          rw [s6f _ _ (by omega), c2.a (by omega) (by unfold ln; rw [if_pos rfl]; omega), s4f _ _ (by omega) (by omega), hos_v, if_neg (by omega), if_neg (by omega), tg8 _ (by omega)]; exact this
        · have bN := a3.pr.bN
          have := a3.nm.2 i hi
          rw [blk_8] at this
          rw [s6f _ _ (by omega), c2.a (by omega) (by unfold ln; rw [if_pos rfl]; omega), s4f _ _ (by omega) (by omega), hos_v, if_neg (by omega), if_neg (by omega), tg8 _ (by omega)]; exact this
      · rw [tg5 _ (by omega)]; exact a3.z 175 (by omega)
      · exact r.lv.cg (fun k _ => sf _ _ (by omega) (by omega) (by omega) (by omega)) (tf _ _ (by omega) (by omega) (by omega)) (fun k _ => tf _ _ (by omega) (by omega) (by omega))
      · exact r.ms.cg (sf _ _ (by omega) (by omega) (by omega) (by omega)) (tf _ _ (by omega) (by omega) (by omega)) (fun o k _ _ => sf _ _ (by omega) (by omega) (by omega) (by omega)) (fun k _ _ => tf _ _ (by omega) (by omega) (by omega)) (fun k _ _ => tf _ _ (by omega) (by omega) (by omega))
      · rw [sf _ _ (by omega) (by omega) (by omega) (by omega)]; exact r.mz
      · intro kk; rw [sf _ _ (by omega) (by omega) (by omega) (by omega)]; exact r.kc kk
      · rw [tf _ _ (by omega) (by omega) (by omega)]; exact hz
    · rw [a1, a2, bd_s]
      obtain ⟨s, τ'', b1, b2, b3⟩ := flt_end h a3 (fun o k z1 z2 => sB a4 o k z2 (by unfold SbH at z1; omega) (by unfold SbH at z1; omega)) (fun o k z1 z2 => tB a5 o k (by unfold SbM at z1; omega) (by unfold SbM at z1; omega) (by unfold SbM at z1; omega)) (t8 a5)
      show Ag _ (M_province_J64 τ3)
      rw [b1, bd_s, if_pos rfl, M_province_J64, b2, bd_s, if_pos rfl]
      exact ⟨-1, _, _, rfl, rfl, b3⟩
  · rw [if_neg c, if_pos rfl]
    have e : M_starts n 900 τ = some (0, up_s τ 0 0 5) := by
      rw [M_starts]
      by_cases c1 : n < 0
      · rw [if_pos c1, M_no, nm_k, bd_s, zb_0]
      · rw [if_neg c1, if_pos (by omega), M_no, nm_k, bd_s, zb_0]
    rw [e, bd_s, if_pos rfl]
    exact ag_fail h 5
end
