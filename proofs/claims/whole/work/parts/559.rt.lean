/-! living: the years from their start to their end -/
section
variable {p : Nat} {σ τ : Sg} {W N D E : Nat}
def lvH (σ : Sg) (a : Int) : Sg := up_s (up_s (up_s (up_s (up_s (up_s (up_s σ 96 0 0) 96 1 0) 96 2 0) 96 3 0) 96 4 0) 95 2 0) 95 3 a
def lvM (τ : Sg) (a : Int) : Sg := up_s (up_s (up_s (up_s (up_s (up_s (up_s (up_s τ 0 37 a) 0 38 0) 0 39 0) 0 40 0) 0 41 0) 0 42 0) 0 43 0) 0 36 0
theorem lvH_f {a : Int} : LFH p σ (lvH σ a) := by
  unfold lvH
  exact (((((((LFH.u (by omega)).tr (LFH.u (by omega))).tr (LFH.u (by omega))).tr (LFH.u (by omega))).tr (LFH.u (by omega))).tr (LFH.u (by omega))).tr (LFH.u (by omega)))
theorem lvM_f {a : Int} : LFM τ (lvM τ a) := by
  unfold lvM
  exact (((((((LFM.u (by omega)).tr (LFM.u (by omega))).tr (LFM.u (by omega))).tr (LFM.u (by omega))).tr (LFM.u (by omega))).tr (LFM.u (by omega))).tr (LFM.u (by omega))).tr (LFM.u (by omega))
theorem lvH_5 {a : Int} {o k : Nat} (h : o ≠ 95 ∧ o ≠ 96) : lvH σ a o k = σ o k := by
  unfold lvH
  rw [up_o (by omega), up_o (by omega), up_o (by omega), up_o (by omega), up_o (by omega), up_o (by omega), up_o (by omega)]
theorem lvM_5 {a : Int} {o k : Nat} (h : o ≠ 0) : lvM τ a o k = τ o k := by
  unfold lvM
  rw [up_o (by omega), up_o (by omega), up_o (by omega), up_o (by omega), up_o (by omega), up_o (by omega), up_o (by omega), up_o (by omega)]
theorem lv_q {a : Int} (hp : p ≤ 19) (h : PR p σ τ W N D E) (hd : DT τ) (h0 : 0 ≤ a) (h1 : a ≤ 9999) : LQ p (lvH σ a) (lvM τ a) W N D E 0 0 0 := by
  have e : ∀ z, z = 96 ∨ z = 95 → True := fun _ _ => trivial
  have m38 : lvM τ a 0 38 = 0 := by unfold lvM; rw [up_k (by omega), up_k (by omega), up_k (by omega), up_k (by omega), up_k (by omega), up_k (by omega), up_e]
  have m37 : lvM τ a 0 37 = a := by unfold lvM; rw [up_k (by omega), up_k (by omega), up_k (by omega), up_k (by omega), up_k (by omega), up_k (by omega), up_k (by omega), up_e]
  have m39 : lvM τ a 0 39 = 0 := by unfold lvM; rw [up_k (by omega), up_k (by omega), up_k (by omega), up_k (by omega), up_k (by omega), up_e]
  have m40 : lvM τ a 0 40 = 0 := by unfold lvM; rw [up_k (by omega), up_k (by omega), up_k (by omega), up_k (by omega), up_e]
  have m41 : lvM τ a 0 41 = 0 := by unfold lvM; rw [up_k (by omega), up_k (by omega), up_k (by omega), up_e]
  have m42 : lvM τ a 0 42 = 0 := by unfold lvM; rw [up_k (by omega), up_k (by omega), up_e]
  have m43 : lvM τ a 0 43 = 0 := by unfold lvM; rw [up_k (by omega), up_e]
  have s2 : lvH σ a 95 2 = 0 := by unfold lvH; rw [up_k (by omega), up_e]
  have s3 : lvH σ a 95 3 = a := by unfold lvH; rw [up_e]
  have f0 : lvH σ a 96 0 = 0 := by unfold lvH; rw [up_o (by omega), up_o (by omega), up_k (by omega), up_k (by omega), up_k (by omega), up_k (by omega), up_e]
  have f1 : lvH σ a 96 1 = 0 := by unfold lvH; rw [up_o (by omega), up_o (by omega), up_k (by omega), up_k (by omega), up_k (by omega), up_e]
  have f2 : lvH σ a 96 2 = 0 := by unfold lvH; rw [up_o (by omega), up_o (by omega), up_k (by omega), up_k (by omega), up_e]
  have f3 : lvH σ a 96 3 = 0 := by unfold lvH; rw [up_o (by omega), up_o (by omega), up_k (by omega), up_e]
  have f4 : lvH σ a 96 4 = 0 := by unfold lvH; rw [up_o (by omega), up_o (by omega), up_e]
  exact LQ.mk (h.cg (fun i y _ _ => lvH_5 (by omega)) (fun y _ => lvM_5 (by omega))) (hd.eq (lvM_5 (by omega))) s2 m38 (by rw [s3, m37]) (by omega) (by rw [f0, m39]) (by omega) (by rw [f1, m40]) (by omega) (by rw [f2, m41]) (by omega) (by rw [f3, m42]) (by omega) (by rw [f4, m43]) (by omega)
theorem li_3 {y : Nat} {a : Int} {k39 : Int → Int → Sg → Rs} {n : Nat} : Li_run_L3 p y a k39 (n + 6) 0 σ = k39 0 0 (lvH σ a) := by
  have w0 : w32 ((0 : Int) + 1) = 1 := w32_i (by omega) (by omega)
  have w1 : w32 ((1 : Int) + 1) = 2 := w32_i (by omega) (by omega)
  have w2 : w32 ((2 : Int) + 1) = 3 := w32_i (by omega) (by omega)
  have w3 : w32 ((3 : Int) + 1) = 4 := w32_i (by omega) (by omega)
  have w4 : w32 ((4 : Int) + 1) = 5 := w32_i (by omega) (by omega)
  rw [Li_run_L3, if_pos (by decide), wr_k (by omega) (by omega), nm_k, w0, Li_run_L3, if_pos (by decide), wr_k (by omega) (by omega), nm_k, w1, Li_run_L3, if_pos (by decide), wr_k (by omega) (by omega), nm_k, w2, Li_run_L3, if_pos (by decide), wr_k (by omega) (by omega), nm_k, w3, Li_run_L3, if_pos (by decide), wr_k (by omega) (by omega), nm_k, w4, Li_run_L3, if_neg (by decide), nm_k, nm_k]
  rfl
theorem lives_r (hp : p ≤ 19) (h : PR p σ τ W N D E) (hd : DT τ) (hy : YS 30 σ τ W N) (h7 : σ 30 7 ≠ 0) {a : Int} (h0 : 0 ≤ a) (h1 : a ≤ 9999) :
    ∃ (σ' τ' : Sg) (k : Nat), Li_run p 30 a σ = some (0, σ') ∧ M_runsYears a τ = some (0, τ') ∧ LQ p σ' τ' W N D E k k k ∧ k ≤ 300 ∧ RFH p 0 60 σ σ' ∧ LFM τ τ' := by
  rcases hy with ⟨z, _⟩ | ⟨_, _, S, O, hS, hO, y1, y2, y3, hB⟩
  · exact absurd z h7
  · have q := lv_q hp h hd h0 h1
    have m36 : lvM τ a 0 36 = 0 := by unfold lvM; exact up_e
    have hs : LSC 30 (lvH σ a) (lvM τ a) (cl 60 (σ (30 + 1))) (cl 60 (σ (30 + 2))) (cl 60 (σ (30 + 3))) (cl 60 (σ (30 + 4))) (cl 60 (σ (30 + 5))) (cl 270 (fun k => τ 5 (177 + k))) O :=
      LSC.mk hO ((lvH_5 (by omega)).trans y3) (fun x z => (lvH_5 (by omega)).trans (cl_v z).symm) (fun x z => (lvH_5 (by omega)).trans (cl_v z).symm) (fun x z => (lvH_5 (by omega)).trans (cl_v z).symm) (fun x z => (lvH_5 (by omega)).trans (cl_v z).symm) (fun x z => (lvH_5 (by omega)).trans (cl_v z).symm) (fun k z => (lvM_5 (by omega)).trans (cl_v (f := fun k => τ 5 (177 + k)) z).symm)
    have r := run_b (D := D) (E := E) hp (y := 30) (by omega) hO 31 3 0 S 0 O hB (by omega) hS (by omega) 19 fu 0 0 0 _ _ (by omega) (by unfold fu; omega) (by omega) (fun _ => rfl) hs q (by omega) (by omega) m36
    have u : Li_run p 30 a σ = RUN p 30 0 0 (lvH σ a) := by
      rw [Li_run, show Li_run_L3 p 30 a (fun x5 x6 s7 => (Li_run_L39 p 30 fu x5 x6 s7)) fu 0 σ = _ from li_3 (n := 99994)]; rfl
    have v : M_runsYears a τ = bd (M_doAll_L2 (M_doAll 19) S fu 0 (lvM τ a)) (fun _ s => some (0, s)) := by
      rw [M_runsYears, nm_k, nm_k, nm_k, nm_k, nm_k, nm_k, nm_k, zb_0, nm_k, rd_k (by omega) (by omega), show Int.toNat 176 = 176 from rfl]
      have e : lvM τ a 5 176 = S := (lvM_5 (by omega)).trans y2
      unfold lvM at e ⊢
      rw [e, doAll_s]
    rcases r with ⟨σ', τ', k', i', a1, a2, a3, a4, a5, a6, a7, a8⟩ | ⟨σ', τ', k', a1, a2, a3, a4, a5, a6, a7⟩
    · have h2 := hs.r (p := p) (by omega) a7 a8
      refine ⟨σ', τ', k', u.trans (a1.trans ?_), by rw [v]; exact (congrArg (fun w => bd w _) a2).trans (bd_s ..), a4, a5, lvH_f.r.tr a7 (x1 := 0) (z1 := 60) (by omega) (by omega), lvM_f.tr a8⟩
      rw [RUN, fuS (by omega), Li_run_L39, if_pos (by omega), Ye_isOrder, h2.or, if_neg (by omega), if_neg (by omega), bd_s, if_pos rfl]
    · exact ⟨σ', τ', k', u.trans a1, by rw [v]; exact (congrArg (fun w => bd w _) a2).trans (bd_s ..), a4, a5, lvH_f.r.tr a6 (x1 := 0) (z1 := 60) (by omega) (by omega), lvM_f.tr a7⟩
end
