/-! a step by both, whatever it holds -/
section
variable {n R : Nat} {B : Nat → Int} {b : Nat → Nat} {W N : Nat}
theorem BLK_cgY {nn d a b' x y O S : Nat} {σ τ σ' τ' : Sg} (h : BQ W N σ τ nn d a b' x y) (hs : ∀ i, x ≤ i → i < y → σ' 37 i = σ 37 i ∧ σ' 38 i = σ 38 i ∧ σ' 39 i = σ 39 i ∧ σ' 40 i = σ 40 i ∧ σ' 41 i = σ 41 i) (ht : ∀ k, 9 * a ≤ k → k < 9 * b' → τ' 5 (1965 + k) = τ 5 (1965 + k)) : BQ W N σ' τ' nn d a b' x y := BLK.cg hs ht h
set_option maxHeartbeats 2000000 in
theorem step_of {m : Nat} (hm0 : m ≤ 1000) (hR : R ≤ 301) (hQ : SEQP n R B b W N m) : STEPP n R B b W N (m + 1) := by
  intro w nn j f i k v p S O σ τ hw hn hm hf hi h hN hy h0 h23
  obtain ⟨nn, rfl⟩ : ∃ x, nn = x + 1 := ⟨nn - 1, by omega⟩
  have hj := h.jR
  obtain ⟨f, rfl⟩ : ∃ x, f = x + 1 := ⟨f - 1, by omega⟩
  have hy' := hy
  obtain ⟨y1, y2, y3, y4, y5, y6⟩ := hy'
  show SOUT n R B b W N w S O j (f + 1) i (M_readStep_B (M_readStep nn) (w : Nat) τ) σ τ
  by_cases hk : k = 2 ∧ ∃ κ, KQ v κ
  · obtain ⟨hk2, κ, hκ⟩ := hk
    subst hk2
    obtain ⟨e, he, eM, eX⟩ := hd_v (w := w) h hκ (M_readStep nn)
    have hL := l6_step (f := f) h hR (by omega) hi
    have hta : CU n R B b j 2 v p σ (up_s τ 0 26 (S + 1 : Nat)) := h.cg (fun _ _ _ => rfl) (fun o x z => by rw [up_v, if_neg (by omega)])
    obtain ⟨σ1, τ1, k1, v1, p1, t1, t2, c1, f1, g1, t6, t7⟩ := hta.take (by omega)
    have gA : FYM S τ (up_s τ 0 26 (S + 1 : Nat)) := fun o x q1 q2 => by rw [up_v, if_neg (by omega)]
    have n6 : σ1 36 6 = (S : Nat) := by rw [f1.e (by omega)]; exact y2
    have n5 : σ1 36 5 = (O : Nat) := by rw [f1.e (by omega)]; exact y1
    have nd : obs σ1 O = w := by rw [obs_c (fun i _ => ob_c (f1.e (by omega)) (f1.e (by omega)))]; exact y6
    rw [eX, YR_readStep_J64, t1, bd_s, n6] at hL
    by_cases cS : S = 30
    · rw [if_neg (by omega), rej_h t6, bd_s, zb_0, bd_s, if_pos rfl] at hL
      refine .inr ⟨fh σ1 6 p, fm τ 6 p, 0, hL, ?_, fl_2 _ _ _ (by omega), (f1.tr (fl_h _ _ _)).y, (fl_m _ _ _).y⟩
      rw [eM, M_readStep_J30, if_pos h.ok, y3, if_pos (by omega), h.ap, fail_m h.ok, bd_s, M_readStep_J56, fm_12, if_neg (by omega), M_readStep_J82, fm_12, if_pos (by omega)]
    · rw [if_pos (by omega)] at hL
      by_cases cw : OPV v ∧ w = 3
      · have e1 : e = 1 := by
          rcases he with he | he
          · exact he.1
          · exact absurd cw.1 he.2
        rw [if_neg (by omega), depth_h n5 (by omega), bd_s, nd, if_neg (by omega), rej_h t6, bd_s, zb_0, bd_s, if_pos rfl] at hL
        refine .inr ⟨fh σ1 7 p, fm τ 7 p, 0, hL, ?_, fl_2 _ _ _ (by omega), (f1.tr (fl_h _ _ _)).y, (fl_m _ _ _).y⟩
        rw [eM, M_readStep_J30, if_pos h.ok, y3, if_neg (by omega), M_readStep_J56, if_pos h.ok, if_neg (by omega), if_pos (by omega), h.ap, fail_m h.ok, bd_s, M_readStep_J82, fm_12, if_pos (by omega)]
      · have eJ : L6 (f + 1) i σ = bd (YR_readStep_J104 8 36 (v : Nat) σ1) (fun r5 s6 => if r5 = 0 then some (0, s6) else L6 f ((i + 1 : Nat) : Int) s6) := by
          rw [hL]
          rcases he with he | he
          · rw [if_neg (by omega), depth_h n5 (by omega), bd_s, nd, if_pos]
            have : w ≠ 3 := fun z => cw ⟨he.2, z⟩
            omega
          · rw [if_pos he.1]
        have ha : 1965 + 9 * S + 8 < 2235 := by omega
        have eR : M_readStep_B (M_readStep nn) (w : Nat) τ = bd (M_readRest ((1965 + 9 * S : Nat) : Int) (up_s τ1 5 (1965 + 9 * S) κ)) (fun r s => TLm s (fun s17 => M_readStep_L141 (M_readStep nn) (w : Nat) e ((1965 + 9 * S : Nat) : Int) (fun x22 x23 s24 => M_readStep_J169 (M_readStep nn) x22 x23 s24) fu s17)) := by
          rw [eM, M_readStep_J30, if_pos h.ok, y3, if_neg (by omega), M_readStep_J56, if_pos h.ok]
          have e82 : M_readStep_J82 (M_readStep nn) (w : Nat) κ e τ = bd (M_readRest ((1965 + 9 * S : Nat) : Int) (up_s τ1 5 (1965 + 9 * S) κ)) (fun r s => TLm s (fun s17 => M_readStep_L141 (M_readStep nn) (w : Nat) e ((1965 + 9 * S : Nat) : Int) (fun x22 x23 s24 => M_readStep_J169 (M_readStep nn) x22 x23 s24) fu s17)) := by
            rw [M_readStep_J82, h.ok, if_neg (by omega), y3, w_p (x := 9 * (S : Int)) (n := 9 * S) (by omega) (by omega), w_p (x := 1965 + ((9 * S : Nat) : Int)) (n := 1965 + 9 * S) (by omega) (by omega), nm_k, w_p (x := (S : Int) + 1) (n := S + 1) (by omega) (by omega), nm_k, t2, bd_s, wr_k (by omega) (by omega), Int.toNat_natCast]; rfl
          rcases he with he | he
          · rw [if_neg (by omega), if_neg, e82]
            have : w ≠ 3 := fun z => cw ⟨he.2, z⟩
            omega
          · rw [if_pos he.1, e82]
        have c2 := c1.u5 (1965 + 9 * S) κ
        have g2 : FYM S τ (up_s τ1 5 (1965 + 9 * S) κ) := (gA.tr g1.y (Nat.le_refl S)).tr (fun o x q1 q2 => by rw [up_v, if_neg (by omega)]) (Nat.le_refl S)
        have nb2 : NB 8 0 σ1 (up_s τ1 5 (1965 + 9 * S) κ) W N := hN.y (O := O) f1.y g2
        have s26 : up_s τ1 5 (1965 + 9 * S) κ 0 26 = (S + 1 : Nat) := by rw [up_o (by omega), g1.e0 (by omega), up_e]
        have bad : ∀ {σ' τ' : Sg}, L6 (f + 1) i σ = some (0, σ') → M_readStep_B (M_readStep nn) (w : Nat) τ = TLm τ' (fun s17 => M_readStep_L141 (M_readStep nn) (w : Nat) e ((1965 + 9 * S : Nat) : Int) (fun x22 x23 s24 => M_readStep_J169 (M_readStep nn) x22 x23 s24) fu s17) → FLT σ' τ' → FYH 0 σ σ' → FYM S τ τ' → SOUT n R B b W N w S O j (f + 1) i (M_readStep_B (M_readStep nn) (w : Nat) τ) σ τ := fun {σ' τ'} z1 z2 z3 z4 z5 => by
          refine .inr ⟨σ', up_s τ' 5 (1965 + 9 * S + 8) (τ' 0 26), 0, z1, ?_, z3.cg (by rw [up_o (by omega)]) (by rw [up_o (by omega)]), z4, (z5.tr (fun o x q1 q2 => by rw [up_v, if_neg (by omega)] : FYM S τ' _) (Nat.le_refl S)).w⟩
          rw [z2, tl_b z3.b, show fu = 99999 + 1 from rfl, l141_b z3.b]
          exact j169_b z3.b _ _ ha
        rcases or_any c2 nb2 (S := S) (O := O) ⟨n5, n6, by omega, by omega⟩ hκ up_e with ⟨σ3, τ3, j3, k3, v3, p3, a1, a2, a3, c3, a5, a6, a7, a8, a9, a10, a11⟩ | ⟨σ3, τ3, a1, a2, a3, a4, a5⟩
        · have g3 : FYM S τ τ3 := g2.tr a9.m (Nat.le_refl S)
          rw [a2, bd_s] at eR
          rw [YR_readStep_J104, a1, bd_s, if_neg i10] at eJ
          rcases c3.cls with ⟨σ4, τ4, x4, y4', ⟨k4, v4, p4, c4⟩, f4, g4⟩ | ⟨σ4, τ4, x4, y4', n4, f4, g4⟩
          · rw [x4, bd_s, if_neg i10, bd_s, if_neg i10] at eJ
            rw [c3.tl, y4', bd_s] at eR
            have fH : FYH O σ σ4 := (f1.y.tr a8 (Nat.le_refl O)).tr f4.y (Nat.le_refl O)
            have gM : FYM S τ τ4 := g3.tr g4.y (Nat.le_refl S)
            have o4 : σ4 36 5 = (O + 1 : Nat) := by rw [f4.e (by omega)]; exact a5
            have s4 : σ4 36 6 = (S + 1 : Nat) := by rw [f4.e (by omega)]; exact a6
            have t4 : τ4 0 26 = (S + 1 : Nat) := by rw [g4.e0 (by omega), a9 _ _ (by omega) (by omega)]; exact s26
            have d4 : obs σ4 O = w := by rw [fH.obs (Nat.le_refl O)]; exact y6
            have m4 : σ4 41 O = -1 := by rw [f4.e (by omega)]; exact a7
            by_cases co : OPV v
            · have e1 : e = 1 := by
                rcases he with he | he
                · exact he.1
                · exact absurd co he.2
              have hw3 : w ≠ 3 := fun z => cw ⟨co, z⟩
              have hop : OPQ W N S O σ4 τ4 := by
                have := a10 co
                exact OPN.cg this (f4.e (by omega)) (f4.e (by omega)) (f4.e (by omega)) (f4.e (by omega)) (fun k _ _ => g4.e (by omega))
              have hoo := opn_o hop
              have ob4 : ob σ4 O = 1 := by unfold ob; rw [if_pos ⟨hoo, m4⟩]
              have yq4 : YQ (w + 1) (S + 1) (O + 1) σ4 τ4 := ⟨o4, s4, t4, by omega, by omega, by rw [obs.eq_2, d4, ob4]⟩
              rcases hQ w nn (j3 + 1) f (i + 1) fu k4 v4 p4 (S + 1) (O + 1) σ4 τ4 e ((1965 + 9 * S : Nat) : Int) (fun x22 x23 s24 => M_readStep_J169 (M_readStep nn) x22 x23 s24) (by omega) (by omega) (by omega) (by unfold fu; omega) (by omega) (by omega) c4 (hN.y fH gM) yq4 (by omega) with ⟨σ5, τ5, S5, O5, f5, i5, j5, p5, b1, b2, b3, b4, b5, c5, yq5, b8, b9, b10, b11, b12⟩ | ⟨σ5, τ5, b1, b2, b3, b4, b5⟩
              · obtain ⟨z1, z2, z3, z4, z5, z6⟩ := yq5
                have hj5 := c5.jR
                obtain ⟨f5, rfl⟩ : ∃ x, f5 = x + 1 := ⟨f5 - 1, by omega⟩
                have hL5 := l6_step (f := f5) c5 hR (by omega) b4
                obtain ⟨σ6, τ6, k6, v6, p6, u1, u2, c6, f6, g6, u6, u7⟩ := c5.take (by omega)
                have q5 : σ6 36 5 = (O5 : Nat) := by rw [f6.e (by omega)]; exact z1
                have q6 : σ6 36 6 = (S5 : Nat) := by rw [f6.e (by omega)]; exact z2
                have obe : ∀ i, ob σ6 i = ob σ5 i := fun i => ob_c (f6.e (by omega)) (f6.e (by omega))
                have obO : ob σ5 O = 1 := by rw [b11.ob (by omega)]; exact ob4
                have obsO : obs σ5 (O + 1) = w + 1 := by rw [b11.obs (Nat.le_refl _), obs.eq_2, d4, ob4]
                have hl : Ye_latestOpen 36 σ6 = some ((O : Int), σ6) := latest_h q5 (by omega) (by omega) (by rw [obe]; exact obO) (fun i h1 h2 => by rw [obe]; exact obs_0 (x := O + 1) (by rw [z6, obsO]) h1 h2)
                obtain ⟨σ7, r1, r2, r3, r4, r5, r6, r7⟩ := rend_h q5 q6 (by omega) z4 hl (by omega)
                have c7 : CU n R B b (j5 + 1) k6 v6 p6 σ7 τ6 := c6.cg (fun o x z => r7 o x (by omega) (by omega) (by omega)) (fun _ _ _ => rfl)
                have eY5 : YR_readStep 8 36 σ5 = bd (bd (To_takeClosing σ7) (fun r7 s8 => zb r7 (some (r7, s8)))) (fun r7 s8 => zb r7 (some (r7, s8))) := by
                  rw [YR_readStep, c5.kn, bd_s, if_pos rfl, if_neg (by omega), if_neg (by omega), YR_readStep_J22, if_pos (by omega), depth_h z1 (by omega), bd_s, z6, if_pos (by omega), u1, bd_s, r1]
                have eM5 : M_readStep_J169 (M_readStep nn) e ((1965 + 9 * S : Nat) : Int) τ5 = TLm τ6 (fun s33 => some (0, up_s s33 5 (1965 + 9 * S + 8) (s33 0 26))) := by
                  rw [M_readStep_J169, if_neg (by omega), is_end c5.td, bd_s, if_pos (show (2 : Nat) = 2 ∧ (23 : Nat) = 23 from ⟨rfl, rfl⟩), must_1 c5.ok u2, bd_s, e_8 ha]
                  refine bd_c (fun r30 s31 => bd_c (fun r32 s33 => ?_))
                  rw [w5 ha (by omega)]
                have fH6 : FYH O σ σ6 := (fH.tr b11 (by omega)).tr f6.y (Nat.le_refl O)
                have fH7 : FYH O σ σ7 := fH6.tr (fun o x h1 h2 h3 => r7 o x h2 (by omega) (by omega) : FYH O σ6 σ7) (Nat.le_refl O)
                have gM6 : FYM S τ τ6 := (gM.tr b12 (by omega)).tr g6.y (Nat.le_refl S)
                rw [eY5] at hL5
                have eR := (eR.trans b2).trans eM5
                rw [c7.tl] at eR
                rcases c7.cls with ⟨σ8, τ8, x8, y8, ⟨k8, v8, p8, c8⟩, f8, g8⟩ | ⟨σ8, τ8, x8, y8, n8, f8, g8⟩
                · rw [x8, bd_s, zb_1, bd_s, zb_1, bd_s, if_neg i10] at hL5
                  rw [y8, bd_s] at eR
                  have t8 : τ8 0 26 = (S5 : Nat) := by rw [g8.e0 (by omega), g6.e0 (by omega)]; exact z3
                  have fs : ∀ o k, o ≠ 5 → σ8 o k = σ7 o k := fun o k z => f8.e z
                  have f68 : ∀ o k, o ≠ 5 → ¬ (o = 36 ∧ (k = 5 ∨ k = 6)) → ¬ (37 ≤ o ∧ o ≤ 41 ∧ k = O5) → ¬ (o = 41 ∧ k = O) → σ8 o k = σ5 o k := fun o k h1 h2 h3 h4 => by rw [fs o k h1, r7 o k h2 h3 h4]; exact f6.e h1
                  have m8 : σ8 41 O = (O5 : Nat) := by rw [fs _ _ (by omega)]; exact r6
                  have ob8 : ∀ i, O ≤ i → i < O5 + 1 → ob σ8 i = 0 := fun i h1 h2 => by
                    by_cases w1 : i = O5
                    · unfold ob; rw [w1, fs 37 _ (by omega), r4, if_neg (by omega)]
                    · by_cases w2 : i = O
                      · unfold ob; rw [w2, m8, if_neg (by omega)]
                      · rw [ob_c (f68 37 i (by omega) (by omega) (by omega) (by omega)) (f68 41 i (by omega) (by omega) (by omega) (by omega))]
                        exact obs_0 (x := O + 1) (by rw [z6, obsO]) (by omega) (by omega)
                  have fH8 : FYH O σ σ8 := fH7.tr f8.y (Nat.le_refl O)
                  have tv : ∀ k, up_s τ8 5 (1965 + 9 * S + 8) (τ8 0 26) 5 (1965 + k) = if k = 9 * S + 8 then ((S5 : Nat) : Int) else τ5 5 (1965 + k) := fun k => by
                    rw [up_v, t8, g8.e (by omega), g6.e (by omega)]
                    by_cases w1 : k = 9 * S + 8
                    · rw [if_pos (by omega), if_pos w1]
                    · rw [if_neg (by omega), if_neg w1]
                  refine .inl ⟨σ8, up_s τ8 5 (1965 + 9 * S + 8) (τ8 0 26), S5, O5 + 1, f5, i5 + 1, j5 + 1 + 1, k8, v8, p8, eJ.trans (b1.trans hL5), eR, by omega, by omega, by omega, c8.u5 _ _, ⟨?_, ?_, ?_, z4, by omega, ?_⟩, .inr ⟨O5, rfl, by omega, by omega, by omega, ?_, ?_, m8, ?_, ?_, ?_⟩, fH8, ?_⟩
                  · rw [fs _ _ (by omega)]; exact r2
                  · rw [fs _ _ (by omega)]; exact r3
                  · rw [up_o (by omega)]; exact t8
                  · rw [obs_z (show O ≤ O5 + 1 by omega) ob8, fH8.obs (Nat.le_refl O)]; exact y6
                  · refine OPN.cg hop ?_ ?_ ?_ ?_ (fun k h1 h2 => ?_)
                    · rw [f68 37 O (by omega) (by omega) (by omega) (by omega)]; exact b11 _ _ (by omega) (by omega) (by omega)
                    · rw [f68 38 O (by omega) (by omega) (by omega) (by omega)]; exact b11 _ _ (by omega) (by omega) (by omega)
                    · rw [f68 39 O (by omega) (by omega) (by omega) (by omega)]; exact b11 _ _ (by omega) (by omega) (by omega)
                    · rw [f68 40 O (by omega) (by omega) (by omega) (by omega)]; exact b11 _ _ (by omega) (by omega) (by omega)
                    · show up_s τ8 5 (1965 + 9 * S + 8) (τ8 0 26) 5 (1965 + k) = τ4 5 (1965 + k)
                      rw [tv, if_neg (by omega)]; exact b12 _ _ (by omega) (by omega)
                  · show up_s τ8 5 (1965 + 9 * S + 8) (τ8 0 26) 5 (1965 + (9 * S + 8)) = _
                    rw [tv, if_pos rfl]
                  · rw [fs _ _ (by omega)]; exact r4
                  · rw [fs _ _ (by omega)]; exact r5
                  · have b8' : BQ W N σ5 τ5 (S5 - S) (3 - w - 1) (S + 1) S5 (O + 1) O5 := by
                      rw [show S5 - S = S5 - (S + 1) + 1 by omega, show 3 - w - 1 = 3 - (w + 1) by omega]; exact b8
                    exact BLK_cgY (O := 0) (S := 0) b8' (fun i h1 h2 => ⟨f68 37 i (by omega) (by omega) (by omega) (by omega), f68 38 i (by omega) (by omega) (by omega) (by omega), f68 39 i (by omega) (by omega) (by omega) (by omega), f68 40 i (by omega) (by omega) (by omega) (by omega), f68 41 i (by omega) (by omega) (by omega) (by omega)⟩) (fun k h1 h2 => by rw [tv, if_neg (by omega)])
                  · exact (gM6.tr g8.y (Nat.le_refl S)).tr (fun o x q1 q2 => by rw [up_v, if_neg (by omega)] : FYM S τ8 _) (Nat.le_refl S)
                · rw [x8, bd_s, zb_0, bd_s, zb_0, bd_s, if_pos rfl] at hL5
                  rw [y8, bd_s] at eR
                  exact .inr ⟨σ8, _, 0, eJ.trans (b1.trans hL5), eR, n8.cg (by rw [up_o (by omega)]) (by rw [up_o (by omega)]), (fH7.tr f8.y (Nat.le_refl O)).w, ((gM6.tr g8.y (Nat.le_refl S)).tr (fun o x q1 q2 => by rw [up_v, if_neg (by omega)] : FYM S τ8 _) (Nat.le_refl S)).w⟩
              · have eR := (eR.trans b2).trans (j169_b b3.b (M_readStep nn) e ha)
                exact .inr ⟨σ5, _, 0, eJ.trans b1, eR, b3.cg (by rw [up_o (by omega)]) (by rw [up_o (by omega)]), fH.w.tr b4 (Nat.le_refl 0), (gM.w.tr b5 (Nat.le_refl 0)).tr (fun o x q1 q2 => by rw [up_v, if_neg (by omega)] : FYM 0 τ5 _) (Nat.le_refl 0)⟩
            · have e0 : e = 0 := by
                rcases he with he | he
                · exact absurd he.2 co
                · exact he.1
              have hpl : PLQ W N S O σ4 τ4 := by
                have := a11 co
                exact PLN.cg this (f4.e (by omega)) (f4.e (by omega)) (f4.e (by omega)) (f4.e (by omega)) (fun k _ _ => g4.e (by omega))
              have hpo : σ4 37 O ≠ 20 ∧ σ4 37 O ≠ 21 ∧ σ4 37 O ≠ 22 := by
                have := pln_o hpl
                omega
              have ob4 : ob σ4 O = 0 := by unfold ob; rw [if_neg (by omega)]
              have eR' : M_readStep_B (M_readStep nn) (w : Nat) τ = some (0, up_s τ4 5 (1965 + 9 * S + 8) (S + 1 : Nat)) := by
                rw [eR, show fu = 99999 + 1 from rfl, M_readStep_L141, if_pos e0, M_readStep_J169, if_pos e0, e_8 ha, w5 ha (by omega), t4]
              refine .inl ⟨σ4, up_s τ4 5 (1965 + 9 * S + 8) (S + 1 : Nat), S + 1, O + 1, f, i + 1, j3 + 1, k4, v4, p4, eJ, eR', by omega, by omega, by omega, c4.u5 _ _, ⟨o4, s4, by rw [up_o (by omega)]; exact t4, by omega, by omega, by rw [obs.eq_2, d4, ob4]; omega⟩, .inl ⟨rfl, rfl, ?_, ?_⟩, fH, gM.tr (fun o x q1 q2 => by rw [up_v, if_neg (by omega)] : FYM S τ4 _) (Nat.le_refl S)⟩
              · refine PLN.cg hpl rfl rfl rfl rfl (fun k h1 h2 => ?_)
                show up_s τ4 5 (1965 + 9 * S + 8) _ 5 (1965 + k) = τ4 5 (1965 + k)
                rw [up_v, if_neg (by omega)]
              · show up_s τ4 5 (1965 + 9 * S + 8) _ 5 (1965 + (9 * S + 8)) = _
                rw [up_v, if_pos (by omega)]
          · rw [x4, bd_s, if_pos rfl, bd_s, if_pos rfl] at eJ
            rw [c3.tl, y4', bd_s] at eR
            refine bad eJ ?_ n4 ((f1.y.tr a8 (Nat.le_refl O)).tr f4.y (Nat.le_refl O)).w (g3.tr g4.y (Nat.le_refl S))
            rw [eR, tl_b n4.b]
        · rw [a2, bd_s] at eR
          rw [YR_readStep_J104, a1, bd_s, if_pos rfl, bd_s, if_pos rfl] at eJ
          exact bad eJ eR a3 (f1.y.tr a4 (Nat.le_refl O)).w (g2.tr a5.m (Nat.le_refl S))
  · obtain ⟨eX, eM⟩ := hd_m h hy hk h23 (M_readStep nn)
    obtain ⟨f', fa, fb, fc⟩ := h.mis
    have bb : 0 < fm τ f' p 0 12 := by rw [fm_12]; exact fa
    have eR : M_readStep_B (M_readStep nn) (w : Nat) τ = some (0, fm τ f' p) := by rw [eM, fc, bd_s, j30_b bb]
    by_cases ck : k = 0
    · subst ck
      have hw1 := h0 rfl
      refine .inr ⟨fh σ f' p, fm τ f' p, 0, ?_, eR, fl_2 _ _ _ fa, (fl_h _ _ _).y, (fl_m _ _ _).y⟩
      rw [l6_end h, YR_readAll_J37, depth_h y1 (by omega), bd_s, y6, if_pos (by omega), fb, bd_s, zb_0]
    · have hL := l6_step (f := f) h hR ck hi
      rw [eX, fb, bd_s, zb_0, bd_s, if_pos rfl] at hL
      exact .inr ⟨fh σ f' p, fm τ f' p, 0, hL, eR, fl_2 _ _ _ fa, (fl_h _ _ _).y, (fl_m _ _ _).y⟩
end
