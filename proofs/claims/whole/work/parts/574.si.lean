/-! the parts of a province: people -/
def MPT (r : Int) (τ : Sg) : Rs := bd (M_isTemper τ) (fun r3 s4 => bd (M_perhaps r3 s4) (fun r5 s6 => if r5 = 0 then M_readPerson_J32 r 50 s6 else bd (M_count 0 999 s6) (fun r23 s24 => M_readPerson_J32 r r23 s24)))
section
variable {τ : Sg}
theorem p61_b (h : 0 < τ 0 12) (r x y z : Int) : M_readPerson_J61 r x y z τ = some (0, τ) := by rw [M_readPerson_J61, if_pos h]
theorem p32_b (h : 0 < τ 0 12) (r x : Int) : M_readPerson_J32 r x τ = some (0, τ) := by
  obtain ⟨q, hq⟩ := barber_t τ
  obtain ⟨y, hy⟩ := keeps_t τ
  rw [M_readPerson_J32, hq, bd_s, perh_b h, bd_s, hy, bd_s, perh_b h, bd_s, if_pos rfl, p61_b h]
theorem mpt_b (h : 0 < τ 0 12) (r : Int) : MPT r τ = some (0, τ) := by
  obtain ⟨q, hq⟩ := temper_t τ
  rw [MPT, hq, bd_s, perh_b h, bd_s, if_pos rfl, p32_b h]
def apM (τ : Sg) (N : Nat) (g S e : Int) : Sg := up_s (up_s (up_s (up_s (up_s τ 5 (1813 + N) g) 5 (1819 + N) e) 5 (1825 + N) S) 5 (1831 + N) S) 5 1789 (N + 1 : Nat)
theorem apM_v {N : Nat} {g S e : Int} (k : Nat) : apM τ N g S e 5 k = if k = 1789 then ((N + 1 : Nat) : Int) else if k = 1831 + N then S else if k = 1825 + N then S else if k = 1819 + N then e else if k = 1813 + N then g else τ 5 k := by
  unfold apM
  rw [up_v, up_v, up_v, up_v, up_v]
  by_cases z1 : k = 1789
  · rw [if_pos ⟨rfl, z1⟩, if_pos z1]
  · rw [if_neg (by omega), if_neg z1]
    by_cases z2 : k = 1831 + N
    · rw [if_pos ⟨rfl, z2⟩, if_pos z2]
    · rw [if_neg (by omega), if_neg z2]
      by_cases z3 : k = 1825 + N
      · rw [if_pos ⟨rfl, z3⟩, if_pos z3]
      · rw [if_neg (by omega), if_neg z3]
        by_cases z4 : k = 1819 + N
        · rw [if_pos ⟨rfl, z4⟩, if_pos z4]
        · rw [if_neg (by omega), if_neg z4]
          by_cases z5 : k = 1813 + N
          · rw [if_pos ⟨rfl, z5⟩, if_pos z5]
          · rw [if_neg (by omega), if_neg z5]
theorem apM_o {N : Nat} {g S e : Int} {o k : Nat} (h : o ≠ 5) : apM τ N g S e o k = τ o k := by
  unfold apM
  rw [up_o h, up_o h, up_o h, up_o h, up_o h]
theorem apM_g {N : Nat} {g S e : Int} : GOM τ (apM τ N g S e) := (GOM.u5 (by omega)).tr ((GOM.u5 (by omega)).tr ((GOM.u5 (by omega)).tr ((GOM.u5 (by omega)).tr (GOM.u5 (by omega)))))
theorem p61_m {N : Nat} (h0 : τ 0 12 = 0) (hn : τ 5 1789 = (N : Nat)) (hN : N < 6) {e : Int} (he : e = 0 ∨ e = 1) (g S : Int) : M_readPerson_J61 (N : Nat) g e S τ = some (0, apM τ N g S e) := by
  have a13 : w32 (1813 + (N : Int)) = ((1813 + N : Nat) : Int) := by rw [w32_i (by omega) (by omega)]; omega
  have a19 : w32 (1819 + (N : Int)) = ((1819 + N : Nat) : Int) := by rw [w32_i (by omega) (by omega)]; omega
  have a25 : w32 (1825 + (N : Int)) = ((1825 + N : Nat) : Int) := by rw [w32_i (by omega) (by omega)]; omega
  have a31 : w32 (1831 + (N : Int)) = ((1831 + N : Nat) : Int) := by rw [w32_i (by omega) (by omega)]; omega
  have key : ∀ x : Int, M_readPerson_J100 (N : Nat) S (w32 (1819 + (N : Int))) x (up_s τ 5 (1813 + N) g) = some (0, apM τ N g S x) := fun x => by
    rw [a19, M_readPerson_J100, wr_k (by omega) (by omega), Int.toNat_natCast, a25, wr_k (by omega) (by omega), Int.toNat_natCast, a31, wr_k (by omega) (by omega), Int.toNat_natCast, rd_k (by omega) (by omega), wr_k (by omega) (by omega), show Int.toNat 1789 = 1789 from rfl]
    rw [up_k (by omega), up_k (by omega), up_k (by omega), up_k (by omega), hn, w32_i (by omega) (by omega), suc]; rfl
  rw [M_readPerson_J61, h0, if_neg (by omega), a13, wr_k (by omega) (by omega), Int.toNat_natCast]
  rcases he with rfl | rfl
  · rw [if_pos rfl, key]
  · rw [if_neg i10, key]
end
section
variable {n R j k v p : Nat} {B : Nat → Int} {b : Nat → Nat} {σ τ : Sg} {W N D E : Nat}
theorem CU.am5 (h : CU n R B b j k v p σ τ) {N : Nat} {g S e : Int} : CU n R B b j k v p σ (apM τ N g S e) := h.cg (fun _ _ _ => rfl) (fun o x q => apM_o (by omega))
theorem p2_cast {S W : Nat} (h : S < 2 ^ W) : 0 ≤ (S : Int) ∧ (S : Int) < 2 ^ W := by
  have e : ((2 ^ W : Nat) : Int) = (2 : Int) ^ W := by rw [Int.natCast_pow]; rfl
  rw [← e]; omega
set_option maxHeartbeats 1000000 in
theorem rd_person (h : CU n R B b j k v p σ τ) (hq : PQ σ τ W N D E) (hk : k ≠ 0) :
    ROUT n R B b j (bd (To_take σ) (fun r7 s8 => if s8 19 11 < 6 then bd (PR_readPerson 19 s8) (fun r9 s10 => zb r9 (some (r9, s10))) else bd (To_reject 6 s8) (fun r11 s12 => zb r11 (some (r11, s12))))) (fun K => bd (M_readPerson τ) (fun r s => TLm s K)) σ τ := by
  have bN := hq.pr.bN
  obtain ⟨σ1, τ1, k1, v1, p1, t1, t2, c1, f1, g1, t6, t7⟩ := h.take hk
  have q1 := hq.t f1 g1
  have eM : M_readPerson τ = bd (M_readNew 1 6 τ) (fun r1 s2 => MPT r1 s2) := rfl
  rw [t1, bd_s, q1.n]
  by_cases cN : N = 6
  · refine .inr ⟨fh σ1 6 p, fm τ 6 p, ?_, fun K => ?_, fl_2 _ _ _ (by omega), (f1.tr (fl_h _ _ _)).g, (fl_m _ _ _).g⟩
    · rw [if_neg (by omega), rej_h t6, bd_s, zb_0]
    · have b0 : 0 < fm τ 6 p 0 12 := by rw [fm_12]; omega
      show bd (M_readPerson τ) (fun r s => TLm s K) = _
      rw [eM, show M_readNew 1 6 τ = _ from new_f (s := 1) (cap := 6) h (by omega) hq.n' cN, bd_s, mpt_b b0, bd_s, tl_b b0]
  · have hN : N < 6 := by omega
    have eN : M_readNew 1 6 τ = RNT 1 N τ1 := new_m (s := 1) (cap := 6) h (by omega) hq.n' cN t2
    rw [if_pos (by omega)]
    rcases c1.newN q1.nb (s := 1) (M := N) (by omega) (by omega) with ⟨σ2, τ2, n1, n2, n3, ⟨⟨k2, v2, p2, c2⟩, f2, g2⟩, hnc⟩ | ⟨σ2, τ2, n2, n3, n4, f2, g2⟩
    · have eR : M_readPerson τ = MPT (N : Nat) τ2 := by rw [eM, eN, show RNT 1 N τ1 = _ from n3, bd_s]
      have eP : M_readPerson τ = MPK (if k2 = 2 ∧ v2 = 6 then 1 else 0) 0 999 50 τ2 (fun x s => M_readPerson_J32 (N : Nat) x s) := by
        rw [eR, MPT, is_temper c2.td, bd_s]; rfl
      have eX : PR_readPerson 19 σ1 = bd (PR_takePerhaps ((6 : Nat) : Int) 0 999 50 σ2) (fun r3 s4 => if r3 = -1 then some (0, s4) else bd (To_keyNext s4) (fun r5 s6 => if r5 = 7 then PR_readPerson_J52 19 (v1 : Nat) r3 1 s6 else PR_readPerson_J52 19 (v1 : Nat) r3 0 s6)) := by
        rw [PR_readPerson, n2, bd_s, if_neg (by omega)]; rfl
      have gA : GOM τ τ2 := g1.g.tr ((GOM.u8 (by omega)).tr g2.g)
      have fA : T5 σ σ2 := f1.tr f2
      have nb2 : NB 19 4 σ2 τ2 W N := (q1.nb.nw _).t f2 g2
      rcases c2.perh 6 (x := 0) (y := 999) (w := 50) (by omega) (by omega) (by omega) with ⟨σ3, τ3, g, j3, k3, v3, p3, l3, gl, gu, x3, y3, c3, f3, g3⟩ | ⟨σ3, τ3, x3, y3, n4, f3, g3⟩
      · rw [x3, bd_s, if_neg (by omega), c3.kn, bd_s] at eX
        rw [y3] at eP
        have st : ∃ (e : Int) (σ4 τ4 : Sg) (j4 k4 v4 p4 : Nat), (e = 0 ∨ e = 1) ∧ j3 ≤ j4 ∧ PR_readPerson 19 σ1 = PR_readPerson_J63 19 (v1 : Nat) g e σ4 ∧ M_readPerson τ = MKP τ4 (fun x s => M_readPerson_J61 (N : Nat) g e x s) ∧ CU n R B b j4 k4 v4 p4 σ4 τ4 ∧ T5 σ3 σ4 ∧ T0 τ3 τ4 := by
          by_cases c : k3 = 2 ∧ v3 = 7
          · obtain ⟨σ4, τ4, k4, v4, p4, a1, a2, a3, a4, a5, a6, a7⟩ := c3.take (by omega)
            refine ⟨1, σ4, τ4, j3 + 1, k4, v4, p4, .inr rfl, by omega, ?_, ?_, a3, a4, a5⟩
            · rw [eX, if_pos c.1, if_pos (by omega), PR_readPerson_J52, if_neg i10, a1, bd_s]
            · rw [eP, M_readPerson_J32, is_barber c3.td, bd_s, if_pos c, M_perhaps, c3.ok, if_neg (by omega), if_neg i10, a2, bd_s, bd_s]; rfl
          · have e7 : ¬ (if k3 = 2 then (v3 : Int) else -1) = 7 := by split <;> omega
            refine ⟨0, σ3, τ3, j3, k3, v3, p3, .inl rfl, by omega, ?_, ?_, c3, T5.rf, T0.rf⟩
            · rw [eX, if_neg e7, PR_readPerson_J52, if_pos rfl]
            · rw [eP, M_readPerson_J32, is_barber c3.td, bd_s, if_neg c, M_perhaps, c3.ok, if_neg (by omega), if_pos rfl, bd_s]; rfl
        obtain ⟨e, σ4, τ4, j4, k4, v4, p4, he, l4, eX4, eP4, c4, f4, g4⟩ := st
        have nb4 : NB 19 4 σ4 τ4 W N := (nb2.t f3 g3).t f4 g4
        have fB : T5 σ σ4 := fA.tr (f3.tr f4)
        have gB : GOM τ τ4 := gA.tr (g3.g.tr g4.g)
        rw [PR_readPerson_J63] at eX4
        have n5of : ∀ {τ5 : Sg}, T0 τ4 τ5 → τ5 5 1789 = (N : Nat) := fun {τ5} g5 => by
          rw [g5.e (by omega), g4.e (by omega), g3.e (by omega), g2.e (by omega), up_o (by omega), g1.e (by omega)]; exact hq.n'
        rcases c4.keeps nb4 with ⟨σ5, τ5, S, j5, k5, v5, p5, x5, y5, hS, l5, c5, f5, g5⟩ | ⟨σa, σ5, τ5, S, j5, k5, v5, p5, x5, y5, hS, c5, m5, nc5, f5, g5⟩ | ⟨σ5, τ5, x, x5, y5, n5, f5, g5⟩
        · rw [x5, bd_s, if_neg (by omega)] at eX4
          rw [y5, p61_m c5.ok (n5of g5) hN he] at eP4
          have c6 := c5.am5 (N := N) (g := g) (S := (S : Nat)) (e := e)
          rcases c6.cls with ⟨σ6, τ6, x6, y6, ⟨k6, v6, p6, c7⟩, f6, g6⟩ | ⟨σ6, τ6, x6, y6, n6, f6, g6⟩
          · have fC : T5 σ σ6 := fB.tr (f5.tr f6)
            obtain ⟨σ7, b1, b2, b3, b4⟩ := ap_h (σ := σ6) (N := N) (by rw [fC.e (by omega)]; exact hq.n) hN (v1 : Nat) g (S : Nat) (e := e)
            rw [x6, bd_s, if_neg i10, b1, bd_s] at eX4
            have et : ∀ k, τ6 5 k = if k = 1789 then ((N + 1 : Nat) : Int) else if k = 1831 + N then (S : Int) else if k = 1825 + N then (S : Int) else if k = 1819 + N then e else if k = 1813 + N then g else τ 5 k := fun k => by
              rw [g6.e (by omega), apM_v, g5.e (by omega), g4.e (by omega), g3.e (by omega), g2.e (by omega), up_o (by omega), g1.e (by omega)]
            have e8 : ∀ k, τ6 8 k = if k = 64 + N then τ1 0 19 else τ 8 k := fun k => by
              rw [g6.e (by omega), apM_o (by omega), g5.e (by omega), g4.e (by omega), g3.e (by omega), g2.e (by omega), up_v, g1.e (o := 8) (by omega)]
              by_cases z1 : k = 64 + N
              · rw [if_pos (by omega), if_pos z1]
              · rw [if_neg (by omega), if_neg z1]
            have e25 : τ6 0 25 = τ 0 25 := by
              rw [g6.e0 (by omega), apM_o (by omega), g5.e0 (by omega), g4.e0 (by omega), g3.e0 (by omega), g2.e0 (by omega), up_o (by omega), g1.e0 (by omega)]
            have e92 : τ6 5 1792 = τ 5 1792 := by rw [et, if_neg (by omega), if_neg (by omega), if_neg (by omega), if_neg (by omega), if_neg (by omega)]
            have e93 : τ6 5 1793 = τ 5 1793 := by rw [et, if_neg (by omega), if_neg (by omega), if_neg (by omega), if_neg (by omega), if_neg (by omega)]
            have es : ∀ o k, o ≠ 5 → ¬ (o = 19 ∧ (k = 11 ∨ k = 17)) → ¬ ((o = 27 ∨ o = 28) ∧ N * 8 ≤ k ∧ k < N * 8 + 8) → ¬ (o = 20 ∧ k = 8 + N) → ¬ ((o = 24 ∨ o = 25 ∨ o = 26) ∧ k = N) → σ7 o k = σ o k := fun o k z0 z1 z2 z3 z4 => by
              rw [b4 o k (by omega) z2, apS_f (by omega)]; exact fC.e z0
            have e17 : σ7 19 17 = or32 (σ 19 17) (if e = 1 then sl32 1 (N : Nat) else 0) := by
              rw [b4 _ _ (by omega) (by omega)]; unfold apS
              rw [up_e, fC.e (by omega)]
              rcases he with rfl | rfl
              · rw [if_pos rfl, if_neg (by omega)]
              · rw [if_neg i10, if_pos rfl]
            have hdt : σ 19 16 = blk τ 4 5 6 := by
              have q := hq.pr.dt
              rwa [hos_v, if_neg (by omega), if_neg (by omega)] at q
            refine .inl ⟨σ7, τ6, W, N + 1, D, E, _, k6, v6, p6, ?_, fun K => ?_, ?_, c7.cg (fun o x q => by rw [b4 o x (by omega) (by omega), apS_f (by omega)]) (fun _ _ _ => rfl), PQ.mk ?_ ⟨fun w hw => ?_, fun i hi => ?_⟩ (fun k hk => ?_) ?_, ?_, ?_⟩
            · rw [eX4, bd_s, zb_1]
            · show bd (M_readPerson τ) (fun r s => TLm s K) = _
              rw [eP4, bd_s, c6.tl, y6, bd_s]
            · omega
            · refine hq.pr.adP hN (g := g) (S := (S : Nat)) (e := e) ⟨gl, gu⟩ (p2_cast hS) he (fun o k z => ?_) (fun k z => ?_) ?_ ?_ ?_ ?_ ?_ ?_ ?_ ?_ ?_ ?_ (fun k hk => ?_) (fun k hk => ?_) (fun k hk => ?_) (fun k hk => ?_)
              · exact hos_e (es o k (by omega) (by omega) (by omega) (by omega) (by omega)) e92 e93
              · rw [blk_5, blk_5, et, if_neg (by omega), if_neg (by omega), if_neg (by omega), if_neg (by omega), if_neg (by omega)]
              · rw [hos_v, if_neg (by omega), if_neg (by omega)]; exact b2
              · rw [blk_5, et, if_pos (by omega)]
              · rw [hos_v, if_neg (by omega), if_neg (by omega), hos_v, if_neg (by omega), if_neg (by omega)]; exact e17
              · rw [blk_5, et, if_neg (by omega), if_neg (by omega), if_neg (by omega), if_pos (by omega)]
              · rw [hos_v, if_neg (by omega), if_neg (by omega), b4 _ _ (by omega) (by omega)]; unfold apS; rw [up_o (by omega), up_o (by omega), up_o (by omega), up_e]
              · rw [blk_5, et, if_neg (by omega), if_neg (by omega), if_neg (by omega), if_neg (by omega), if_pos (by omega)]
              · rw [hos_v, if_neg (by omega), if_neg (by omega), b4 _ _ (by omega) (by omega)]; unfold apS; rw [up_o (by omega), up_o (by omega), up_e]
              · rw [blk_5, et, if_neg (by omega), if_neg (by omega), if_pos (by omega)]
              · rw [hos_v, if_neg (by omega), if_neg (by omega), b4 _ _ (by omega) (by omega)]; unfold apS; rw [up_o (by omega), up_e]
              · rw [blk_5, et, if_neg (by omega), if_pos (by omega)]
              · rw [hos_v, if_neg (by omega), if_neg (by omega)]; exact (b3 k hk).1.trans ((fC.e (by omega)).trans hdt)
              · rw [hos_v, if_neg (by omega), if_neg (by omega)]; exact (b3 k hk).2.trans ((fC.e (by omega)).trans hdt)
              · rw [blk_5]; exact hq.z (49 + (8 * N + k)) (by omega)
              · rw [blk_5]; exact hq.z (97 + (8 * N + k)) (by omega)
            · have bW := hq.pr.bW
              rw [blk_8, e8, if_neg (by omega), es _ _ (by omega) (by omega) (by omega) (by omega) (by omega)]; have bq := hq.nm.1 w hw; rw [blk_8] at bq; exact bq
            · rw [blk_8, e8]
              by_cases z : i = N
              · rw [if_pos (by omega), z]
                have : σ7 (19 + 1) (8 + N) = (v1 : Nat) := by rw [b4 _ _ (by omega) (by omega)]; unfold apS; rw [up_o (by omega), up_o (by omega), up_o (by omega), up_o (by omega), up_e]
                rw [this]; exact hnc
              · rw [if_neg (by omega), es _ _ (by omega) (by omega) (by omega) (by omega) (by omega)]; have bq := hq.nm.2 i (by omega); rw [blk_8] at bq; exact bq
            · rw [et, if_neg (by omega), if_neg (by omega), if_neg (by omega), if_neg (by omega), if_neg (by omega)]; exact hq.z k hk
            · exact hq.ho.cg (es _ _ (by omega) (by omega) (by omega) (by omega) (by omega)) (es _ _ (by omega) (by omega) (by omega) (by omega) (by omega)) e25 e92 e93
            · exact fC.g.tr (fun o k z => by rw [b4 o k (by omega) (by omega), apS_f (by omega)])
            · exact gB.tr (g5.g.tr (apM_g.tr g6.g))
          · rw [x6, bd_s, if_pos rfl] at eX4
            refine .inr ⟨σ6, τ6, by rw [eX4, bd_s, zb_0], fun K => ?_, n6, (fB.tr (f5.tr f6)).g, gB.tr (g5.g.tr (apM_g.tr g6.g))⟩
            show bd (M_readPerson τ) (fun r s => TLm s K) = _
            rw [eP4, bd_s, c6.tl, y6, bd_s]
        · rw [x5, bd_s, if_pos rfl] at eX4
          rw [y5, p61_m c5.ok (n5of g5) hN he] at eP4
          have c6 := c5.am5 (N := N) (g := g) (S := (S : Nat)) (e := e)
          obtain ⟨f', fa, fb, fc⟩ := c6.mis
          have es5 : σ5 = fh σa f' p5 := by
            rw [m5] at fb
            exact (Prod.mk.inj (Option.some.inj fb)).2
          refine .inr ⟨σ5, fm (apM τ5 N g (S : Nat) e) f' p5, by rw [eX4, bd_s, zb_0], fun K => ?_, ?_, ?_, gB.tr (g5.g.tr (apM_g.tr (fl_m _ _ _).g))⟩
          · show bd (M_readPerson τ) (fun r s => TLm s K) = _
            rw [eP4, bd_s, c6.tl, if_neg nc5, M_must, c6.ok, if_neg (by omega), if_pos rfl, fc, bd_s, bd_s]
          · rw [es5]; exact fl_2 _ _ _ fa
          · rw [es5]; exact (fB.tr (f5.tr (fl_h _ _ _))).g
        · rw [x5, bd_s, if_pos rfl] at eX4
          rw [y5, p61_b n5.b] at eP4
          refine .inr ⟨σ5, τ5, by rw [eX4, bd_s, zb_0], fun K => ?_, n5, (fB.tr f5).g, gB.tr g5.g⟩
          show bd (M_readPerson τ) (fun r s => TLm s K) = _
          rw [eP4, bd_s, tl_b n5.b]
      · rw [x3, bd_s, if_pos rfl] at eX
        rw [y3, p32_b n4.b] at eP
        refine .inr ⟨σ3, τ3, by rw [eX, bd_s, zb_0], fun K => ?_, n4, (fA.tr f3).g, gA.tr g3.g⟩
        show bd (M_readPerson τ) (fun r s => TLm s K) = _
        rw [eP, bd_s, tl_b n4.b]
    · refine .inr ⟨σ2, τ2, ?_, fun K => ?_, n4, (f1.tr f2).g, (g1.tr g2).g⟩
      · rw [PR_readPerson, n2, bd_s, if_pos rfl, bd_s, zb_0]
      · show bd (M_readPerson τ) (fun r s => TLm s K) = _
        rw [eM, eN, show RNT 1 N τ1 = _ from n3, bd_s, mpt_b n4.b, bd_s, tl_b n4.b]
end
