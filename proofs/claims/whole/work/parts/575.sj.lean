/-! the parts of a province: dinners, halves -/
theorem bd_c {x : Rs} {f g : Int → Sg → Rs} (h : ∀ r s, f r s = g r s) : bd x f = bd x g := by
  cases x with
  | none => rfl
  | some y => exact h _ _
theorem w_p {x : Int} {n : Nat} (h : x = (n : Int)) (hn : n < 2147483648) : w32 x = (n : Int) := by rw [w32_i (by omega) (by omega), h]
def MDT (D : Int) (r6 r8 : Int) (τ : Sg) : Rs := bd (M_isEvery τ) (fun r10 s11 => bd (M_behindWord r10 1 30 s11) (fun r12 s13 => if 0 < s13 0 12 then some (0, s13) else wr 2235 (w32 (1933 + D)) (up_s s13 5 (Int.toNat (w32 (1933 + D))) r6) (fun s14 => wr 2235 (w32 (1939 + D)) (up_s s14 5 (Int.toNat (w32 (1939 + D))) r8) (fun s15 => wr 2235 (w32 (1945 + D)) (up_s s15 5 (Int.toNat (w32 (1945 + D))) r12) (fun s16 => rd 2235 1790 (s16 5 (Int.toNat 1790)) (fun x17 => wr 2235 1790 (up_s s16 5 (Int.toNat 1790) (w32 (x17 + 1))) (fun s18 => some (0, s18))))))))
theorem mdt_b {τ : Sg} (h : 0 < τ 0 12) (D x y : Int) : MDT D x y τ = some (0, τ) := by
  obtain ⟨q, hq⟩ := every_t τ
  rw [MDT, hq, bd_s, behind_b h, bd_s, if_pos h]
def dnM (τ : Sg) (D : Nat) (x y g : Int) : Sg := up_s (up_s (up_s (up_s τ 5 (1933 + D) x) 5 (1939 + D) y) 5 (1945 + D) g) 5 1790 (D + 1 : Nat)
theorem dnM_v {τ : Sg} {D : Nat} {x y g : Int} (k : Nat) : dnM τ D x y g 5 k = if k = 1790 then ((D + 1 : Nat) : Int) else if k = 1945 + D then g else if k = 1939 + D then y else if k = 1933 + D then x else τ 5 k := by
  unfold dnM
  rw [up_v, up_v, up_v, up_v]
  by_cases z1 : k = 1790
  · rw [if_pos ⟨rfl, z1⟩, if_pos z1]
  · rw [if_neg (by omega), if_neg z1]
    by_cases z2 : k = 1945 + D
    · rw [if_pos ⟨rfl, z2⟩, if_pos z2]
    · rw [if_neg (by omega), if_neg z2]
      by_cases z3 : k = 1939 + D
      · rw [if_pos ⟨rfl, z3⟩, if_pos z3]
      · rw [if_neg (by omega), if_neg z3]
        by_cases z4 : k = 1933 + D
        · rw [if_pos ⟨rfl, z4⟩, if_pos z4]
        · rw [if_neg (by omega), if_neg z4]
theorem dnM_o {τ : Sg} {D : Nat} {x y g : Int} {o k : Nat} (h : o ≠ 5) : dnM τ D x y g o k = τ o k := by
  unfold dnM
  rw [up_o h, up_o h, up_o h, up_o h]
theorem dnM_g {τ : Sg} {D : Nat} {x y g : Int} : GOM τ (dnM τ D x y g) := (GOM.u5 (by omega)).tr ((GOM.u5 (by omega)).tr ((GOM.u5 (by omega)).tr (GOM.u5 (by omega))))
section
variable {n R j k v p : Nat} {B : Nat → Int} {b : Nat → Nat} {σ τ : Sg} {W N D E : Nat}
set_option maxHeartbeats 1000000 in
theorem rd_dinner (h : CU n R B b j k v p σ τ) (hq : PQ σ τ W N D E) (hk : k ≠ 0) :
    ROUT n R B b j (bd (To_take σ) (fun r7 s8 => if s8 19 12 < 6 then bd (PR_readDinner 19 s8) (fun r9 s10 => zb r9 (some (r9, s10))) else bd (To_reject 6 s8) (fun r11 s12 => zb r11 (some (r11, s12))))) (fun K => bd (M_readDinner τ) (fun r s => TLm s K)) σ τ := by
  have bD := hq.pr.bD
  have bN := hq.pr.bN
  obtain ⟨σ1, τ1, k1, v1, p1, t1, t2, c1, f1, g1, t6, t7⟩ := h.take hk
  have q1 := hq.t f1 g1
  rw [t1, bd_s, q1.d]
  have eM0 : M_readDinner τ = if ((D : Nat) : Int) = 6 then bd (M_fail 6 (τ 0 15) τ) (fun r2 s3 => M_readDinner_J25 (D : Nat) s3) else M_readDinner_J25 (D : Nat) τ := by
    rw [M_readDinner, rd_k (by omega) (by omega), show Int.toNat 1790 = 1790 from rfl, hq.d']
  by_cases cD : D = 6
  · refine .inr ⟨fh σ1 6 p, fm τ 6 p, ?_, fun K => ?_, fl_2 _ _ _ (by omega), (f1.tr (fl_h _ _ _)).g, (fl_m _ _ _).g⟩
    · rw [if_neg (by omega), rej_h t6, bd_s, zb_0]
    · have b0 : 0 < fm τ 6 p 0 12 := by rw [fm_12]; omega
      show bd (M_readDinner τ) (fun r s => TLm s K) = _
      rw [eM0, if_pos (by omega), h.ap, fail_m h.ok, bd_s, M_readDinner_J25, if_pos b0, bd_s, tl_b b0]
  · have hD : D < 6 := by omega
    rw [if_pos (by omega)]
    have eM : M_readDinner τ = bd (M_readTold 4 1 τ1) (fun r6 s7 => bd (M_readOther 1 r6 s7) (fun r8 s9 => MDT (D : Nat) r6 r8 s9)) := by
      rw [eM0, if_neg (by omega), M_readDinner_J25, h.ok, if_neg (by omega), t2, bd_s]; rfl
    rcases c1.rtP q1.nb with ⟨x, σ2, τ2, hx, x2, y2, ⟨k2, v2, p2, c2⟩, f2, g2⟩ | ⟨σ2, τ2, x2, y2, n2, f2, g2⟩
    · have q2 := q1.t f2 g2
      have eX : PR_readDinner 19 σ1 = bd (To_takePerson 19 σ2) (fun r3 s4 => OTH s4 r3 (x : Nat) (fun s4 => bd (To_takeKey ((10 : Nat) : Int) s4) (fun r7 s8 => if r7 = 0 then some (0, s8) else bd (To_takeNumber 1 30 s8) (fun r9 s10 => if r9 = -1 then some (0, s10) else bd (To_takeClosing s10) (fun r11 s12 => if r11 = 0 then some (0, s12) else bd (Pr_addDinner 19 (x : Nat) r3 r9 s12) (fun r13 s14 => some (1, s14))))))) := by
        rw [PR_readDinner, x2, bd_s, if_neg (by omega)]; rfl
      rw [show M_readTold 4 1 τ1 = _ from y2, bd_s] at eM
      rcases c2.roP q2.nb x with ⟨y, σ3, τ3, hy, hxy, x3, y3, ⟨k3, v3, p3, c3⟩, f3, g3⟩ | ⟨r, z, σa, σ3, τ3, x3, o3, y3, _, _, n3, f3, g3⟩
      · rw [x3, bd_s, OTH, if_neg (by omega), if_neg (by omega)] at eX
        rw [y3, bd_s, MDT, is_every c3.td, bd_s, M_behindWord] at eM
        rcases c3.key 10 with ⟨ka, kb, σ4, τ4, x4, y4, ⟨k4, v4, p4, c4⟩, f4, g4⟩ | ⟨σ4, τ4, x4, y4, n4, f4, g4⟩
        · rw [x4, bd_s, if_neg i10] at eX
          rw [y4, bd_s] at eM
          rcases c4.num (x := 1) (y := 30) (by omega) (by omega) with ⟨σ5, τ5, g, gl, gu, x5, y5, ⟨k5, v5, p5, c5⟩, f5, g5⟩ | ⟨σ5, τ5, x5, y5, n5, f5, g5⟩
          · have n5d : τ5 5 1790 = (D : Nat) := by
              rw [g5.e (by omega), g4.e (by omega), g3.e (by omega), g2.e (by omega), g1.e (by omega)]; exact hq.d'
            have eQ : M_readDinner τ = some (0, dnM τ5 D (x : Nat) (y : Nat) (g : Nat)) := by
              rw [eM, y5, bd_s, bd_s, c5.ok, if_neg (by omega), w_p (x := 1933 + (D : Int)) (n := 1933 + D) (by omega) (by omega), wr_k (by omega) (by omega), Int.toNat_natCast, w_p (x := 1939 + (D : Int)) (n := 1939 + D) (by omega) (by omega), wr_k (by omega) (by omega), Int.toNat_natCast, w_p (x := 1945 + (D : Int)) (n := 1945 + D) (by omega) (by omega), wr_k (by omega) (by omega), Int.toNat_natCast, rd_k (by omega) (by omega), wr_k (by omega) (by omega), show Int.toNat 1790 = 1790 from rfl]
              rw [up_k (by omega), up_k (by omega), up_k (by omega), n5d, w32_i (by omega) (by omega), suc]; rfl
            have c6 : CU n R B b (j + 1 + 1 + 1 + 1 + 1) k5 v5 p5 σ5 (dnM τ5 D (x : Nat) (y : Nat) (g : Nat)) := c5.cg (fun _ _ _ => rfl) (fun o x q => dnM_o (by omega))
            rw [x5, bd_s, if_neg (by omega)] at eX
            have gB : GOM τ τ5 := (g1.tr (g2.tr (g3.tr (g4.tr g5)))).g
            rcases c6.cls with ⟨σ6, τ6, x6, y6, ⟨k6, v6, p6, c7⟩, f6, g6⟩ | ⟨σ6, τ6, x6, y6, n6, f6, g6⟩
            · have fC : T5 σ σ6 := f1.tr (f2.tr (f3.tr (f4.tr (f5.tr f6))))
              rw [x6, bd_s, if_neg i10, ad_h (D := D) (by rw [fC.e (by omega)]; exact hq.d) hD, bd_s] at eX
              have et : ∀ k, τ6 5 k = if k = 1790 then ((D + 1 : Nat) : Int) else if k = 1945 + D then (g : Int) else if k = 1939 + D then (y : Int) else if k = 1933 + D then (x : Int) else τ 5 k := fun k => by
                rw [g6.e (by omega), dnM_v, g5.e (by omega), g4.e (by omega), g3.e (by omega), g2.e (by omega), g1.e (by omega)]
              have e8 : ∀ k, τ6 8 k = τ 8 k := fun k => by
                rw [g6.e (by omega), dnM_o (by omega), g5.e (by omega), g4.e (by omega), g3.e (by omega), g2.e (by omega), g1.e (by omega)]
              have e25 : τ6 0 25 = τ 0 25 := by
                rw [g6.e0 (by omega), dnM_o (by omega), g5.e0 (by omega), g4.e0 (by omega), g3.e0 (by omega), g2.e0 (by omega), g1.e0 (by omega)]
              have e92 : τ6 5 1792 = τ 5 1792 := by rw [et, if_neg (by omega), if_neg (by omega), if_neg (by omega), if_neg (by omega)]
              have e93 : τ6 5 1793 = τ 5 1793 := by rw [et, if_neg (by omega), if_neg (by omega), if_neg (by omega), if_neg (by omega)]
              have es : ∀ o k, o ≠ 5 → ¬ (o = 29 ∧ 3 * D ≤ k) → ¬ (o = 19 ∧ k = 12) → adH σ6 D (x : Nat) (y : Nat) (g : Nat) o k = σ o k := fun o k z0 z1 z2 => by rw [adH_f ⟨z1, z2⟩]; exact fC.e z0
              refine .inl ⟨adH σ6 D (x : Nat) (y : Nat) (g : Nat), τ6, W, N, D + 1, E, _, k6, v6, p6, ?_, fun K => ?_, ?_, c7.cg (fun o x q => adH_f (by omega)) (fun _ _ _ => rfl), PQ.mk ?_ ⟨fun w hw => ?_, fun i hi => ?_⟩ (fun k hk => ?_) ?_, ?_, ?_⟩
              · rw [eX, bd_s, zb_1]
              · show bd (M_readDinner τ) (fun r s => TLm s K) = _
                rw [eQ, bd_s, c6.tl, y6, bd_s]
              · omega
              · refine hq.pr.adD hD (x := (x : Nat)) (y := (y : Nat)) (g := (g : Nat)) (by omega) (by omega) (by omega) (by omega) (fun o k z => ?_) (fun k z => ?_) ?_ ?_ ?_ ?_ ?_ ?_ ?_ ?_
                · exact hos_e (es o k (by omega) (by omega) (by omega)) e92 e93
                · rw [blk_5, blk_5, et, if_neg (by omega), if_neg (by omega), if_neg (by omega), if_neg (by omega)]
                · rw [hos_v, if_neg (by omega), if_neg (by omega)]; unfold adH; rw [up_e]
                · rw [blk_5, et, if_pos (by omega)]
                · rw [hos_v, if_neg (by omega), if_neg (by omega)]; unfold adH; rw [up_o (by omega), up_k (by omega), up_k (by omega), up_e]
                · rw [blk_5, et, if_neg (by omega), if_neg (by omega), if_neg (by omega), if_pos (by omega)]
                · rw [hos_v, if_neg (by omega), if_neg (by omega)]; unfold adH; rw [up_o (by omega), up_k (by omega), up_e]
                · rw [blk_5, et, if_neg (by omega), if_neg (by omega), if_pos (by omega)]
                · rw [hos_v, if_neg (by omega), if_neg (by omega)]; unfold adH; rw [up_o (by omega), up_e]
                · rw [blk_5, et, if_neg (by omega), if_pos (by omega)]
              · rw [blk_8, e8, es _ _ (by omega) (by omega) (by omega)]; have bq := hq.nm.1 w hw; rw [blk_8] at bq; exact bq
              · rw [blk_8, e8, es _ _ (by omega) (by omega) (by omega)]; have bq := hq.nm.2 i hi; rw [blk_8] at bq; exact bq
              · rw [et, if_neg (by omega), if_neg (by omega), if_neg (by omega), if_neg (by omega)]; exact hq.z k hk
              · exact hq.ho.cg (es _ _ (by omega) (by omega) (by omega)) (es _ _ (by omega) (by omega) (by omega)) e25 e92 e93
              · exact fC.g.tr (fun o k z => adH_f (by omega))
              · exact gB.tr (dnM_g.tr g6.g)
            · rw [x6, bd_s, if_pos rfl] at eX
              refine .inr ⟨σ6, τ6, by rw [eX, bd_s, zb_0], fun K => ?_, n6, (f1.tr (f2.tr (f3.tr (f4.tr (f5.tr f6))))).g, gB.tr (dnM_g.tr g6.g)⟩
              show bd (M_readDinner τ) (fun r s => TLm s K) = _
              rw [eQ, bd_s, c6.tl, y6, bd_s]
          · rw [x5, bd_s, if_pos rfl] at eX
            refine .inr ⟨σ5, τ5, by rw [eX, bd_s, zb_0], fun K => ?_, n5, (f1.tr (f2.tr (f3.tr (f4.tr f5)))).g, (g1.tr (g2.tr (g3.tr (g4.tr g5)))).g⟩
            show bd (M_readDinner τ) (fun r s => TLm s K) = _
            rw [eM, y5, bd_s, bd_s, if_pos n5.b, bd_s, tl_b n5.b]
        · rw [x4, bd_s, if_pos rfl] at eX
          refine .inr ⟨σ4, τ4, by rw [eX, bd_s, zb_0], fun K => ?_, n4, (f1.tr (f2.tr (f3.tr f4))).g, (g1.tr (g2.tr (g3.tr g4))).g⟩
          show bd (M_readDinner τ) (fun r s => TLm s K) = _
          rw [eM, y4, bd_s, count_b n4.b, bd_s, bd_s, if_pos n4.b, bd_s, tl_b n4.b]
      · rw [x3, bd_s, o3] at eX
        refine .inr ⟨σ3, τ3, by rw [eX, bd_s, zb_0], fun K => ?_, n3, (f1.tr (f2.tr f3)).g, (g1.tr (g2.tr g3)).g⟩
        show bd (M_readDinner τ) (fun r s => TLm s K) = _
        rw [eM, y3, bd_s, mdt_b n3.b, bd_s, tl_b n3.b]
    · refine .inr ⟨σ2, τ2, ?_, fun K => ?_, n2, (f1.tr f2).g, (g1.tr g2).g⟩
      · rw [PR_readDinner, x2, bd_s, if_pos rfl, bd_s, zb_0]
      · show bd (M_readDinner τ) (fun r s => TLm s K) = _
        rw [eM, show M_readTold 4 1 τ1 = _ from y2, bd_s, ro_b n2.b, bd_s, mdt_b n2.b, bd_s, tl_b n2.b]
set_option maxHeartbeats 1000000 in
theorem rd_halves (h : CU n R B b j k v p σ τ) (hq : PQ σ τ W N D E) (hk : k ≠ 0) :
    ROUT n R B b j (bd (To_take σ) (fun r7 s8 => if s8 19 13 < 6 then bd (PR_readHalves 19 s8) (fun r9 s10 => zb r9 (some (r9, s10))) else bd (To_reject 6 s8) (fun r11 s12 => zb r11 (some (r11, s12))))) (fun K => bd (M_readHalves τ) (fun r s => TLm s K)) σ τ := by
  have bE := hq.pr.bE
  have bW := hq.pr.bW
  obtain ⟨σ1, τ1, k1, v1, p1, t1, t2, c1, f1, g1, t6, t7⟩ := h.take hk
  have q1 := hq.t f1 g1
  rw [t1, bd_s, q1.e]
  have eM0 : M_readHalves τ = if ((E : Nat) : Int) = 6 then bd (M_fail 6 (τ 0 15) τ) (fun r2 s3 => M_readHalves_J25 (E : Nat) s3) else M_readHalves_J25 (E : Nat) τ := by
    rw [M_readHalves, rd_k (by omega) (by omega), show Int.toNat 1791 = 1791 from rfl, hq.e']
  by_cases cE : E = 6
  · refine .inr ⟨fh σ1 6 p, fm τ 6 p, ?_, fun K => ?_, fl_2 _ _ _ (by omega), (f1.tr (fl_h _ _ _)).g, (fl_m _ _ _).g⟩
    · rw [if_neg (by omega), rej_h t6, bd_s, zb_0]
    · have b0 : 0 < fm τ 6 p 0 12 := by rw [fm_12]; omega
      show bd (M_readHalves τ) (fun r s => TLm s K) = _
      rw [eM0, if_pos (by omega), h.ap, fail_m h.ok, bd_s, M_readHalves_J25, if_pos b0, bd_s, tl_b b0]
  · have hE : E < 6 := by omega
    rw [if_pos (by omega)]
    have eM : M_readHalves τ = bd (M_readTold 4 0 τ1) (fun r6 s7 => bd (M_readOther 0 r6 (up_s s7 5 (1951 + E) r6)) (fun r10 s11 => if s11 0 12 = 0 then rd 2235 1791 (up_s s11 5 (1957 + E) r10 5 1791) (fun x13 => wr 2235 1791 (up_s (up_s s11 5 (1957 + E) r10) 5 1791 (w32 (x13 + 1))) (fun s14 => some (0, s14))) else some (0, up_s s11 5 (1957 + E) r10))) := by
      rw [eM0, if_neg (by omega), M_readHalves_J25, h.ok, if_neg (by omega), t2, bd_s, w_p (x := 1951 + (E : Int)) (n := 1951 + E) (by omega) (by omega), w_p (x := 1957 + (E : Int)) (n := 1957 + E) (by omega) (by omega)]
      refine bd_c (fun r6 s7 => ?_)
      rw [wr_k (by omega) (by omega), Int.toNat_natCast, rd_k (by omega) (by omega), up_e]
      refine bd_c (fun r10 s11 => ?_)
      rw [wr_k (by omega) (by omega), Int.toNat_natCast, up_o (a := 0) (by omega)]; rfl
    rcases c1.rtW q1.nb with ⟨x, σ2, τ2, hx, x2, y2, ⟨k2, v2, p2, c2⟩, f2, g2⟩ | ⟨σ2, τ2, x2, y2, n2, f2, g2⟩
    · have c2' := c2.u5 (1951 + E) (x : Nat)
      have q2 := q1.nb.t f2 g2
      have nb2 : NB 19 4 σ2 (up_s τ2 5 (1951 + E) (x : Nat)) W N := by
        obtain ⟨z1, z2, z3, z4, z5, z6, z7, z8, z9⟩ := q2
        exact ⟨z1, z2, z3, z4, z5, z6, by rw [up_k (by omega)]; exact z7, by rw [up_k (by omega)]; exact z8, z9.cg z3 z4 (fun _ _ => rfl) (fun k _ => by rw [blk_8, blk_8, up_o (by omega)])⟩
      have eX : PR_readHalves 19 σ1 = bd (To_takeWord 19 σ2) (fun r3 s4 => OTH s4 r3 (x : Nat) (fun s4 => bd (To_takeClosing s4) (fun r7 s8 => if r7 = 0 then some (0, s8) else bd (Pr_addHalves 19 (x : Nat) r3 s8) (fun r9 s10 => some (1, s10))))) := by
        rw [PR_readHalves, x2, bd_s, if_neg (by omega)]; rfl
      rw [show M_readTold 4 0 τ1 = _ from y2, bd_s] at eM
      have gA : GOM τ (up_s τ2 5 (1951 + E) (x : Nat)) := (g1.tr g2).g.tr (GOM.u5 (by omega))
      rcases c2'.roW nb2 x with ⟨y, σ3, τ3, hy, hxy, x3, y3, ⟨k3, v3, p3, c3⟩, f3, g3⟩ | ⟨r, z, σa, σ3, τ3, x3, o3, y3, _, _, n3, f3, g3⟩
      · rw [x3, bd_s, OTH, if_neg (by omega), if_neg (by omega)] at eX
        have n3e : τ3 5 1791 = (E : Nat) := by
          rw [g3.e (by omega), up_k (by omega), g2.e (by omega), g1.e (by omega)]; exact hq.e'
        have eQ : M_readHalves τ = some (0, up_s (up_s τ3 5 (1957 + E) (y : Nat)) 5 1791 (E + 1 : Nat)) := by
          rw [eM, y3, bd_s, if_pos c3.ok, rd_k (by omega) (by omega), wr_k (by omega) (by omega), up_k (by omega), n3e, w32_i (by omega) (by omega), suc]
        have c6 := (c3.u5 (1957 + E) (y : Nat)).u5 1791 (E + 1 : Nat)
        have gB : GOM τ (up_s (up_s τ3 5 (1957 + E) (y : Nat)) 5 1791 (E + 1 : Nat)) := gA.tr (g3.g.tr (go_u2 (by omega) (by omega)))
        rcases c6.cls with ⟨σ6, τ6, x6, y6, ⟨k6, v6, p6, c7⟩, f6, g6⟩ | ⟨σ6, τ6, x6, y6, n6, f6, g6⟩
        · have fC : T5 σ σ6 := f1.tr (f2.tr (f3.tr f6))
          rw [x6, bd_s, if_neg i10, ah_h (W := W) (E := E) (by rw [fC.e (by omega)]; exact hq.w) (by rw [fC.e (by omega)]; exact hq.e) bW hE hx hy (fun z => hxy z.symm), bd_s] at eX
          have et : ∀ k, τ6 5 k = if k = 1791 then ((E + 1 : Nat) : Int) else if k = 1957 + E then (y : Int) else if k = 1951 + E then (x : Int) else τ 5 k := fun k => by
            rw [g6.e (by omega), up_v, up_v, g3.e (by omega), up_v, g2.e (by omega), g1.e (by omega)]
            by_cases z1 : k = 1791
            · rw [if_pos ⟨rfl, z1⟩, if_pos z1]
            · rw [if_neg (by omega), if_neg z1]
              by_cases z2 : k = 1957 + E
              · rw [if_pos ⟨rfl, z2⟩, if_pos z2]
              · rw [if_neg (by omega), if_neg z2]
                by_cases z3 : k = 1951 + E
                · rw [if_pos ⟨rfl, z3⟩, if_pos z3]
                · rw [if_neg (by omega), if_neg z3]
          have e8 : ∀ k, τ6 8 k = τ 8 k := fun k => by
            rw [g6.e (by omega), up_o (by omega), up_o (by omega), g3.e (by omega), up_o (by omega), g2.e (by omega), g1.e (by omega)]
          have e25 : τ6 0 25 = τ 0 25 := by
            rw [g6.e0 (by omega), up_o (by omega), up_o (by omega), g3.e0 (by omega), up_o (by omega), g2.e0 (by omega), g1.e0 (by omega)]
          have e92 : τ6 5 1792 = τ 5 1792 := by rw [et, if_neg (by omega), if_neg (by omega), if_neg (by omega)]
          have e93 : τ6 5 1793 = τ 5 1793 := by rw [et, if_neg (by omega), if_neg (by omega), if_neg (by omega)]
          have es : ∀ o k, o ≠ 5 → o ≠ 23 → ¬ (o = 19 ∧ k = 13) → ahH σ6 E x y o k = σ o k := fun o k z0 z1 z2 => by rw [ahH_f ⟨by omega, z2⟩]; exact fC.e z0
          refine .inl ⟨ahH σ6 E x y, τ6, W, N, D, E + 1, _, k6, v6, p6, ?_, fun K => ?_, ?_, c7.cg (fun o x q => ahH_f (by omega)) (fun _ _ _ => rfl), PQ.mk ?_ ⟨fun w hw => ?_, fun i hi => ?_⟩ (fun k hk => ?_) ?_, ?_, ?_⟩
          · rw [eX, bd_s, zb_1]
          · show bd (M_readHalves τ) (fun r s => TLm s K) = _
            rw [eQ, bd_s, c6.tl, y6, bd_s]
          · omega
          · refine hq.pr.adH hE (x := (x : Nat)) (y := (y : Nat)) (by omega) (by omega) (by omega) (fun o k z => ?_) (fun k z => ?_) ?_ ?_ (fun k hk => ?_) ?_ ?_
            · exact hos_e (es o k (by omega) (by omega) (by omega)) e92 e93
            · rw [blk_5, blk_5, et, if_neg (by omega), if_neg (by omega), if_neg (by omega)]
            · rw [hos_v, if_neg (by omega), if_neg (by omega)]; unfold ahH; rw [up_e]
            · rw [blk_5, et, if_pos (by omega)]
            · rw [hos_v, if_neg (by omega), if_neg (by omega), hos_v, if_neg (by omega), if_neg (by omega)]
              have f23 : ∀ k, σ6 23 k = σ 23 k := fun k => fC.e (by omega)
              show ahH σ6 E x y 23 k = or32 (σ 23 k) _
              unfold ahH
              rw [up_o (by omega), up_v, up_v]
              by_cases z1 : k = y
              · subst z1
                rw [if_pos ⟨rfl, rfl⟩, if_neg (by omega), if_pos rfl, f23]
              · rw [if_neg (fun z => z1 z.2)]
                by_cases z2 : k = x
                · subst z2
                  rw [if_pos ⟨rfl, rfl⟩, if_pos rfl, f23]
                · rw [if_neg (fun z => z2 z.2), if_neg (by omega), if_neg (by omega), f23]
                  obtain ⟨q, e1, e2, _⟩ := hs_n hq.pr k E (Nat.le_refl E)
                  have oh := hq.pr.oh k hk
                  rw [hos_v, if_neg (by omega), if_neg (by omega), e1] at oh
                  have oh' : σ 23 k = (q : Int) := oh
                  rw [oh', show (0 : Int) = ((0 : Nat) : Int) from rfl, or_n (by omega) (by omega), Nat.or_zero]
            · rw [blk_5, et, if_neg (by omega), if_neg (by omega), if_pos (by omega)]
            · rw [blk_5, et, if_neg (by omega), if_pos (by omega)]
          · rw [blk_8, e8, es _ _ (by omega) (by omega) (by omega)]; have bq := hq.nm.1 w hw; rw [blk_8] at bq; exact bq
          · rw [blk_8, e8, es _ _ (by omega) (by omega) (by omega)]; have bq := hq.nm.2 i hi; rw [blk_8] at bq; exact bq
          · rw [et, if_neg (by omega), if_neg (by omega), if_neg (by omega)]; exact hq.z k hk
          · exact hq.ho.cg (es _ _ (by omega) (by omega) (by omega)) (es _ _ (by omega) (by omega) (by omega)) e25 e92 e93
          · exact fC.g.tr (fun o k z => ahH_f (by omega))
          · exact gB.tr g6.g
        · rw [x6, bd_s, if_pos rfl] at eX
          refine .inr ⟨σ6, τ6, by rw [eX, bd_s, zb_0], fun K => ?_, n6, (f1.tr (f2.tr (f3.tr f6))).g, gB.tr g6.g⟩
          show bd (M_readHalves τ) (fun r s => TLm s K) = _
          rw [eQ, bd_s, c6.tl, y6, bd_s]
      · rw [x3, bd_s, o3] at eX
        refine .inr ⟨σ3, up_s τ3 5 (1957 + E) z, by rw [eX, bd_s, zb_0], fun K => ?_, fl_u1 n3, (f1.tr (f2.tr f3)).g, gA.tr (g3.g.tr (GOM.u5 (by omega)))⟩
        show bd (M_readHalves τ) (fun r s => TLm s K) = _
        rw [eM, y3, bd_s, if_neg (by have := n3.b; omega), bd_s, tl_b (fl_u1 (σ := σ3) n3).b]
    · refine .inr ⟨σ2, up_s (up_s τ2 5 (1951 + E) 0) 5 (1957 + E) 0, ?_, fun K => ?_, fl_u2 n2, (f1.tr f2).g, (g1.tr g2).g.tr (go_u2 (by omega) (by omega))⟩
      · rw [PR_readHalves, x2, bd_s, if_pos rfl, bd_s, zb_0]
      · have b2 := (fl_u1 (a := 1951 + E) (x := 0) n2).b
        show bd (M_readHalves τ) (fun r s => TLm s K) = _
        rw [eM, show M_readTold 4 0 τ1 = _ from y2, bd_s, ro_b b2, bd_s, if_neg (by omega), bd_s, tl_b (fl_u2 (σ := σ2) n2).b]
end
