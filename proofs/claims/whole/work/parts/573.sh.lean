/-! the parts of a province: words -/
def TLm (τ : Sg) (K : Sg → Rs) : Rs := bd (M_isSign 59 τ) (fun r10 s11 => bd (M_must r10 s11) (fun r12 s13 => K s13))
theorem tl_b {τ : Sg} (h : 0 < τ 0 12) (K : Sg → Rs) : TLm τ K = K τ := by
  obtain ⟨r, hr⟩ := sign_t 59 τ
  rw [TLm, hr, bd_s, must_b h, bd_s]
def ROUT (n R : Nat) (B : Nat → Int) (b : Nat → Nat) (j : Nat) (X : Rs) (Y : (Sg → Rs) → Rs) (σ τ : Sg) : Prop :=
  (∃ (σ' τ' : Sg) (W' N' D' E' j' k' v' p' : Nat), X = some (1, σ') ∧ (∀ K, Y K = K τ') ∧ j < j' ∧ CU n R B b j' k' v' p' σ' τ' ∧ PQ σ' τ' W' N' D' E' ∧ GOH σ σ' ∧ GOM τ τ') ∨
  (∃ σ' τ', X = some (0, σ') ∧ (∀ K, Y K = K τ') ∧ FLT σ' τ' ∧ GOH σ σ' ∧ GOM τ τ')
section
variable {n R j k v p : Nat} {B : Nat → Int} {b : Nat → Nat} {σ τ : Sg}
theorem CU.tl (h : CU n R B b j k v p σ τ) (K : Sg → Rs) : TLm τ K = bd (M_must (if k = 6 ∧ (v : Int) = 59 then 1 else 0) τ) (fun r12 s13 => K s13) := by
  rw [TLm, sign_m h.td, bd_s]
end
theorem T5.e {a b : Sg} (h : T5 a b) {o k : Nat} (q : o ≠ 5) : b o k = a o k := h o k (by omega)
theorem T0.e {a b : Sg} (h : T0 a b) {o k : Nat} (q : o ≠ 0) : b o k = a o k := h o k (by omega)
theorem T0.e0 {a b : Sg} (h : T0 a b) {k : Nat} (q : k < 12 ∨ 19 < k) : b 0 k = a 0 k := h 0 k (by omega)
/-! words -/
def MWT (r : Int) (τ : Sg) : Rs := bd (M_isGrows τ) (fun r3 s4 => bd (M_perhaps r3 s4) (fun r5 s6 => if r5 = 0 then M_readWordOf_J39 r (w32 (1797 + r)) 1 s6 else bd (M_count 1 9 s6) (fun r17 s18 => M_readWordOf_J39 r (w32 (1797 + r)) r17 s18)))
section
variable {τ : Sg}
theorem j72_b (h : 0 < τ 0 12) {a : Nat} (ha : a < 2235) (x : Int) : M_readWordOf_J72 (a : Nat) x τ = some (0, up_s τ 5 a x) := by
  rw [M_readWordOf_J72, wr_k (by omega) (by omega), Int.toNat_natCast, up_o (by omega), if_neg (by omega)]
theorem j39_b (h : 0 < τ 0 12) {r a : Nat} (hr : r ≤ 8) (ha : a < 2235) (x : Int) : M_readWordOf_J39 (r : Nat) (a : Nat) x τ = some (0, up_s (up_s τ 5 a x) 5 (1805 + r) 30) := by
  have hb : 0 < up_s τ 5 a x 0 12 := by rw [up_o (by omega)]; exact h
  obtain ⟨q, hq⟩ := grey_t (up_s τ 5 a x)
  rw [M_readWordOf_J39, wr_k (by omega) (by omega), Int.toNat_natCast, hq, bd_s, perh_b hb, bd_s, if_pos rfl, w32_i (by omega) (by omega), show 1805 + (r : Int) = ((1805 + r : Nat) : Int) by omega, j72_b hb (by omega)]
theorem mwt_b (h : 0 < τ 0 12) {r : Nat} (hr : r ≤ 8) : MWT (r : Nat) τ = some (0, up_s (up_s τ 5 (1797 + r) 1) 5 (1805 + r) 30) := by
  obtain ⟨q, hq⟩ := grows_t τ
  rw [MWT, hq, bd_s, perh_b h, bd_s, if_pos rfl, w32_i (by omega) (by omega), show 1797 + (r : Int) = ((1797 + r : Nat) : Int) by omega, j39_b h hr (by omega)]
end
theorem fl_u2 {σ τ : Sg} {a c : Nat} {x y : Int} (h : FLT σ τ) : FLT σ (up_s (up_s τ 5 a x) 5 c y) := h.cg (by rw [up_o (by omega), up_o (by omega)]) (by rw [up_o (by omega), up_o (by omega)])
theorem fl_u1 {σ τ : Sg} {a : Nat} {x : Int} (h : FLT σ τ) : FLT σ (up_s τ 5 a x) := h.cg (by rw [up_o (by omega)]) (by rw [up_o (by omega)])
theorem go_u2 {τ : Sg} {a c : Nat} {x y : Int} (h1 : 1788 ≤ a) (h2 : 1788 ≤ c) : GOM τ (up_s (up_s τ 5 a x) 5 c y) := (GOM.u5 h1).tr (GOM.u5 h2)
section
variable {n R j k v p : Nat} {B : Nat → Int} {b : Nat → Nat} {σ τ : Sg} {W N D E : Nat}
theorem CU.u5 (h : CU n R B b j k v p σ τ) (a : Nat) (x : Int) : CU n R B b j k v p σ (up_s τ 5 a x) := h.cg (fun _ _ _ => rfl) (fun o x q => up_o (by omega))
/-- how the reference begins a new thing: its letters, its name -/
theorem new_m {s M cap : Nat} {τ1 : Sg} (h : CU n R B b j k v p σ τ) (hs : s ≤ 1) (hM : τ 5 (1788 + s) = (M : Nat)) (hc : M ≠ cap) (h1 : M_advance τ = some (0, τ1)) : M_readNew s cap τ = RNT s M τ1 := by
  rw [M_readNew, w32_i (by omega) (by omega), show 1788 + (s : Int) = ((1788 + s : Nat) : Int) by omega, rd_k (by omega) (by omega), Int.toNat_natCast, hM, if_neg (by omega), M_readNew_J26, h.ok, if_neg (by omega), h1, bd_s]; rfl
theorem new_f {s M cap : Nat} (h : CU n R B b j k v p σ τ) (hs : s ≤ 1) (hM : τ 5 (1788 + s) = (M : Nat)) (hc : M = cap) : M_readNew s cap τ = some (0, fm τ 6 p) := by
  rw [M_readNew, w32_i (by omega) (by omega), show 1788 + (s : Int) = ((1788 + s : Nat) : Int) by omega, rd_k (by omega) (by omega), Int.toNat_natCast, hM, if_pos (by omega), h.ap, fail_m h.ok, bd_s, M_readNew_J26, fm_12, if_pos (by omega)]
set_option maxHeartbeats 1000000 in
theorem rd_word (h : CU n R B b j k v p σ τ) (hq : PQ σ τ W N D E) (hk : k ≠ 0) :
    ROUT n R B b j (bd (To_take σ) (fun r7 s8 => if s8 19 10 < 8 then bd (PR_readWord 19 s8) (fun r9 s10 => zb r9 (some (r9, s10))) else bd (To_reject 6 s8) (fun r11 s12 => zb r11 (some (r11, s12))))) (fun K => bd (M_readWordOf τ) (fun r s => TLm s K)) σ τ := by
  have bW := hq.pr.bW
  obtain ⟨σ1, τ1, k1, v1, p1, t1, t2, c1, f1, g1, t6, t7⟩ := h.take hk
  have q1 := hq.t f1 g1
  have eM : M_readWordOf τ = bd (M_readNew 0 8 τ) (fun r1 s2 => MWT r1 s2) := rfl
  rw [t1, bd_s, q1.w]
  by_cases cW : W = 8
  · refine .inr ⟨fh σ1 6 p, up_s (up_s (fm τ 6 p) 5 (1797 + 0) 1) 5 (1805 + 0) 30, ?_, fun K => ?_, fl_u2 (fl_2 _ _ _ (by omega)), (f1.tr (fl_h _ _ _)).g, (fl_m _ _ _).g.tr (go_u2 (by omega) (by omega))⟩
    · rw [if_neg (by omega), rej_h t6, bd_s, zb_0]
    · have b0 : 0 < fm τ 6 p 0 12 := by rw [fm_12]; omega
      show bd (M_readWordOf τ) (fun r s => TLm s K) = _
      rw [eM, show M_readNew 0 8 τ = _ from new_f (s := 0) (cap := 8) h (by omega) hq.w' cW, bd_s, show MWT 0 (fm τ 6 p) = _ from mwt_b (r := 0) b0 (by omega), bd_s, tl_b (by rw [up_o (by omega), up_o (by omega)]; exact b0)]
  · have eN : M_readNew 0 8 τ = RNT 0 W τ1 := new_m (s := 0) (cap := 8) h (by omega) hq.w' cW t2
    rw [if_pos (by omega)]
    rcases c1.newN q1.nb (s := 0) (M := W) (by omega) (by omega) with ⟨σ2, τ2, n1, n2, n3, ⟨⟨k2, v2, p2, c2⟩, f2, g2⟩, hnc⟩ | ⟨σ2, τ2, n2, n3, n4, f2, g2⟩
    · have eR : M_readWordOf τ = MWT (W : Nat) τ2 := by rw [eM, eN, show RNT 0 W τ1 = _ from n3, bd_s]
      have eG : ∀ c : Int, M_isGrows τ2 = some (c, τ2) → MWT (W : Nat) τ2 = MPK c 1 9 1 τ2 (fun x s => M_readWordOf_J39 (W : Nat) (w32 (1797 + (W : Nat))) x s) := fun c hc => by rw [MWT, hc, bd_s]; rfl
      have a97 : w32 (1797 + (W : Int)) = ((1797 + W : Nat) : Int) := by rw [w32_i (by omega) (by omega)]; omega
      have a05 : w32 (1805 + (W : Int)) = ((1805 + W : Nat) : Int) := by rw [w32_i (by omega) (by omega)]; omega
      have eX : PR_readWord 19 σ1 = bd (PR_takePerhaps ((3 : Nat) : Int) 1 9 1 σ2) (fun r3 s4 => if r3 = -1 then some (0, s4) else bd (PR_takePerhaps ((4 : Nat) : Int) 1 99 30 s4) (fun r5 s6 => if r5 = -1 then some (0, s6) else bd (To_takeClosing s6) (fun r7 s8 => if r7 = 0 then some (0, s8) else bd (Pr_addWord 19 (v1 : Nat) r3 r5 s8) (fun r9 s10 => some (1, s10))))) := by
        rw [PR_readWord, n2, bd_s, if_neg (by omega)]; rfl
      have gA : GOM τ τ2 := g1.g.tr ((GOM.u8 (by omega)).tr g2.g)
      have fA : T5 σ σ2 := f1.tr f2
      rcases c2.perh 3 (x := 1) (y := 9) (w := 1) (by omega) (by omega) (by omega) with ⟨σ3, τ3, g, j3, k3, v3, p3, l3, gl, gu, x3, y3, c3, f3, g3⟩ | ⟨σ3, τ3, x3, y3, n4, f3, g3⟩
      · have c3' := c3.u5 (1797 + W) g
        have eT : M_readWordOf τ = bd (M_isGrey (up_s τ3 5 (1797 + W) g)) (fun r8 s9 => bd (M_perhaps r8 s9) (fun r10 s11 => if r10 = 0 then M_readWordOf_J72 (w32 (1805 + (W : Nat))) 30 s11 else bd (M_count 1 99 s11) (fun r15 s16 => M_readWordOf_J72 (w32 (1805 + (W : Nat))) r15 s16))) := by
          rw [eR, eG _ (is_grows c2.td), y3, a97, M_readWordOf_J39, wr_k (by omega) (by omega), Int.toNat_natCast]
        have eP : M_readWordOf τ = MPK (if k3 = 2 ∧ v3 = 4 then 1 else 0) 1 99 30 (up_s τ3 5 (1797 + W) g) (fun x s => M_readWordOf_J72 (w32 (1805 + (W : Nat))) x s) := by
          rw [eT, is_grey c3'.td, bd_s]; rfl
        rw [x3, bd_s, if_neg (by omega)] at eX
        rcases c3'.perh 4 (x := 1) (y := 99) (w := 30) (by omega) (by omega) (by omega) with ⟨σ4, τ4, y, j4, k4, v4, p4, l4, yl, yu, x4, y4, c4, f4, g4⟩ | ⟨σ4, τ4, x4, y4, n4, f4, g4⟩
        · rw [x4, bd_s, if_neg (by omega)] at eX
          have w4 : τ4 5 1788 = (W : Nat) := by rw [g4.e (by omega), up_v, if_neg (by omega), g3.e (by omega), g2.e (by omega), up_o (by omega), g1.e (by omega)]; exact hq.w'
          have c5 := (c4.u5 (1805 + W) y).u5 1788 (W + 1 : Nat)
          have eQ : M_readWordOf τ = some (0, up_s (up_s τ4 5 (1805 + W) y) 5 1788 (W + 1 : Nat)) := by
            rw [eP, y4, a05, M_readWordOf_J72, wr_k (by omega) (by omega), Int.toNat_natCast, up_o (a := 0) (by omega), if_pos c4.ok, rd_k (by omega) (by omega), wr_k (by omega) (by omega), show Int.toNat 1788 = 1788 from rfl, up_k (by omega), w4, w32_i (by omega) (by omega), suc]
          have gB : GOM τ (up_s (up_s τ4 5 (1805 + W) y) 5 1788 (W + 1 : Nat)) := gA.tr (g3.g.tr ((GOM.u5 (by omega)).tr (g4.g.tr (go_u2 (by omega) (by omega)))))
          rcases c5.cls with ⟨σ5, τ5, x5, y5, ⟨k5, v5, p5, c6⟩, f5, g5⟩ | ⟨σ5, τ5, x5, y5, n5, f5, g5⟩
          · have fB : T5 σ σ5 := fA.tr (f3.tr (f4.tr f5))
            have w5 : σ5 19 10 = (W : Nat) := by rw [fB.e (by omega)]; exact hq.w
            rw [x5, bd_s, if_neg i10, aw_h w5 (by omega), bd_s] at eX
            have et : ∀ k, τ5 5 k = if k = 1788 then ((W + 1 : Nat) : Int) else if k = 1805 + W then y else if k = 1797 + W then g else τ 5 k := fun k => by
              rw [g5.e (by omega), up_v, up_v, g4.e (by omega), up_v, g3.e (by omega), g2.e (by omega), up_o (by omega), g1.e (by omega)]
              by_cases z1 : k = 1788
              · rw [if_pos ⟨rfl, z1⟩, if_pos z1]
              · rw [if_neg (by omega), if_neg z1]
                by_cases z2 : k = 1805 + W
                · rw [if_pos ⟨rfl, z2⟩, if_pos z2]
                · rw [if_neg (by omega), if_neg z2]
                  by_cases z3 : k = 1797 + W
                  · rw [if_pos ⟨rfl, z3⟩, if_pos z3]
                  · rw [if_neg (by omega), if_neg z3]
            have e8 : ∀ k, τ5 8 k = if k = 56 + W then τ1 0 19 else τ 8 k := fun k => by
              rw [g5.e (by omega), up_o (by omega), up_o (by omega), g4.e (by omega), up_o (by omega), g3.e (by omega), g2.e (by omega), up_v, g1.e (o := 8) (by omega)]
              by_cases z1 : k = 56 + W
              · rw [if_pos (by omega), if_pos z1]
              · rw [if_neg (by omega), if_neg z1]
            have e25 : τ5 0 25 = τ 0 25 := by
              rw [g5.e0 (by omega), up_o (by omega), up_o (by omega), g4.e0 (by omega), up_o (by omega), g3.e0 (by omega), g2.e0 (by omega), up_o (by omega), g1.e0 (by omega)]
            have e92 : τ5 5 1792 = τ 5 1792 := by rw [et, if_neg (by omega), if_neg (by omega), if_neg (by omega)]
            have e93 : τ5 5 1793 = τ 5 1793 := by rw [et, if_neg (by omega), if_neg (by omega), if_neg (by omega)]
            have es : ∀ o k, o ≠ 5 → ¬ ((o = 20 ∨ o = 21 ∨ o = 22 ∨ o = 23) ∧ k = W) → ¬ (o = 19 ∧ k = 10) → awH σ5 W (v1 : Nat) g y o k = σ o k := fun o k z0 z1 z2 => by rw [awH_f ⟨z1, z2⟩]; exact fB.e z0
            refine .inl ⟨awH σ5 W (v1 : Nat) g y, τ5, W + 1, N, D, E, _, k5, v5, p5, ?_, fun K => ?_, ?_, c6.cg (fun o x q => awH_f (by omega)) (fun _ _ _ => rfl), PQ.mk ?_ ⟨fun w hw => ?_, fun i hi => ?_⟩ (fun k hk => ?_) ?_, ?_, ?_⟩
            · rw [eX, bd_s, zb_1]
            · show bd (M_readWordOf τ) (fun r s => TLm s K) = _
              rw [eQ, bd_s, c5.tl, y5, bd_s]
            · omega
            · refine hq.pr.adW (by omega) (g := g) (y := y) ⟨gl, gu⟩ ⟨yl, yu⟩ (fun o k z => ?_) (fun k z => ?_) ?_ ?_ ?_ ?_ ?_ ?_ ?_
              · exact hos_e (es o k (by omega) (by omega) (by omega)) e92 e93
              · rw [blk_5, blk_5, et, if_neg (by omega), if_neg (by omega), if_neg (by omega)]
              · rw [hos_v, if_neg (by omega), if_neg (by omega)]; unfold awH; rw [up_e]
              · rw [blk_5, et, if_pos (by omega)]
              · rw [hos_v, if_neg (by omega), if_neg (by omega)]; unfold awH; rw [up_o (by omega), up_o (by omega), up_o (by omega), up_e]
              · rw [blk_5, et, if_neg (by omega), if_neg (by omega), if_pos (by omega)]
              · rw [hos_v, if_neg (by omega), if_neg (by omega)]; unfold awH; rw [up_o (by omega), up_o (by omega), up_e]
              · rw [blk_5, et, if_neg (by omega), if_pos (by omega)]
              · rw [hos_v, if_neg (by omega), if_neg (by omega)]; unfold awH; rw [up_o (by omega), up_e]
            · rw [blk_8, e8]
              by_cases z : w = W
              · rw [if_pos (by omega), z]
                have : awH σ5 W (v1 : Nat) g y (19 + 1) W = (v1 : Nat) := by unfold awH; rw [up_o (by omega), up_o (by omega), up_o (by omega), up_o (by omega), up_e]
                rw [this]; exact hnc
              · rw [if_neg (by omega), es _ _ (by omega) (by omega) (by omega)]; have bq := hq.nm.1 w (by omega); rw [blk_8] at bq; exact bq
            · have bN := hq.pr.bN
              rw [blk_8, e8, if_neg (by omega), es _ _ (by omega) (by omega) (by omega)]; have bq := hq.nm.2 i hi; rw [blk_8] at bq; exact bq
            · rw [et, if_neg (by omega), if_neg (by omega), if_neg (by omega)]; exact hq.z k hk
            · exact hq.ho.cg (es _ _ (by omega) (by omega) (by omega)) (es _ _ (by omega) (by omega) (by omega)) e25 e92 e93
            · exact fB.g.tr (fun o k z => awH_f (by omega))
            · exact gB.tr g5.g
          · rw [x5, bd_s, if_pos rfl] at eX
            refine .inr ⟨σ5, τ5, by rw [eX, bd_s, zb_0], fun K => ?_, n5, (fA.tr (f3.tr (f4.tr f5))).g, gB.tr g5.g⟩
            show bd (M_readWordOf τ) (fun r s => TLm s K) = _
            rw [eQ, bd_s, c5.tl, y5, bd_s]
        · rw [x4, bd_s, if_pos rfl] at eX
          refine .inr ⟨σ4, up_s τ4 5 (1805 + W) 0, by rw [eX, bd_s, zb_0], fun K => ?_, fl_u1 n4, (fA.tr (f3.tr f4)).g, gA.tr (g3.g.tr ((GOM.u5 (by omega)).tr (g4.g.tr (GOM.u5 (by omega)))))⟩
          show bd (M_readWordOf τ) (fun r s => TLm s K) = _
          rw [eP, y4, a05, j72_b n4.b (by omega), bd_s, tl_b (fl_u1 (σ := σ4) n4).b]
      · rw [x3, bd_s, if_pos rfl] at eX
        refine .inr ⟨σ3, up_s (up_s τ3 5 (1797 + W) 0) 5 (1805 + W) 30, by rw [eX, bd_s, zb_0], fun K => ?_, fl_u2 n4, (fA.tr f3).g, gA.tr (g3.g.tr (go_u2 (by omega) (by omega)))⟩
        show bd (M_readWordOf τ) (fun r s => TLm s K) = _
        rw [eR, eG _ (is_grows c2.td), y3, a97, j39_b n4.b (by omega) (by omega), bd_s, tl_b (fl_u2 (σ := σ3) n4).b]
    · refine .inr ⟨σ2, up_s (up_s τ2 5 (1797 + 0) 1) 5 (1805 + 0) 30, ?_, fun K => ?_, fl_u2 n4, (f1.tr f2).g, (g1.tr g2).g.tr (go_u2 (by omega) (by omega))⟩
      · rw [PR_readWord, n2, bd_s, if_pos rfl, bd_s, zb_0]
      · show bd (M_readWordOf τ) (fun r s => TLm s K) = _
        rw [eM, eN, show RNT 0 W τ1 = _ from n3, bd_s, show MWT 0 τ2 = _ from mwt_b (r := 0) n4.b (by omega), bd_s, tl_b (fl_u2 (σ := σ2) n4).b]
end
