/-! when; any order -/
section
variable {n R j k v p : Nat} {B : Nat → Int} {b : Nat → Nat} {σ τ : Sg} {W N S O : Nat}
theorem CU.sn (h : CU n R B b j k v p σ τ) (x : Int) : To_isSignNext x σ = some (if k = 6 ∧ (v : Int) = x then 1 else 0, σ) := by
  rw [To_isSignNext, h.kd, h.vl]
  by_cases c : k = 6
  · by_cases d : (v : Int) = x
    · rw [if_pos (by omega), if_pos d, if_pos ⟨c, d⟩]
    · rw [if_pos (by omega), if_neg d, if_neg (fun z => d z.2)]
  · rw [if_neg (by omega), if_neg (fun z => c z.1)]
theorem must_1 {τ' : Sg} (h : τ 0 12 = 0) (ha : M_advance τ = some (0, τ')) : M_must 1 τ = some (0, τ') := by
  rw [M_must, h, if_neg (by omega), if_neg i10, ha, bd_s]
def WHN (σ : Sg) : Rs := bd (To_keyNext σ) (fun r15 s16 => if r15 = 20 then bd (To_take s16) (fun r17 s18 => bd (YR_readPersonAndWord 8 36 20 s18) (fun r19 s20 => zb r19 (some (r19, s20)))) else bd (YR_readHairTest 8 36 s16) (fun r21 s22 => zb r21 (some (r21, s22))))
set_option maxHeartbeats 1000000 in
theorem or_when (h : CU n R B b j k v p σ τ) (hN : NB 8 0 σ τ W N) (hy : YH S O σ) (hκ : τ 5 (1965 + 9 * S) = 5) :
    ORO n R B b j S O (OPQ W N S O) (WHN σ) (M_readRest ((1965 + 9 * S : Nat) : Int) τ) σ τ := by
  have hS := hy.2.2.2
  have ha : 1965 + 9 * S + 8 < 2235 := by omega
  have e85 : ∀ s, M_readRest_J85 ((1965 + 9 * S : Nat) : Int) 5 s = some (0, s) := fun s => by
    rw [M_readRest_J85, if_neg (by omega), if_neg (by omega), M_readRest_J109, if_neg (by omega), if_neg (by omega)]
  have eM0 : M_readRest ((1965 + 9 * S : Nat) : Int) τ = bd (M_readTest ((1965 + 9 * S : Nat) : Int) τ) (fun r s => some (0, s)) := by
    rw [M_readRest, rd_k (by omega) (by omega), Int.toNat_natCast, hκ, if_neg (by omega), if_neg (by omega), if_pos rfl]
    exact bd_c (fun r s => e85 s)
  by_cases c20 : k = 2 ∧ v = 20
  · have et : tst k v = 0 := by unfold tst; rw [if_pos c20]
    obtain ⟨σ1, τ1, k1, v1, p1, t1, t2, c1, f1, g1, t6, t7⟩ := h.take (by omega)
    have c1' := c1.u5 (1965 + 9 * S + 6) 0
    have nb1 := (hN.t f1 g1).u5 (k := 1965 + 9 * S + 6) (by omega) 0
    have eM : M_readTest ((1965 + 9 * S : Nat) : Int) τ = bd (M_readTold 0 1 (up_s τ1 5 (1965 + 9 * S + 6) 0)) (fun r6 s7 => if 0 < up_s s7 5 (1965 + 9 * S + 1) r6 0 12 then some (0, up_s s7 5 (1965 + 9 * S + 1) r6) else bd (M_readTold 0 0 (up_s s7 5 (1965 + 9 * S + 1) r6)) (fun r9 s10 => some (0, up_s s10 5 (1965 + 9 * S + 2) r9))) := by
      rw [M_readTest, tst_m h.td, bd_s, et, if_neg (by omega), M_readTest_J15, must_1 h.ok t2, bd_s, e_6 ha, w5 ha (by omega)]
      refine bd_c (fun r6 s7 => ?_)
      rw [e_1 ha, w5 ha (by omega), if_pos rfl]
      by_cases z : 0 < up_s s7 5 (1965 + 9 * S + 1) r6 0 12
      · rw [if_pos z, if_pos z]
      · rw [if_neg z, if_neg z]
        exact bd_c (fun r9 s10 => by rw [e_2 ha, w5 ha (by omega)])
    have eX : WHN σ = bd (YR_readPersonAndWord 8 36 20 σ1) (fun r19 s20 => zb r19 (some (r19, s20))) := by
      rw [WHN, h.kn, bd_s, if_pos c20.1, if_pos (by omega), t1, bd_s]
    have gA : FYA (1965 + 9 * S) τ (up_s τ1 5 (1965 + 9 * S + 6) 0) := g1.a.tr (FYA.u (by omega) (by omega))
    rw [YR_readPersonAndWord] at eX
    rcases c1'.rtP nb1 with ⟨r, σ2, τ2, rl, x2, y2, ⟨k2, v2, p2, c2⟩, f2, g2⟩ | ⟨σ2, τ2, x2, y2, n2, f2, g2⟩
    · have c2' := c2.u5 (1965 + 9 * S + 1) (r : Nat)
      have nb2 := (nb1.t f2 g2).u5 (k := 1965 + 9 * S + 1) (by omega) (r : Nat)
      have gB : FYA (1965 + 9 * S) τ (up_s τ2 5 (1965 + 9 * S + 1) (r : Nat)) := (gA.tr g2.a).tr (FYA.u (by omega) (by omega))
      rw [show M_readTold 0 1 _ = _ from y2, bd_s, c2'.ok, if_neg (by omega)] at eM
      rcases c2'.rtW nb2 with ⟨u, σ3, τ3, ul, x3, y3, ⟨k3, v3, p3, c3⟩, f3, g3⟩ | ⟨σ3, τ3, x3, y3, n3, f3, g3⟩
      · rw [show M_readTold 0 0 _ = _ from y3, bd_s] at eM
        refine oro_a (f1.tr (f2.tr f3)) (q := 20) (f := (r : Nat)) (s := (u : Nat)) (t := 0) ?_ (by rw [eM0, eM, bd_s]) (by omega) (c3.u5 _ _) ((gB.tr g3.a).tr (FYA.u (by omega) (by omega))) ?_
        · rw [eX, x2, bd_s, if_neg (by omega), x3, bd_s, if_neg (by omega), ya_1 (hy.t (f1.tr (f2.tr f3))) (by omega), bd_s, if_neg i10, bd_s, zb_1]
        · have v0 : up_s τ3 5 (1965 + 9 * S + 2) (u : Int) 5 (1965 + 9 * S) = 5 := by rw [up_v, if_neg (by omega), g3.e (by omega), up_v, if_neg (by omega), g2.e (by omega), up_v, if_neg (by omega), g1.e (by omega)]; exact hκ
          have v1 : up_s τ3 5 (1965 + 9 * S + 2) (u : Int) 5 (1965 + (9 * S + 1)) = r := by rw [up_v, if_neg (by omega), g3.e (by omega), up_v, if_pos (by omega)]
          have v2 : up_s τ3 5 (1965 + 9 * S + 2) (u : Int) 5 (1965 + (9 * S + 2)) = u := by rw [up_v, if_pos (by omega)]
          have v6 : up_s τ3 5 (1965 + 9 * S + 2) (u : Int) 5 (1965 + (9 * S + 6)) = 0 := by rw [up_v, if_neg (by omega), g3.e (by omega), up_v, if_neg (by omega), g2.e (by omega), up_v, if_pos (by omega)]
          exact .inl ⟨v0, v6, yaH_o, by rw [yaH_a]; exact v1.symm, by rw [yaH_s]; exact v2.symm, by rw [yaH_a]; omega, by rw [yaH_s]; omega⟩
      · rw [show M_readTold 0 0 _ = _ from y3, bd_s] at eM
        exact oro_b (f1.tr (f2.tr f3)) (by rw [eX, x2, bd_s, if_neg (by omega), x3, bd_s, if_pos rfl, bd_s, zb_0]) (by rw [eM0, eM, bd_s]) (n3.ba (BA.u (by omega) (by omega) : BA (1965 + 9 * S) τ3 _)) ((gB.tr g3.a).tr (FYA.u (by omega) (by omega)))
    · rw [show M_readTold 0 1 _ = _ from y2, bd_s, if_pos (by rw [up_o (by omega)]; exact n2.b)] at eM
      exact oro_b (f1.tr f2) (by rw [eX, x2, bd_s, if_pos rfl, bd_s, zb_0]) (by rw [eM0, eM, bd_s]) (n2.ba (BA.u (by omega) (by omega) : BA (1965 + 9 * S) τ2 _)) ((gA.tr g2.a).tr (FYA.u (by omega) (by omega)))
  · have eX0 : WHN σ = bd (YR_readHairTest 8 36 σ) (fun r21 s22 => zb r21 (some (r21, s22))) := by
      have e20 : ¬ (if k = 2 then (v : Int) else -1) = 20 := by split <;> omega
      rw [WHN, h.kn, bd_s, if_neg e20]
    rw [YR_readHairTest] at eX0
    by_cases c21 : k = 2 ∧ v = 21
    · have et : tst k v = 1 := by unfold tst; rw [if_neg c20, if_pos c21]
      obtain ⟨σ1, τ1, k1, v1, p1, t1, t2, c1, f1, g1, t6, t7⟩ := h.take (by omega)
      have c1' := c1.u5 (1965 + 9 * S + 6) 1
      have nb1 := (hN.t f1 g1).u5 (k := 1965 + 9 * S + 6) (by omega) 1
      have eK : To_takeKey 21 σ = some (1, σ1) := by rw [To_takeKey, h.kd, if_pos (by omega), h.vl, if_pos (by omega), t1, bd_s]
      have eM : M_readTest ((1965 + 9 * S : Nat) : Int) τ = bd (M_readTold 0 1 (up_s τ1 5 (1965 + 9 * S + 6) 1)) (fun r6 s7 => if 0 < up_s s7 5 (1965 + 9 * S + 1) r6 0 12 then some (0, up_s s7 5 (1965 + 9 * S + 1) r6) else (if up_s s7 5 (1965 + 9 * S + 1) r6 0 14 = 3 then M_readTest_J93 ((1965 + 9 * S : Nat) : Int) ((1965 + 9 * S + 7 : Nat) : Int) (up_s s7 5 (1965 + 9 * S + 1) r6 0 17) (up_s s7 5 (1965 + 9 * S + 1) r6) else M_readTest_J93 ((1965 + 9 * S : Nat) : Int) ((1965 + 9 * S + 7 : Nat) : Int) 0 (up_s s7 5 (1965 + 9 * S + 1) r6))) := by
        rw [M_readTest, tst_m h.td, bd_s, et, if_neg (by omega), M_readTest_J15, must_1 h.ok t2, bd_s, e_6 ha, w5 ha (by omega)]
        refine bd_c (fun r6 s7 => ?_)
        rw [e_1 ha, w5 ha (by omega), if_neg i10, e_7 ha]
      have gA : FYA (1965 + 9 * S) τ (up_s τ1 5 (1965 + 9 * S + 6) 1) := g1.a.tr (FYA.u (by omega) (by omega))
      rw [eK, bd_s, if_neg i10] at eX0
      rcases c1'.rtP nb1 with ⟨r, σ2, τ2, rl, x2, y2, ⟨k2, v2, p2, c2⟩, f2, g2⟩ | ⟨σ2, τ2, x2, y2, n2, f2, g2⟩
      · have c2' := c2.u5 (1965 + 9 * S + 1) (r : Nat)
        have gB : FYA (1965 + 9 * S) τ (up_s τ2 5 (1965 + 9 * S + 1) (r : Nat)) := (gA.tr g2.a).tr (FYA.u (by omega) (by omega))
        rw [show M_readTold 0 1 _ = _ from y2, bd_s, c2'.ok, if_neg (by omega)] at eM
        rw [x2, bd_s, if_neg (by omega), c2.sn, bd_s] at eX0
        obtain ⟨q1, q2⟩ := c2'.td.sgn
        obtain ⟨z, hz, eM2⟩ : ∃ z : Int, (k2 = 6 → z = v2) ∧ M_readTest ((1965 + 9 * S : Nat) : Int) τ = M_readTest_J93 ((1965 + 9 * S : Nat) : Int) ((1965 + 9 * S + 7 : Nat) : Int) z (up_s τ2 5 (1965 + 9 * S + 1) (r : Nat)) := by
          by_cases c6 : k2 = 6
          · exact ⟨_, fun _ => (q2 c6).1, by rw [eM, if_pos (q1.1 c6)]⟩
          · exact ⟨0, fun z => absurd z c6, by rw [eM, if_neg (fun z => c6 (q1.2 z))]⟩
        have c3 := c2'.u5 (1965 + 9 * S + 7) z
        have gC : FYA (1965 + 9 * S) τ (up_s (up_s τ2 5 (1965 + 9 * S + 1) (r : Nat)) 5 (1965 + 9 * S + 7) z) := gB.tr (FYA.u (by omega) (by omega))
        rw [M_readTest_J93, w5 ha (by omega), sign_m c3.td, bd_s] at eM2
        have eT : M_readTest ((1965 + 9 * S : Nat) : Int) τ = M_readTest_J127 ((1965 + 9 * S : Nat) : Int) (if k2 = 6 ∧ (v2 = 60 ∨ v2 = 62 ∨ v2 = 61) then 1 else 0) (up_s (up_s τ2 5 (1965 + 9 * S + 1) (r : Nat)) 5 (1965 + 9 * S + 7) z) := by
          rw [eM2]
          by_cases d1 : k2 = 6 ∧ (v2 : Int) = 60
          · rw [if_pos d1, if_neg i10, M_readTest_J122, if_pos ⟨d1.1, by omega⟩]
          · rw [if_neg d1, if_pos rfl, sign_m c3.td, bd_s]
            by_cases d2 : k2 = 6 ∧ (v2 : Int) = 62
            · rw [if_pos d2, if_neg i10, M_readTest_J122, if_pos ⟨d2.1, by omega⟩]
            · rw [if_neg d2, if_pos rfl, sign_m c3.td, bd_s]
              by_cases d3 : k2 = 6 ∧ (v2 : Int) = 61
              · rw [if_pos d3, if_neg i10, M_readTest_J122, if_pos ⟨d3.1, by omega⟩]
              · rw [if_neg d3, if_pos rfl, if_neg (by omega)]
        have eY : WHN σ = bd (if k2 = 6 ∧ (v2 = 60 ∨ v2 = 62 ∨ v2 = 61) then YR_readHairTest_J56 36 (r : Nat) σ2 else bd (To_misfit σ2) (fun r11 s12 => zb r11 (some (r11, s12)))) (fun r21 s22 => zb r21 (some (r21, s22))) := by
          rw [eX0]
          by_cases d1 : k2 = 6 ∧ (v2 : Int) = 60
          · rw [if_pos d1, if_neg i10, if_pos ⟨d1.1, by omega⟩]
          · rw [if_neg d1, if_pos rfl, c2.sn, bd_s]
            by_cases d2 : k2 = 6 ∧ (v2 : Int) = 62
            · rw [if_pos d2, if_neg i10, if_pos ⟨d2.1, by omega⟩]
            · rw [if_neg d2, if_pos rfl, c2.sn, bd_s]
              by_cases d3 : k2 = 6 ∧ (v2 : Int) = 61
              · rw [if_pos d3, if_neg i10, if_pos ⟨d3.1, by omega⟩]
              · rw [if_neg d3, if_pos rfl, if_neg (by omega)]
        by_cases cs : k2 = 6 ∧ (v2 = 60 ∨ v2 = 62 ∨ v2 = 61)
        · rw [if_pos cs, M_readTest_J127] at eT
          rw [if_pos cs, YR_readHairTest_J56, c2.vl, w32_i (by omega) (by omega), nm_k] at eY
          obtain ⟨σ3, τ3, k3, v3, p3, u1, u2, c4, f3, g3, u6, u7⟩ := c3.take (by omega)
          rw [must_1 c3.ok u2, bd_s] at eT
          rw [u1, bd_s] at eY
          have hzv : z = v2 := hz cs.1
          rcases c4.num (x := 0) (y := 9999) (by omega) (by omega) with ⟨σ4, τ4, g, gl, gu, x4, y4, ⟨k4, v4, p4, c5⟩, f4, g4⟩ | ⟨σ4, τ4, x4, y4, n4, f4, g4⟩
          · rw [y4, bd_s, e_2 ha, w5 ha (by omega)] at eT
            rw [x4, bd_s, if_neg (by omega), ya_1 (hy.t (f1.tr (f2.tr (f3.tr f4)))) (by omega), bd_s, if_neg i10, bd_s, zb_1] at eY
            refine oro_a (f1.tr (f2.tr (f3.tr f4))) eY (by rw [eM0, eT, bd_s]) (by omega) (c5.u5 _ _) ((gC.tr (g3.tr g4).a).tr (FYA.u (by omega) (by omega))) ?_
            have v0 : up_s τ4 5 (1965 + 9 * S + 2) (g : Int) 5 (1965 + 9 * S) = 5 := by rw [up_v, if_neg (by omega), g4.e (by omega), g3.e (by omega), up_v, if_neg (by omega), up_v, if_neg (by omega), g2.e (by omega), up_v, if_neg (by omega), g1.e (by omega)]; exact hκ
            have v1 : up_s τ4 5 (1965 + 9 * S + 2) (g : Int) 5 (1965 + (9 * S + 1)) = r := by rw [up_v, if_neg (by omega), g4.e (by omega), g3.e (by omega), up_v, if_neg (by omega), up_v, if_pos (by omega)]
            have v2' : up_s τ4 5 (1965 + 9 * S + 2) (g : Int) 5 (1965 + (9 * S + 2)) = g := by rw [up_v, if_pos (by omega)]
            have v6 : up_s τ4 5 (1965 + 9 * S + 2) (g : Int) 5 (1965 + (9 * S + 6)) = 1 := by rw [up_v, if_neg (by omega), g4.e (by omega), g3.e (by omega), up_v, if_neg (by omega), up_v, if_neg (by omega), g2.e (by omega), up_v, if_pos (by omega)]
            have v7 : up_s τ4 5 (1965 + 9 * S + 2) (g : Int) 5 (1965 + (9 * S + 7)) = v2 := by rw [up_v, if_neg (by omega), g4.e (by omega), g3.e (by omega), up_v, if_pos (by omega)]; exact hzv
            exact .inr (.inl ⟨v0, v6, yaH_o, by rw [yaH_a]; exact v1.symm, by rw [yaH_s]; exact v7.symm, by rw [yaH_t]; exact v2'.symm, by rw [yaH_a]; omega, by rw [yaH_t]; omega, by rw [yaH_s]; omega⟩)
          · rw [y4, bd_s, e_2 ha, w5 ha (by omega)] at eT
            rw [x4, bd_s, if_pos rfl, bd_s, zb_0] at eY
            exact oro_b (f1.tr (f2.tr (f3.tr f4))) eY (by rw [eM0, eT, bd_s]) (n4.ba (BA.u (by omega) (by omega) : BA (1965 + 9 * S) τ4 _)) ((gC.tr (g3.tr g4).a).tr (FYA.u (by omega) (by omega)))
        · obtain ⟨f, fa, fb, fc⟩ := c3.mis
          rw [if_neg cs, M_readTest_J127, M_must, c3.ok, if_neg (by omega), if_pos rfl, fc, bd_s, bd_s, count_b (by rw [fm_12]; exact fa), bd_s, e_2 ha, w5 ha (by omega)] at eT
          rw [if_neg cs, fb, bd_s, zb_0, bd_s, zb_0] at eY
          exact oro_b (f1.tr (f2.tr (fl_h _ _ _))) eY (by rw [eM0, eT, bd_s]) ((fl_2 _ _ _ fa).ba (BA.u (by omega) (by omega) : BA (1965 + 9 * S) _ _)) ((gC.tr (fl_m _ _ _).a).tr (FYA.u (by omega) (by omega)))
      · rw [show M_readTold 0 1 _ = _ from y2, bd_s, if_pos (by rw [up_o (by omega)]; exact n2.b)] at eM
        rw [x2, bd_s, if_pos rfl, bd_s, zb_0] at eX0
        exact oro_b (f1.tr f2) eX0 (by rw [eM0, eM, bd_s]) (n2.ba (BA.u (by omega) (by omega) : BA (1965 + 9 * S) τ2 _)) ((gA.tr g2.a).tr (FYA.u (by omega) (by omega)))
    · have et : tst k v = -1 := by unfold tst; rw [if_neg c20, if_neg c21]
      obtain ⟨f, fa, fb, fc⟩ := h.mis
      have eK : To_takeKey 21 σ = some (0, fh σ f p) := by
        rw [To_takeKey, h.kd, h.vl]
        by_cases d : k = 2
        · rw [if_pos (by omega), if_neg (by omega), fb, bd_s, zb_0]
        · rw [if_neg (by omega), fb, bd_s, zb_0]
      have b6 : 0 < up_s (fm τ f p) 5 (1965 + 9 * S + 6) (-1) 0 12 := by rw [up_o (by omega), fm_12]; exact fa
      have eM : M_readTest ((1965 + 9 * S : Nat) : Int) τ = some (0, up_s (up_s (fm τ f p) 5 (1965 + 9 * S + 6) (-1)) 5 (1965 + 9 * S + 1) 0) := by
        rw [M_readTest, tst_m h.td, bd_s, et, if_pos (by omega), M_readTest_J15, M_must, h.ok, if_neg (by omega), if_pos rfl, fc, bd_s, bd_s, e_6 ha, w5 ha (by omega), rt_b b6, bd_s, e_1 ha, w5 ha (by omega), if_pos (by rw [up_o (by omega)]; exact b6)]
      rw [eK, bd_s, if_pos rfl, bd_s, zb_0] at eX0
      exact oro_b (fl_h _ _ _) eX0 (by rw [eM0, eM, bd_s]) ((fl_2 _ _ _ fa).ba ((BA.u (by omega) (by omega) : BA (1965 + 9 * S) _ _).tr (BA.u (by omega) (by omega)))) (((fl_m _ _ _).a.tr (FYA.u (by omega) (by omega))).tr (FYA.u (by omega) (by omega)))
/-- the kinds of steps, by their keys -/
def KQ (v : Nat) (κ : Int) : Prop := (v = 12 ∧ κ = 0) ∨ (v = 13 ∧ κ = 1) ∨ (v = 14 ∧ κ = 2) ∨ (v = 16 ∧ κ = 3) ∨ (v = 18 ∧ κ = 4) ∨ (v = 24 ∧ κ = 7) ∨ (v = 19 ∧ κ = 5) ∨ (v = 22 ∧ κ = 6)
def OPV (v : Nat) : Prop := v = 19 ∨ v = 22
theorem ro_v (v : Nat) (hv : ∃ κ, KQ v κ) (σ : Sg) : YR_readOrder 8 36 (v : Nat) σ = if v = 12 then bd (YR_readCount 36 12 20 σ) (fun r s => zb r (some (r, s))) else if v = 22 then bd (YR_readCount 36 22 99 σ) (fun r s => zb r (some (r, s))) else if v = 13 then bd (YR_readPersonAndWord 8 36 13 σ) (fun r s => zb r (some (r, s))) else if v = 14 then bd (YR_readSaying 8 36 σ) (fun r s => zb r (some (r, s))) else if v = 16 then bd (YR_readCutting 8 36 σ) (fun r s => zb r (some (r, s))) else if v = 19 then WHN σ else bd (Ye_add 36 (v : Nat) 0 0 0 σ) (fun r s => zb r (some (r, s))) := by
  obtain ⟨κ, hv⟩ := hv
  rcases hv with ⟨rfl, _⟩ | ⟨rfl, _⟩ | ⟨rfl, _⟩ | ⟨rfl, _⟩ | ⟨rfl, _⟩ | ⟨rfl, _⟩ | ⟨rfl, _⟩ | ⟨rfl, _⟩ <;> rfl
theorem or_any (h : CU n R B b j k v p σ τ) (hN : NB 8 0 σ τ W N) (hy : YH S O σ) {q : Nat} {κ : Int} (hq : KQ q κ) (hκ : τ 5 (1965 + 9 * S) = κ) :
    ORO n R B b j S O (fun σ' τ' => (OPV q → OPQ W N S O σ' τ') ∧ (¬ OPV q → PLQ W N S O σ' τ')) (YR_readOrder 8 36 (q : Nat) σ) (M_readRest ((1965 + 9 * S : Nat) : Int) τ) σ τ := by
  have pl : ∀ {X : Rs}, ¬ OPV q → ORO n R B b j S O (PLQ W N S O) X (M_readRest ((1965 + 9 * S : Nat) : Int) τ) σ τ → ORO n R B b j S O (fun σ' τ' => (OPV q → OPQ W N S O σ' τ') ∧ (¬ OPV q → PLQ W N S O σ' τ')) X (M_readRest ((1965 + 9 * S : Nat) : Int) τ) σ τ := fun {X} hn hr => by
    rcases hr with ⟨σ', τ', j', k', v', p', a1, a2, a3, a4, a5, a6, a7, a8, a9, a10⟩ | hr
    · exact .inl ⟨σ', τ', j', k', v', p', a1, a2, a3, a4, a5, a6, a7, a8, a9, fun z => absurd z hn, fun _ => a10⟩
    · exact .inr hr
  have op : ∀ {X : Rs}, OPV q → ORO n R B b j S O (OPQ W N S O) X (M_readRest ((1965 + 9 * S : Nat) : Int) τ) σ τ → ORO n R B b j S O (fun σ' τ' => (OPV q → OPQ W N S O σ' τ') ∧ (¬ OPV q → PLQ W N S O σ' τ')) X (M_readRest ((1965 + 9 * S : Nat) : Int) τ) σ τ := fun {X} hn hr => by
    rcases hr with ⟨σ', τ', j', k', v', p', a1, a2, a3, a4, a5, a6, a7, a8, a9, a10⟩ | hr
    · exact .inl ⟨σ', τ', j', k', v', p', a1, a2, a3, a4, a5, a6, a7, a8, a9, fun _ => a10, fun z => absurd hn z⟩
    · exact .inr hr
  rw [ro_v q ⟨κ, hq⟩]
  rcases hq with ⟨rfl, rfl⟩ | ⟨rfl, rfl⟩ | ⟨rfl, rfl⟩ | ⟨rfl, rfl⟩ | ⟨rfl, rfl⟩ | ⟨rfl, rfl⟩ | ⟨rfl, rfl⟩ | ⟨rfl, rfl⟩
  · rw [if_pos rfl]
    refine pl (by unfold OPV; omega) ?_
    have z := or_count (W := W) (N := N) h hy (q := 12) (κ := 0) (most := 20) (.inl ⟨rfl, rfl, rfl⟩) hκ
    simp only [↓reduceIte] at z
    exact z
  · rw [if_neg (by omega), if_neg (by omega), if_pos rfl]
    exact pl (by unfold OPV; omega) (or_keep h hN hy hκ)
  · rw [if_neg (by omega), if_neg (by omega), if_neg (by omega), if_pos rfl]
    exact pl (by unfold OPV; omega) (or_say h hN hy hκ)
  · rw [if_neg (by omega), if_neg (by omega), if_neg (by omega), if_neg (by omega), if_pos rfl]
    exact pl (by unfold OPV; omega) (or_cut h hN hy hκ)
  · rw [if_neg (by omega), if_neg (by omega), if_neg (by omega), if_neg (by omega), if_neg (by omega), if_neg (by omega)]
    exact pl (by unfold OPV; omega) (or_bare h hy (.inl ⟨rfl, rfl⟩) hκ)
  · rw [if_neg (by omega), if_neg (by omega), if_neg (by omega), if_neg (by omega), if_neg (by omega), if_neg (by omega)]
    exact pl (by unfold OPV; omega) (or_bare h hy (.inr ⟨rfl, rfl⟩) hκ)
  · rw [if_neg (by omega), if_neg (by omega), if_neg (by omega), if_neg (by omega), if_neg (by omega), if_pos rfl]
    exact op (by unfold OPV; omega) (or_when h hN hy hκ)
  · rw [if_neg (by omega), if_pos rfl]
    refine op (by unfold OPV; omega) ?_
    have z := or_count (W := W) (N := N) h hy (q := 22) (κ := 6) (most := 99) (.inr ⟨rfl, rfl, rfl⟩) hκ
    simp only [show ¬ (22 : Int) = 12 by omega, ↓reduceIte] at z
    exact z
end
