/-! the parts of a province: rules; any part -/
theorem sw_g {d : Rs} : ∀ (l : List Rs) (i : Nat) (lo : Int), i < l.length → sw (lo + i) lo l d = l.getD i d
  | [], i, lo, h => absurd h (Nat.not_lt_zero i)
  | a :: l, 0, lo, _ => by rw [sw, if_pos (by omega)]; rfl
  | a :: l, i + 1, lo, h => by
    rw [sw, if_neg (by omega), show lo + ((i + 1 : Nat) : Int) = lo + 1 + i by omega, sw_g l i (lo + 1) (Nat.lt_of_succ_lt_succ h)]; rfl
theorem sw_0 {l : List Rs} {d : Rs} (i : Nat) (h : i < l.length) : sw (i : Int) 0 l d = l.getD i d := by
  have := sw_g (d := d) l i 0 h
  rw [Int.zero_add] at this; exact this
theorem j48_h {σ : Sg} (v3 t1 t2 : Int) : PR_readRule_J48 19 v3 t1 t2 σ = bd (To_takeNumber t1 t2 σ) (fun r1 s2 => if r1 = -1 then some (0, s2) else bd (To_takeClosing s2) (fun r3 s4 => if r3 = 0 then some (0, s4) else some (1, up_s s4 19 (if v3 = 0 then 15 else 14) r1))) := by
  rw [PR_readRule_J48]
  by_cases c : v3 = 0
  · simp only [c, ↓reduceIte, nm_k]
  · simp only [c, ↓reduceIte, nm_k]
def bi (q : Nat) : Int := if q = 0 then 99 else 16
section
variable {n R j k v p : Nat} {B : Nat → Int} {b : Nat → Nat} {σ τ : Sg} {W N D E : Nat}
/-- what the class asks: told already? -/
theorem rule_h (q : Nat) (hq : q < 2) (σ : Sg) : PR_readRule 19 q σ = if σ 19 (14 + q) = -1 then bd (To_takeNumber 0 (bi q) σ) (fun r1 s2 => if r1 = -1 then some (0, s2) else bd (To_takeClosing s2) (fun r3 s4 => if r3 = 0 then some (0, s4) else some (1, up_s s4 19 (14 + q) r1))) else bd (To_reject 5 σ) (fun r7 s8 => zb r7 (some (r7, s8))) := by
  have h2 : q = 0 ∨ q = 1 := by omega
  rcases h2 with rfl | rfl
  · rw [PR_readRule, if_pos (show ((0 : Nat) : Int) = 0 from rfl), PR_readRule_J9, if_neg i10, PR_readRule_J25, if_neg i10, j48_h, if_neg i10]; rfl
  · rw [PR_readRule, if_neg (show ¬ ((1 : Nat) : Int) = 0 by omega), PR_readRule_J9, if_pos rfl, PR_readRule_J25, if_pos rfl, j48_h, if_pos rfl]; rfl
theorem once_b {τ : Sg} (h : 0 < τ 0 12) (x y : Int) : M_readOnce_J20 x y τ = some (0, τ) := by rw [M_readOnce_J20, if_pos h]
set_option maxHeartbeats 1000000 in
theorem rd_rule (h : CU n R B b j k v p σ τ) (hq : PQ σ τ W N D E) (hk : k ≠ 0) (q : Nat) (hq2 : q < 2) :
    ROUT n R B b j (PR_readPart_J68 19 q σ) (fun K => bd (M_readOnce q (bi q) τ) (fun r s => TLm s K)) σ τ := by
  obtain ⟨σ1, τ1', k1', v1', p1', t1, t2', c1', f1, g1', t6, t7⟩ := h.take hk
  obtain ⟨a, c, ha, hc, h25, ha0, ha1, hc0, hc1⟩ := hq.ho
  -- the bit of this rule
  obtain ⟨m, hm1, hmh, hmo, hmb, hm0, hmx⟩ : ∃ m : Nat, m ≤ 1 ∧ M_has (τ 0 25) q τ = some ((m : Int), τ) ∧ (m = 0 → or32 (τ 0 25) (sl32 1 (q : Nat)) = (((if q = 0 then 1 else a) + 2 * (if q = 0 then c else 1) : Nat) : Int)) ∧ (m = 1 → σ 19 (14 + q) = τ 5 (1792 + q)) ∧ (m = 0 → σ 19 (14 + q) = -1) ∧ True := by
    have z2 : q = 0 ∨ q = 1 := by omega
    have z3 : a = 0 ∨ a = 1 := by omega
    have z4 : c = 0 ∨ c = 1 := by omega
    have hh : ∀ x : Nat, x < 4 → an32 (sr32 (x : Nat) (q : Nat)) 1 = if x.testBit q then 1 else 0 := fun x hx => hb_n (by omega) (by omega)
    rcases z2 with rfl | rfl
    · refine ⟨a, ha, ?_, fun z => ?_, fun z => ha1 z, fun z => (ha0 z).1, trivial⟩
      · rw [has_m, h25, hh _ (by omega)]
        rcases z3 with rfl | rfl <;> rcases z4 with rfl | rfl <;> rfl
      · subst z
        rw [h25, sl_1 (by omega), or_n (by omega) (by omega)]
        rcases z4 with rfl | rfl <;> rfl
    · refine ⟨c, hc, ?_, fun z => ?_, fun z => hc1 z, fun z => (hc0 z).1, trivial⟩
      · rw [has_m, h25, hh _ (by omega)]
        rcases z3 with rfl | rfl <;> rcases z4 with rfl | rfl <;> rfl
      · subst z
        rw [h25, sl_1 (by omega), or_n (by omega) (by omega)]
        rcases z3 with rfl | rfl <;> rfl
  have hb1 := hq.pr.hdb
  have hb2 := hq.pr.odb
  rw [blk_5] at hb1 hb2
  have hnn : 0 ≤ τ 5 (1792 + q) := by
    have z2 : q = 0 ∨ q = 1 := by omega
    rcases z2 with rfl | rfl
    · exact hb1.1
    · exact hb2.1
  have eX0 : PR_readPart_J68 19 q σ = bd (PR_readRule 19 q σ1) (fun r5 s6 => zb r5 (some (r5, s6))) := by rw [PR_readPart_J68, t1, bd_s]
  rw [eX0, rule_h q hq2, f1.e (by omega)]
  by_cases cm : m = 1
  · have hx := hmb cm
    refine .inr ⟨fh σ1 5 p, fm τ 5 p, ?_, fun K => ?_, fl_2 _ _ _ (by omega), (f1.tr (fl_h _ _ _)).g, (fl_m _ _ _).g⟩
    · rw [if_neg (by omega), rej_h t6, bd_s, zb_0, bd_s, zb_0]
    · have b0 : 0 < fm τ 5 p 0 12 := by rw [fm_12]; omega
      show bd (M_readOnce q (bi q) τ) (fun r s => TLm s K) = _
      rw [M_readOnce, hmh, bd_s, if_neg (by omega), h.ap, fail_m h.ok, bd_s, once_b b0, bd_s, tl_b b0]
  · have cm0 : m = 0 := by omega
    have hx := hm0 cm0
    rw [if_pos hx]
    have h1 : CU n R B b j k v p σ (up_s τ 0 25 (or32 (τ 0 25) (sl32 1 (q : Nat)))) := h.cg (fun _ _ _ => rfl) (fun o x z => by rw [up_v, if_neg (by omega)])
    obtain ⟨σ1', τ1, k1, v1, p1, u1, t2, c1, u2, g1, u3, u4⟩ := h1.take hk
    have e1 : σ1' = σ1 := by
      rw [t1] at u1
      exact ((Prod.mk.inj (Option.some.inj u1)).2).symm
    subst e1
    have eM : M_readOnce q (bi q) τ = bd (M_count 0 (bi q) τ1) (fun r6 s7 => some (0, up_s s7 5 (1792 + q) r6)) := by
      rw [M_readOnce, hmh, bd_s, if_pos (by omega), M_readOnce_J20, h.ok, if_neg (by omega), nm_k, t2, bd_s, w32_i (by omega) (by omega), show 1792 + (q : Int) = ((1792 + q : Nat) : Int) by omega]
      refine bd_c (fun r6 s7 => ?_)
      rw [wr_k (by omega) (by omega), Int.toNat_natCast]
    have hbi : bi q ≤ 9999 := by unfold bi; split <;> omega
    have gA : GOM τ τ1 := GOM.u0.tr g1.g
    rcases c1.num (x := 0) (y := bi q) (by omega) hbi with ⟨σ5, τ5, g, gl, gu, x5, y5, ⟨k5, v5, p5, c5⟩, f5, g5⟩ | ⟨σ5, τ5, x5, y5, n5, f5, g5⟩
    · have c6 := c5.u5 (1792 + q) (g : Nat)
      rw [x5, bd_s, if_neg (by omega)]
      rw [y5, bd_s] at eM
      rcases c6.cls with ⟨σ6, τ6, x6, y6, ⟨k6, v6, p6, c7⟩, f6, g6⟩ | ⟨σ6, τ6, x6, y6, n6, f6, g6⟩
      · have fC : T5 σ σ6 := f1.tr (f5.tr f6)
        have et : ∀ k, τ6 5 k = if k = 1792 + q then (g : Int) else τ 5 k := fun k => by
          rw [g6.e (by omega), up_v, g5.e (by omega), g1.e (by omega), up_o (by omega)]
          by_cases z1 : k = 1792 + q
          · rw [if_pos ⟨rfl, z1⟩, if_pos z1]
          · rw [if_neg (by omega), if_neg z1]
        have e8 : ∀ k, τ6 8 k = τ 8 k := fun k => by rw [g6.e (by omega), up_o (by omega), g5.e (by omega), g1.e (by omega), up_o (by omega)]
        have e25 : τ6 0 25 = or32 (τ 0 25) (sl32 1 (q : Nat)) := by rw [g6.e0 (by omega), up_o (by omega), g5.e0 (by omega), g1.e0 (by omega), up_e]
        have es : ∀ o k, o ≠ 5 → ¬ (o = 19 ∧ k = 14 + q) → up_s σ6 19 (14 + q) (g : Nat) o k = σ o k := fun o k z0 z1 => by rw [up_v, if_neg z1]; exact fC.e z0
        have eg : up_s σ6 19 (14 + q) (g : Nat) 19 (14 + q) = (g : Nat) := up_e
        refine .inl ⟨up_s σ6 19 (14 + q) (g : Nat), τ6, W, N, D, E, _, k6, v6, p6, ?_, fun K => ?_, ?_, c7.cg (fun o x z => up_o (by omega)) (fun _ _ _ => rfl), PQ.mk ?_ ⟨fun w hw => ?_, fun i hi => ?_⟩ (fun k hk => ?_) ?_, ?_, ?_⟩
        · rw [x6, bd_s, if_neg i10, bd_s, zb_1]
        · show bd (M_readOnce q (bi q) τ) (fun r s => TLm s K) = _
          rw [eM, bd_s, c6.tl, y6, bd_s]
        · omega
        · have hgu : (g : Int) ≤ if q = 0 then 99 else 16 := gu
          refine hq.pr.adR (fun o k z => ?_) (fun k z => ?_) ?_ ?_ ?_ ?_
          · rw [hos_v, hos_v, if_neg (by omega), if_neg (by omega), if_neg (by omega), if_neg (by omega), es o k (by omega) (by omega)]
          · rw [blk_5, blk_5, et, if_neg (by omega)]
          · rw [hos_v, if_neg (by omega), if_pos (by omega), blk_5]
          · rw [blk_5, et]
            by_cases z : q = 0
            · rw [if_pos (by omega)]; rw [if_pos z] at hgu; omega
            · rw [if_neg (by omega)]; exact hb1
          · rw [hos_v, if_pos (by omega), blk_5]
          · rw [blk_5, et]
            by_cases z : q = 0
            · rw [if_neg (by omega)]; exact hb2
            · rw [if_pos (by omega)]; rw [if_neg z] at hgu; omega
        · rw [blk_8, e8, es _ _ (by omega) (by omega)]; have bq := hq.nm.1 w hw; rw [blk_8] at bq; exact bq
        · rw [blk_8, e8, es _ _ (by omega) (by omega)]; have bq := hq.nm.2 i hi; rw [blk_8] at bq; exact bq
        · rw [et, if_neg (by omega)]; exact hq.z k hk
        · have z2 : q = 0 ∨ q = 1 := by omega
          rcases z2 with rfl | rfl
          · refine ⟨1, c, by omega, hc, by rw [e25, hmo cm0, if_pos rfl, if_pos rfl], fun z => by omega, fun _ => ?_, fun z => ?_, fun z => ?_⟩
            · rw [et, if_pos rfl]; exact eg
            · rw [es _ _ (by omega) (by omega), et, if_neg (by omega)]; exact hc0 z
            · rw [es _ _ (by omega) (by omega), et, if_neg (by omega)]; exact hc1 z
          · refine ⟨a, 1, ha, by omega, by rw [e25, hmo cm0, if_neg (by omega), if_neg (by omega)], fun z => ?_, fun z => ?_, fun z => by omega, fun _ => ?_⟩
            · rw [es _ _ (by omega) (by omega), et, if_neg (by omega)]; exact ha0 z
            · rw [es _ _ (by omega) (by omega), et, if_neg (by omega)]; exact ha1 z
            · rw [et, if_pos rfl]; exact eg
        · exact fC.g.tr (GOH.up (by omega))
        · exact gA.tr (g5.g.tr ((GOM.u5 (by omega)).tr g6.g))
      · refine .inr ⟨σ6, τ6, by rw [x6, bd_s, if_pos rfl, bd_s, zb_0], fun K => ?_, n6, (f1.tr (f5.tr f6)).g, gA.tr (g5.g.tr ((GOM.u5 (by omega)).tr g6.g))⟩
        show bd (M_readOnce q (bi q) τ) (fun r s => TLm s K) = _
        rw [eM, bd_s, c6.tl, y6, bd_s]
    · rw [x5, bd_s, if_pos rfl]
      rw [y5, bd_s] at eM
      refine .inr ⟨σ5, up_s τ5 5 (1792 + q) 0, by rw [bd_s, zb_0], fun K => ?_, fl_u1 n5, (f1.tr f5).g, gA.tr (g5.g.tr (GOM.u5 (by omega)))⟩
      show bd (M_readOnce q (bi q) τ) (fun r s => TLm s K) = _
      rw [eM, bd_s, tl_b (fl_u1 (σ := σ5) n5).b]
/-- any part -/
def RPm (τ : Sg) (K : Sg → Rs) : Rs := bd (M_readPart τ) (fun _ s9 => TLm s9 K)
theorem rd_part (h : CU n R B b j k v p σ τ) (hq : PQ σ τ W N D E) : ROUT n R B b j (PR_readPart 19 σ) (RPm τ) σ τ := by
  have hY : ∀ K, RPm τ K = (if k = 2 ∧ v = 0 then bd (M_readOnce 0 99 τ) (fun r s => TLm s K) else if k = 2 ∧ v = 1 then bd (M_readOnce 1 16 τ) (fun r s => TLm s K) else if k = 2 ∧ v = 2 then bd (M_readWordOf τ) (fun r s => TLm s K) else if k = 2 ∧ v = 5 then bd (M_readPerson τ) (fun r s => TLm s K) else if k = 2 ∧ v = 9 then bd (M_readDinner τ) (fun r s => TLm s K) else if k = 2 ∧ v = 11 then bd (M_readHalves τ) (fun r s => TLm s K) else bd (M_amiss τ) (fun r s => TLm s K)) := fun K => by
    have bb : ∀ x : Rs, bd (bd x (fun r s => some (0, s))) (fun _ s9 => TLm s9 K) = bd x (fun r s => TLm s K) := fun x => by cases x <;> rfl
    rw [RPm, M_readPart, is_heard h.td, bd_s]
    by_cases c0 : k = 2 ∧ v = 0
    · rw [if_pos c0, if_pos c0, if_neg i10, bb]
    rw [if_neg c0, if_neg c0, if_pos rfl, is_odds h.td, bd_s]
    by_cases c1 : k = 2 ∧ v = 1
    · rw [if_pos c1, if_pos c1, if_neg i10, bb]
    rw [if_neg c1, if_neg c1, if_pos rfl, is_word h.td, bd_s]
    by_cases c2 : k = 2 ∧ v = 2
    · rw [if_pos c2, if_pos c2, if_neg i10, bb]
    rw [if_neg c2, if_neg c2, if_pos rfl, is_person h.td, bd_s]
    by_cases c5 : k = 2 ∧ v = 5
    · rw [if_pos c5, if_pos c5, if_neg i10, bb]
    rw [if_neg c5, if_neg c5, if_pos rfl, is_dinner h.td, bd_s]
    by_cases c9 : k = 2 ∧ v = 9
    · rw [if_pos c9, if_pos c9, if_neg i10, bb]
    rw [if_neg c9, if_neg c9, if_pos rfl, is_halves h.td, bd_s]
    by_cases c11 : k = 2 ∧ v = 11
    · rw [if_pos c11, if_pos c11, if_neg i10, bb]
    rw [if_neg c11, if_neg c11, if_pos rfl, bb]
  have cgR : ∀ {X Y Y'}, ROUT n R B b j X Y σ τ → (∀ K, Y' K = Y K) → ROUT n R B b j X Y' σ τ := fun {X Y Y'} hr he => by
    rcases hr with ⟨σ', τ', W', N', D', E', j', k', v', p', a1, a2, a3⟩ | ⟨σ', τ', a1, a2, a3⟩
    · exact .inl ⟨σ', τ', W', N', D', E', j', k', v', p', a1, fun K => (he K).trans (a2 K), a3⟩
    · exact .inr ⟨σ', τ', a1, fun K => (he K).trans (a2 K), a3⟩
  have misf : ∀ {X : Rs}, X = bd (To_misfit σ) (fun r13 s14 => zb r13 (some (r13, s14))) → (∀ K, RPm τ K = bd (M_amiss τ) (fun r s => TLm s K)) → ROUT n R B b j X (RPm τ) σ τ := fun {X} hX hY => by
    obtain ⟨f, f1, f2, f3⟩ := h.mis
    refine .inr ⟨fh σ f p, fm τ f p, by rw [hX, f2, bd_s, zb_0], fun K => ?_, fl_2 _ _ _ f1, (fl_h _ _ _).g, (fl_m _ _ _).g⟩
    rw [hY, f3, bd_s, tl_b (by rw [fm_12]; exact f1)]
  rw [PR_readPart, h.kn, bd_s]
  by_cases ck : k = 2
  · rw [if_pos ck]
    have hv := h.td.k2 ck
    have hk : k ≠ 0 := by omega
    by_cases c12 : 12 ≤ v
    · rw [sw_n (.inr (by simp; omega))]
      exact misf rfl (fun K => by rw [hY, if_neg (by omega), if_neg (by omega), if_neg (by omega), if_neg (by omega), if_neg (by omega), if_neg (by omega)])
    · have q : v = 0 ∨ v = 1 ∨ v = 2 ∨ v = 3 ∨ v = 4 ∨ v = 5 ∨ v = 6 ∨ v = 7 ∨ v = 8 ∨ v = 9 ∨ v = 10 ∨ v = 11 := by omega
      rcases q with e | e | e | e | e | e | e | e | e | e | e | e
      · have z := cgR (Y' := RPm τ) (rd_rule h hq hk 0 (by omega)) (fun K => by rw [hY, if_pos ⟨ck, e⟩]; rfl)
        rw [e, sw_0 0 (by simp)]; exact z
      · have z := cgR (Y' := RPm τ) (rd_rule h hq hk 1 (by omega)) (fun K => by rw [hY, if_neg (by omega), if_pos ⟨ck, e⟩]; rfl)
        rw [e, sw_0 1 (by simp)]; exact z
      · have z := cgR (Y' := RPm τ) (rd_word h hq hk) (fun K => by rw [hY, if_neg (by omega), if_neg (by omega), if_pos ⟨ck, e⟩])
        rw [e, sw_0 2 (by simp)]; exact z
      · refine misf ?_ (fun K => by rw [hY, if_neg (by omega), if_neg (by omega), if_neg (by omega), if_neg (by omega), if_neg (by omega), if_neg (by omega)])
        rw [e, sw_0 3 (by simp)]; rfl
      · refine misf ?_ (fun K => by rw [hY, if_neg (by omega), if_neg (by omega), if_neg (by omega), if_neg (by omega), if_neg (by omega), if_neg (by omega)])
        rw [e, sw_0 4 (by simp)]; rfl
      · have z := cgR (Y' := RPm τ) (rd_person h hq hk) (fun K => by rw [hY, if_neg (by omega), if_neg (by omega), if_neg (by omega), if_pos ⟨ck, e⟩])
        rw [e, sw_0 5 (by simp)]; exact z
      · refine misf ?_ (fun K => by rw [hY, if_neg (by omega), if_neg (by omega), if_neg (by omega), if_neg (by omega), if_neg (by omega), if_neg (by omega)])
        rw [e, sw_0 6 (by simp)]; rfl
      · refine misf ?_ (fun K => by rw [hY, if_neg (by omega), if_neg (by omega), if_neg (by omega), if_neg (by omega), if_neg (by omega), if_neg (by omega)])
        rw [e, sw_0 7 (by simp)]; rfl
      · refine misf ?_ (fun K => by rw [hY, if_neg (by omega), if_neg (by omega), if_neg (by omega), if_neg (by omega), if_neg (by omega), if_neg (by omega)])
        rw [e, sw_0 8 (by simp)]; rfl
      · have z := cgR (Y' := RPm τ) (rd_dinner h hq hk) (fun K => by rw [hY, if_neg (by omega), if_neg (by omega), if_neg (by omega), if_neg (by omega), if_pos ⟨ck, e⟩])
        rw [e, sw_0 9 (by simp)]; exact z
      · refine misf ?_ (fun K => by rw [hY, if_neg (by omega), if_neg (by omega), if_neg (by omega), if_neg (by omega), if_neg (by omega), if_neg (by omega)])
        rw [e, sw_0 10 (by simp)]; rfl
      · have z := cgR (Y' := RPm τ) (rd_halves h hq hk) (fun K => by rw [hY, if_neg (by omega), if_neg (by omega), if_neg (by omega), if_neg (by omega), if_neg (by omega), if_pos ⟨ck, e⟩])
        rw [e, sw_0 11 (by simp)]; exact z
  · rw [if_neg ck, sw_n (.inl (by omega))]
    exact misf rfl (fun K => by rw [hY, if_neg (by omega), if_neg (by omega), if_neg (by omega), if_neg (by omega), if_neg (by omega), if_neg (by omega)])
end
