/-! names: looked up, told, new -/
def NB (pr bl : Nat) (σ τ : Sg) (W N : Nat) : Prop := 6 ≤ pr ∧ bl ≤ 4 ∧ W ≤ 8 ∧ N ≤ 6 ∧ σ pr 10 = (W : Nat) ∧ σ pr 11 = (N : Nat) ∧ τ 5 (447 * bl) = (W : Nat) ∧ τ 5 (447 * bl + 1) = (N : Nat) ∧ NMS pr σ (blk τ bl) W N
theorem NB.cg {pr bl W N : Nat} {σ τ σ' τ' : Sg} (h : NB pr bl σ τ W N) (hs : ∀ k, σ' pr k = σ pr k) (hs1 : ∀ k, σ' (pr + 1) k = σ (pr + 1) k) (ht : ∀ k, τ' 5 k = τ 5 k) (ht8 : ∀ k, τ' 8 k = τ 8 k) : NB pr bl σ' τ' W N := by
  obtain ⟨a1, a2, a3, a4, a5, a6, a7, a8, a9⟩ := h
  exact ⟨a1, a2, a3, a4, by rw [hs]; exact a5, by rw [hs]; exact a6, by rw [ht]; exact a7, by rw [ht]; exact a8, a9.cg a3 a4 (fun k _ => hs1 k) (fun k _ => by rw [blk_8, blk_8]; exact ht8 _)⟩
theorem NB.t {pr bl W N : Nat} {σ τ σ' τ' : Sg} (h : NB pr bl σ τ W N) (hs : T5 σ σ') (ht : T0 τ τ') : NB pr bl σ' τ' W N := by
  have h6 := h.1
  exact h.cg (fun k => hs _ _ (by omega)) (fun k => hs _ _ (by omega)) (fun k => ht _ _ (by omega)) (fun k => ht _ _ (by omega))
theorem nam_s {bl s M : Nat} {τ : Sg} (hb : bl ≤ 4) (hs : s ≤ 1) (hM : τ 5 (447 * bl + s) = (M : Nat)) (hM8 : 8 * s + M ≤ 14) {w : Nat} (hw : w < M) (f : Nat) :
    M_named_L2 bl s (f + 1) w τ = if τ 8 (14 * bl + (8 * s + w)) = τ 0 19 then some ((w : Int), τ) else M_named_L2 bl s f ((w + 1 : Nat) : Int) τ := by
  rw [M_named_L2, i447 hb (by omega), rd_k (by omega) (by omega), Int.toNat_natCast, hM, if_pos (by omega), w32_i (x := 14 * (bl : Int)) (by omega) (by omega), w32_i (x := 8 * (s : Int)) (by omega) (by omega), w32_i (x := 14 * (bl : Int) + 8 * (s : Int)) (by omega) (by omega), w32_i (x := 14 * (bl : Int) + 8 * (s : Int) + w) (by omega) (by omega), show 14 * (bl : Int) + 8 * (s : Int) + w = ((14 * bl + (8 * s + w) : Nat) : Int) by omega, rd_k (by omega) (by omega), Int.toNat_natCast]
  rw [nm_k, w32_i (by omega) (by omega), suc]
theorem nam_e {bl s M : Nat} {τ : Sg} (hb : bl ≤ 4) (hs : s ≤ 1) (hM : τ 5 (447 * bl + s) = (M : Nat)) (f : Nat) : M_named_L2 bl s (f + 1) M τ = some (-1, τ) := by
  rw [M_named_L2, i447 hb (by omega), rd_k (by omega) (by omega), Int.toNat_natCast, hM, if_neg (by omega)]
section
variable {pr bl W N : Nat} {σ τ : Sg} {v : Int}
theorem fw_2 (h : NB pr bl σ τ W N) (hv : NC v (τ 0 19)) : ∃ r : Int, Pr_findWord pr v σ = some (r, σ) ∧ M_named bl 0 τ = some (r, τ) ∧ (r = -1 ∨ ∃ w : Nat, r = w ∧ w < W) := by
  obtain ⟨a1, a2, a3, a4, a5, a6, a7, a8, a9, a10⟩ := h
  have key : ∀ d w f g, w + d = W → d < f → d < g → ∃ r : Int, Pr_findWord_L2 pr v f w σ = some (r, σ) ∧ M_named_L2 bl ((0 : Nat) : Int) g w τ = some (r, τ) ∧ (r = -1 ∨ ∃ w : Nat, r = w ∧ w < W) := by
    intro d
    induction d with
    | zero =>
      intro w f g hw hf hg
      obtain ⟨f, rfl⟩ : ∃ x, f = x + 1 := ⟨f - 1, by omega⟩
      obtain ⟨g, rfl⟩ : ∃ x, g = x + 1 := ⟨g - 1, by omega⟩
      obtain rfl : w = W := by omega
      exact ⟨-1, by rw [Pr_findWord_L2, a5, if_neg (by omega)], nam_e a2 (by omega) a7 g, .inl rfl⟩
    | succ d ih =>
      intro w f g hw hf hg
      obtain ⟨f, rfl⟩ : ∃ x, f = x + 1 := ⟨f - 1, by omega⟩
      obtain ⟨g, rfl⟩ : ∃ x, g = x + 1 := ⟨g - 1, by omega⟩
      have c := a9 w (by omega)
      rw [blk_8] at c
      have i := c.iff hv
      rw [nam_s a2 (by omega) a7 (by omega) (by omega), Pr_findWord_L2, a5, if_pos (by omega), if_pos (by omega), rd_k (by omega) (by omega), Int.toNat_natCast, Nat.mul_zero, Nat.zero_add]
      by_cases e : σ (pr + 1) w = v
      · rw [if_pos e, if_pos (i.1 e)]; exact ⟨w, rfl, rfl, .inr ⟨w, rfl, by omega⟩⟩
      · rw [if_neg e, if_neg (fun z => e (i.2 z)), nm_k, w32_i (by omega) (by omega), suc]
        exact ih (w + 1) f g (by omega) (by omega) (by omega)
  rw [Pr_findWord, M_named]
  exact key W 0 fu fu (by omega) (by unfold fu; omega) (by unfold fu; omega)
theorem fp_2 (h : NB pr bl σ τ W N) (hv : NC v (τ 0 19)) : ∃ r : Int, Pr_findPerson pr v σ = some (r, σ) ∧ M_named bl 1 τ = some (r, τ) ∧ (r = -1 ∨ ∃ w : Nat, r = w ∧ w < N) := by
  obtain ⟨a1, a2, a3, a4, a5, a6, a7, a8, a9, a10⟩ := h
  have key : ∀ d w f g, w + d = N → d < f → d < g → ∃ r : Int, Pr_findPerson_L2 pr v f w σ = some (r, σ) ∧ M_named_L2 bl ((1 : Nat) : Int) g w τ = some (r, τ) ∧ (r = -1 ∨ ∃ w : Nat, r = w ∧ w < N) := by
    intro d
    induction d with
    | zero =>
      intro w f g hw hf hg
      obtain ⟨f, rfl⟩ : ∃ x, f = x + 1 := ⟨f - 1, by omega⟩
      obtain ⟨g, rfl⟩ : ∃ x, g = x + 1 := ⟨g - 1, by omega⟩
      obtain rfl : w = N := by omega
      exact ⟨-1, by rw [Pr_findPerson_L2, a6, if_neg (by omega)], nam_e a2 (by omega) a8 g, .inl rfl⟩
    | succ d ih =>
      intro w f g hw hf hg
      obtain ⟨f, rfl⟩ : ∃ x, f = x + 1 := ⟨f - 1, by omega⟩
      obtain ⟨g, rfl⟩ : ∃ x, g = x + 1 := ⟨g - 1, by omega⟩
      have c := a10 w (by omega)
      rw [blk_8] at c
      have i := c.iff hv
      rw [nam_s a2 (by omega) a8 (by omega) (by omega), Pr_findPerson_L2, a6, if_pos (by omega), if_pos (by omega), w32_i (x := 8 + (w : Int)) (by omega) (by omega), show 8 + (w : Int) = ((8 + w : Nat) : Int) by omega, rd_k (by omega) (by omega), Int.toNat_natCast, Nat.mul_one]
      by_cases e : σ (pr + 1) (8 + w) = v
      · rw [if_pos e, if_pos (i.1 e)]; exact ⟨w, rfl, rfl, .inr ⟨w, rfl, by omega⟩⟩
      · rw [if_neg e, if_neg (fun z => e (i.2 z)), nm_k, w32_i (by omega) (by omega), suc]
        exact ih (w + 1) f g (by omega) (by omega) (by omega)
  rw [Pr_findPerson, M_named]
  exact key N 0 fu fu (by omega) (by unfold fu; omega) (by unfold fu; omega)
end
section
variable {n R j k v p : Nat} {B : Nat → Int} {b : Nat → Nat} {σ τ : Sg} {pr bl W N : Nat}
theorem CU.tdW (h : CU n R B b j k v p σ τ) (hN : NB pr bl σ τ W N) :
    (∃ (r : Nat) (σ' τ' : Sg), r < W ∧ To_takeWord pr σ = some ((r : Int), σ') ∧ M_told bl 0 τ = some ((r : Int), τ) ∧ M_advance τ = some (0, τ') ∧ AD n R B b j σ τ σ' τ' ∧ σ' 5 9 = p) ∨
    (∃ σ' τ', To_takeWord pr σ = some (-1, σ') ∧ M_told bl 0 τ = some (0, τ') ∧ FT σ τ σ' τ') := by
  by_cases c : k = 3
  · obtain ⟨σ', τ', k', v', p', t1, t2, t3, t4, t5, t6, t7⟩ := h.take (by omega)
    obtain ⟨r, r1, r2, r3⟩ := fw_2 (hN.t t4 T0.rf) (h.td.nam c)
    have e1 : M_told bl 0 τ = bd (M_named bl 0 τ) (fun r5 s6 => if r5 < 0 then bd (M_fail 3 (s6 0 15) s6) (fun r7 s8 => some (max 0 r5, s8)) else some (max 0 r5, s6)) := by
      rw [M_told, if_pos h.ok, name_m h.td, bd_s, if_pos c, if_neg i10, M_told_J18, h.ok, if_neg (by omega)]
    have e2 : To_takeWord pr σ = if r = -1 then bd (To_reject 3 σ') (fun r5 s6 => some (r, s6)) else some (r, σ') := by
      rw [To_takeWord, h.kd, if_pos (by omega), t1, bd_s, t7, r1, bd_s]
    rcases r3 with r3 | ⟨w, r3, r4⟩
    · refine .inr ⟨fh σ' 3 p, fm τ 3 p, ?_, ?_, fl_2 _ _ _ (by omega), t4.tr (fl_h _ _ _), fl_m _ _ _⟩
      · rw [e2, if_pos r3, rej_h t6, bd_s, r3]
      · rw [e1, r2, bd_s, if_pos (by omega), h.ap, fail_m h.ok, bd_s, show max 0 r = 0 by omega]
    · refine .inl ⟨w, σ', τ', r4, by rw [e2, if_neg (by omega), r3], ?_, t2, ⟨⟨k', v', p', t3⟩, t4, t5⟩, t6⟩
      rw [e1, r2, bd_s, if_neg (by omega), show max 0 r = w by omega]
  · obtain ⟨f, f1, f2, f3⟩ := h.mis
    refine .inr ⟨fh σ f p, fm τ f p, ?_, ?_, fl_2 _ _ _ f1, fl_h _ _ _, fl_m _ _ _⟩
    · rw [To_takeWord, h.kd, if_neg (by omega), f2, bd_s]
    · rw [M_told, if_pos h.ok, name_m h.td, bd_s, if_neg c, if_pos rfl, f3, bd_s, M_told_J18, fm_12, if_pos f1]
theorem CU.tdP (h : CU n R B b j k v p σ τ) (hN : NB pr bl σ τ W N) :
    (∃ (r : Nat) (σ' τ' : Sg), r < N ∧ To_takePerson pr σ = some ((r : Int), σ') ∧ M_told bl 1 τ = some ((r : Int), τ) ∧ M_advance τ = some (0, τ') ∧ AD n R B b j σ τ σ' τ' ∧ σ' 5 9 = p) ∨
    (∃ σ' τ', To_takePerson pr σ = some (-1, σ') ∧ M_told bl 1 τ = some (0, τ') ∧ FT σ τ σ' τ') := by
  by_cases c : k = 3
  · obtain ⟨σ', τ', k', v', p', t1, t2, t3, t4, t5, t6, t7⟩ := h.take (by omega)
    obtain ⟨r, r1, r2, r3⟩ := fp_2 (hN.t t4 T0.rf) (h.td.nam c)
    have e1 : M_told bl 1 τ = bd (M_named bl 1 τ) (fun r5 s6 => if r5 < 0 then bd (M_fail 3 (s6 0 15) s6) (fun r7 s8 => some (max 0 r5, s8)) else some (max 0 r5, s6)) := by
      rw [M_told, if_pos h.ok, name_m h.td, bd_s, if_pos c, if_neg i10, M_told_J18, h.ok, if_neg (by omega)]
    have e2 : To_takePerson pr σ = if r = -1 then bd (To_reject 3 σ') (fun r5 s6 => some (r, s6)) else some (r, σ') := by
      rw [To_takePerson, h.kd, if_pos (by omega), t1, bd_s, t7, r1, bd_s]
    rcases r3 with r3 | ⟨w, r3, r4⟩
    · refine .inr ⟨fh σ' 3 p, fm τ 3 p, ?_, ?_, fl_2 _ _ _ (by omega), t4.tr (fl_h _ _ _), fl_m _ _ _⟩
      · rw [e2, if_pos r3, rej_h t6, bd_s, r3]
      · rw [e1, r2, bd_s, if_pos (by omega), h.ap, fail_m h.ok, bd_s, show max 0 r = 0 by omega]
    · refine .inl ⟨w, σ', τ', r4, by rw [e2, if_neg (by omega), r3], ?_, t2, ⟨⟨k', v', p', t3⟩, t4, t5⟩, t6⟩
      rw [e1, r2, bd_s, if_neg (by omega), show max 0 r = w by omega]
  · obtain ⟨f, f1, f2, f3⟩ := h.mis
    refine .inr ⟨fh σ f p, fm τ f p, ?_, ?_, fl_2 _ _ _ f1, fl_h _ _ _, fl_m _ _ _⟩
    · rw [To_takePerson, h.kd, if_neg (by omega), f2, bd_s]
    · rw [M_told, if_pos h.ok, name_m h.td, bd_s, if_neg c, if_pos rfl, f3, bd_s, M_told_J18, fm_12, if_pos f1]
/-- the reference reads what is told -/
theorem rt_a {x y r : Int} {τ' : Sg} (h0 : τ 0 12 = 0) (h1 : M_told x y τ = some (r, τ)) (h2 : M_advance τ = some (0, τ')) : M_readTold x y τ = some (r, τ') := by
  rw [M_readTold, h1, bd_s, M_must, h0, if_neg (by omega), if_neg i10, h2, bd_s, bd_s]
theorem rt_f {x y : Int} {τ' : Sg} (h1 : M_told x y τ = some (0, τ')) (h2 : 0 < τ' 0 12) : M_readTold x y τ = some (0, τ') := by
  rw [M_readTold, h1, bd_s, must_b h2, bd_s]
theorem CU.rtW (h : CU n R B b j k v p σ τ) (hN : NB pr bl σ τ W N) :
    (∃ (r : Nat) (σ' τ' : Sg), r < W ∧ To_takeWord pr σ = some ((r : Int), σ') ∧ M_readTold bl 0 τ = some ((r : Int), τ') ∧ AD n R B b j σ τ σ' τ') ∨
    (∃ σ' τ', To_takeWord pr σ = some (-1, σ') ∧ M_readTold bl 0 τ = some (0, τ') ∧ FT σ τ σ' τ') := by
  rcases h.tdW hN with ⟨r, σ', τ', a1, a2, a3, a4, a5, a6⟩ | ⟨σ', τ', a1, a2, a3⟩
  · exact .inl ⟨r, σ', τ', a1, a2, rt_a h.ok a3 a4, a5⟩
  · exact .inr ⟨σ', τ', a1, rt_f a2 a3.1.b, a3⟩
theorem CU.rtP (h : CU n R B b j k v p σ τ) (hN : NB pr bl σ τ W N) :
    (∃ (r : Nat) (σ' τ' : Sg), r < N ∧ To_takePerson pr σ = some ((r : Int), σ') ∧ M_readTold bl 1 τ = some ((r : Int), τ') ∧ AD n R B b j σ τ σ' τ') ∨
    (∃ σ' τ', To_takePerson pr σ = some (-1, σ') ∧ M_readTold bl 1 τ = some (0, τ') ∧ FT σ τ σ' τ') := by
  rcases h.tdP hN with ⟨r, σ', τ', a1, a2, a3, a4, a5, a6⟩ | ⟨σ', τ', a1, a2, a3⟩
  · exact .inl ⟨r, σ', τ', a1, a2, rt_a h.ok a3 a4, a5⟩
  · exact .inr ⟨σ', τ', a1, rt_f a2 a3.1.b, a3⟩
/-- a second one, unlike the first -/
def OTH (σ' : Sg) (r f : Int) (K : Sg → Rs) : Rs := if r = -1 then some (0, σ') else if f = r then bd (To_reject 5 σ') (fun r5 s6 => zb r5 (some (r5, s6))) else K σ'
theorem CU.roW (h : CU n R B b j k v p σ τ) (hN : NB pr 4 σ τ W N) (g : Nat) :
    (∃ (r : Nat) (σ' τ' : Sg), r < W ∧ r ≠ g ∧ To_takeWord pr σ = some ((r : Int), σ') ∧ M_readOther 0 g τ = some ((r : Int), τ') ∧ AD n R B b j σ τ σ' τ') ∨
    (∃ (r x : Int) (σ1 σ' τ' : Sg), To_takeWord pr σ = some (r, σ1) ∧ (∀ K, OTH σ1 r g K = some (0, σ')) ∧ M_readOther 0 g τ = some (x, τ') ∧ 0 ≤ x ∧ x ≤ 8 ∧ FT σ τ σ' τ') := by
  rcases h.tdW hN with ⟨r, σ', τ', a1, a2, a3, a4, ⟨a5, a6, a7⟩, a8⟩ | ⟨σ', τ', a1, a2, a3, a4, a5⟩
  · have hW := hN.2.2.1
    by_cases e : r = g
    · refine .inr ⟨r, r, σ', fh σ' 5 p, fm τ 5 p, a2, fun K => ?_, ?_, by omega, by omega, fl_2 _ _ _ (by omega), a6.tr (fl_h _ _ _), fl_m _ _ _⟩
      · rw [OTH, if_neg (by omega), if_pos (by omega), rej_h a8, bd_s, zb_0]
      · rw [M_readOther, show M_told 4 0 τ = _ from a3, bd_s, if_pos h.ok, if_pos (by omega), h.ap, fail_m h.ok, bd_s, must_b (by rw [fm_12]; omega), bd_s]
    · refine .inl ⟨r, σ', τ', a1, e, a2, ?_, a5, a6, a7⟩
      rw [M_readOther, show M_told 4 0 τ = _ from a3, bd_s, if_pos h.ok, if_neg (by omega), M_must, h.ok, if_neg (by omega), if_neg i10, a4, bd_s, bd_s]
  · refine .inr ⟨-1, 0, σ', σ', τ', a1, fun K => by rw [OTH, if_pos rfl], ?_, by omega, by omega, a3, a4, a5⟩
    rw [M_readOther, show M_told 4 0 τ = _ from a2, bd_s, if_neg (by have := a3.b; omega), must_b a3.b, bd_s]
theorem CU.roP (h : CU n R B b j k v p σ τ) (hN : NB pr 4 σ τ W N) (g : Nat) :
    (∃ (r : Nat) (σ' τ' : Sg), r < N ∧ r ≠ g ∧ To_takePerson pr σ = some ((r : Int), σ') ∧ M_readOther 1 g τ = some ((r : Int), τ') ∧ AD n R B b j σ τ σ' τ') ∨
    (∃ (r x : Int) (σ1 σ' τ' : Sg), To_takePerson pr σ = some (r, σ1) ∧ (∀ K, OTH σ1 r g K = some (0, σ')) ∧ M_readOther 1 g τ = some (x, τ') ∧ 0 ≤ x ∧ x ≤ 8 ∧ FT σ τ σ' τ') := by
  rcases h.tdP hN with ⟨r, σ', τ', a1, a2, a3, a4, ⟨a5, a6, a7⟩, a8⟩ | ⟨σ', τ', a1, a2, a3, a4, a5⟩
  · have hW := hN.2.2.2.1
    by_cases e : r = g
    · refine .inr ⟨r, r, σ', fh σ' 5 p, fm τ 5 p, a2, fun K => ?_, ?_, by omega, by omega, fl_2 _ _ _ (by omega), a6.tr (fl_h _ _ _), fl_m _ _ _⟩
      · rw [OTH, if_neg (by omega), if_pos (by omega), rej_h a8, bd_s, zb_0]
      · rw [M_readOther, show M_told 4 1 τ = _ from a3, bd_s, if_pos h.ok, if_pos (by omega), h.ap, fail_m h.ok, bd_s, must_b (by rw [fm_12]; omega), bd_s]
    · refine .inl ⟨r, σ', τ', a1, e, a2, ?_, a5, a6, a7⟩
      rw [M_readOther, show M_told 4 1 τ = _ from a3, bd_s, if_pos h.ok, if_neg (by omega), M_must, h.ok, if_neg (by omega), if_neg i10, a4, bd_s, bd_s]
  · refine .inr ⟨-1, 0, σ', σ', τ', a1, fun K => by rw [OTH, if_pos rfl], ?_, by omega, by omega, a3, a4, a5⟩
    rw [M_readOther, show M_told 4 1 τ = _ from a2, bd_s, if_neg (by have := a3.b; omega), must_b a3.b, bd_s]
end
