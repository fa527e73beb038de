/-! a whole province is read -/
section
variable {n R : Nat} {B : Nat → Int} {b : Nat → Nat}
theorem isEnd_h {j k v p : Nat} {σ τ : Sg} (h : CU n R B b j k v p σ τ) : To_isEnd σ = some (if k = 0 then 1 else 0, σ) := by
  rw [To_isEnd, h.kd]
  by_cases c : k = 0
  · rw [if_pos (by omega), if_pos c]
  · rw [if_neg (by omega), if_neg c]
theorem l33_b {τ : Sg} (h : 0 < τ 0 12) (K : Sg → Rs) (g : Nat) : M_province_L33 K (g + 1) τ = K τ := by rw [M_province_L33, if_neg (by omega)]
theorem all_p {K K' : Sg → Rs} : ∀ m j i f g k v p σ τ W N D E, R ≤ j + m → m < f → m + 1 < g → i ≤ j → CU n R B b j k v p σ τ → PQ σ τ W N D E →
    (∃ (σ' τ' : Sg) (W' N' D' E' : Nat), PR_readAll_L16 19 K f (i : Nat) σ = K σ' ∧ M_province_L33 K' g τ = K' τ' ∧ PQ σ' τ' W' N' D' E' ∧ τ' 0 12 = 0 ∧ GOH σ σ' ∧ GOM τ τ') ∨
    (∃ σ' τ', PR_readAll_L16 19 K f (i : Nat) σ = some (0, σ') ∧ M_province_L33 K' g τ = K' τ' ∧ FLT σ' τ' ∧ GOH σ σ' ∧ GOM τ τ') := by
  intro m
  induction m with
  | zero => intro j i f g k v p σ τ W N D E hm hf hg hi h hq; have := h.jR; omega
  | succ m ih =>
    intro j i f g k v p σ τ W N D E hm hf hg hi h hq
    obtain ⟨f, rfl⟩ : ∃ x, f = x + 1 := ⟨f - 1, by omega⟩
    obtain ⟨g, rfl⟩ : ∃ x, g = x + 1 + 1 := ⟨g - 2, by omega⟩
    have hj := h.jR
    have hR := h.row.2.2.2.1
    have hR0 := h.row.1
    have he := h.ed
    by_cases c : k = 0
    · refine .inl ⟨σ, τ, W, N, D, E, ?_, ?_, hq, h.ok, GOH.rf, GOM.rf⟩
      · rw [PR_readAll_L16]
        by_cases z : ((i : Nat) : Int) < 900
        · rw [if_pos z, isEnd_h h, bd_s, if_pos c, if_neg i10]
        · rw [if_neg z]
      · rw [M_province_L33, if_pos h.ok, if_pos (h.td.en0.1 c)]
    · have e1 : PR_readAll_L16 19 K (f + 1) (i : Nat) σ = bd (PR_readPart 19 σ) (fun r7 s8 => if r7 = 0 then some (0, s8) else nm (w32 ((i : Nat) + 1)) (fun x9 => PR_readAll_L16 19 K f x9 s8)) := by
        rw [PR_readAll_L16, if_pos (by omega), isEnd_h h, bd_s, if_neg c, if_pos rfl]
      have e2 : M_province_L33 K' (g + 1 + 1) τ = RPm τ (fun s => M_province_L33 K' (g + 1) s) := by
        rw [M_province_L33, if_pos h.ok, if_neg (fun z => c (h.td.en0.2 z))]; rfl
      rcases rd_part h hq with ⟨σ1, τ1, W1, N1, D1, E1, j1, k1, v1, p1, a1, a2, a3, a4, a5, a6, a7⟩ | ⟨σ1, τ1, a1, a2, a3, a4, a5⟩
      · rw [a1, bd_s, if_neg i10, nm_k, w32_i (by omega) (by omega), suc] at e1
        rw [a2] at e2
        rcases ih j1 (i + 1) f (g + 1) k1 v1 p1 σ1 τ1 W1 N1 D1 E1 (by omega) (by omega) (by omega) (by omega) a4 a5 with ⟨σ', τ', W', N', D', E', b1, b2, b3, b4, b5, b6⟩ | ⟨σ', τ', b1, b2, b3, b4, b5⟩
        · exact .inl ⟨σ', τ', W', N', D', E', e1.trans b1, e2.trans b2, b3, b4, a6.tr b5, a7.tr b6⟩
        · exact .inr ⟨σ', τ', e1.trans b1, e2.trans b2, b3, a6.tr b4, a7.tr b5⟩
      · rw [a1, bd_s, if_pos rfl] at e1
        rw [a2, l33_b a3.b] at e2
        exact .inr ⟨σ1, τ1, e1, e2, a3, a4, a5⟩
end
/-- a text is begun -/
theorem start_2 {σ τ : Sg} (h : TZ σ τ) (hkc : ∀ k : Nat, σ 113 k = kcl.getD k 0) {q : Nat} {most : Int} (hq : (q : Int) ≤ σ 5 1) (hm : (q : Int) ≤ most) : ∃ σ1 τ1 R B b k v p, To_split q σ = some (0, σ1) ∧ M_starts q most τ = some (1, τ1) ∧ CU q R B b 0 k v p σ1 τ1 ∧
    (∀ o x, o ≠ 7 → (o ≠ 5 ∨ x < 2 ∨ x = 3 ∨ 12 < x) → σ1 o x = σ o x) ∧ (∀ o x, (o ≠ 0 ∨ (x ≠ 8 ∧ x ≠ 9 ∧ (x < 12 ∨ 19 < x))) → τ1 o x = τ o x) ∧ τ1 0 8 = 0 := by
  obtain ⟨m, m1, m2, m3, m4⟩ := h
  have hb : ∀ k, k < q → an32 (σ 6 k) 255 = (fun k => if k < q then an32 (σ 6 k) 255 else 0) k := fun k hk => by
    show _ = if k < q then an32 (σ 6 k) 255 else 0
    rw [if_pos hk]
  have hz : ∀ k, q ≤ k → (fun k => if k < q then an32 (σ 6 k) 255 else 0) k = 0 := fun k hk => by
    show (if k < q then an32 (σ 6 k) 255 else 0) = 0
    rw [if_neg (by omega)]
  obtain ⟨σ1, R, b, k, v, p, s1, s2, s3, s4, s5, s6, s7, s8, s9, s10, s11⟩ := split_h (n := q) (by omega) hq hb hz hkc
  have f9 : up_s (up_s (up_s (up_s τ 0 9 q) 0 8 0) 0 16 0) 0 12 0 0 9 = q := by rw [up_k (by omega), up_k (by omega), up_k (by omega), up_e]
  have f16 : up_s (up_s (up_s (up_s τ 0 9 q) 0 8 0) 0 16 0) 0 12 0 0 16 = ((0 : Nat) : Int) := by rw [up_k (by omega), up_e]; rfl
  have f12 : up_s (up_s (up_s (up_s τ 0 9 q) 0 8 0) 0 16 0) 0 12 0 0 12 = 0 := by rw [up_e]
  have f8 : up_s (up_s (up_s (up_s τ 0 9 q) 0 8 0) 0 16 0) 0 12 0 0 8 = 0 := by rw [up_k (by omega), up_k (by omega), up_e]
  have ff : ∀ o x, (o ≠ 0 ∨ (x ≠ 8 ∧ x ≠ 9 ∧ (x < 12 ∨ 19 < x))) → up_s (up_s (up_s (up_s τ 0 9 q) 0 8 0) 0 16 0) 0 12 0 o x = τ o x := fun o x z => by
    rw [up_v, if_neg (by omega), up_v, if_neg (by omega), up_v, if_neg (by omega), up_v, if_neg (by omega)]
  have e1 : M_starts q most τ = bd (M_advance (up_s (up_s (up_s (up_s τ 0 9 q) 0 8 0) 0 16 0) 0 12 0)) (fun r11 s12 => some (1, s12)) := by
    rw [M_starts, if_neg (by omega), m3, if_neg (by omega), if_neg (by omega), nm_k, nm_k, nm_k, nm_k]
  generalize up_s (up_s (up_s (up_s τ 0 9 (q : Int)) 0 8 0) 0 16 0) 0 12 0 = s at *
  have hx : TXM q (fun k => if k < q then an32 (σ 6 k) 255 else 0) s := ⟨by omega, f9, fun k hk => by
    rw [ff 4 k (by omega), ← m4 k (by omega)]; exact hb k hk, hz⟩
  obtain ⟨τ1, a1, a2, a3, a4, a5⟩ := adv_m hx f16 s7
  refine ⟨σ1, τ1, R, _, b, k, v, p, s1, by rw [e1, a1, bd_s], CU.mk s2 (hx.cg (a2 _ _ (by omega)) (fun x => a2 _ _ (by omega))) s2.2.2.2.2.1 s3 s4 s5 s6 s8 s9 s10 a3 a4 a5 ?_, s11, fun o x z => ?_, ?_⟩
  · rw [a2 _ _ (by omega)]; exact f12
  · rw [a2 o x (by omega)]; exact ff o x z
  · rw [a2 _ _ (by omega)]; exact f8
/-- the fifth block is emptied -/
theorem empt_m (τ : Sg) : ∃ τ', M_empties 4 τ = some (0, τ') ∧ (∀ k, 1788 ≤ k → k < 2235 → τ' 5 k = if k = 1792 then 3 else if k = 1793 then 1 else 0) ∧ (∀ o k, ¬ (o = 5 ∧ 1788 ≤ k) → τ' o k = τ o k) := by
  have key : ∀ d k f s, k + d = 447 → d < f → (∀ x, 1788 ≤ x → x < 1788 + k → s 5 x = 0) → (∀ o x, ¬ (o = 5 ∧ 1788 ≤ x) → s o x = τ o x) →
      ∃ s', M_empties_L8 1788 (fun x4 s5 => M_empties_J30 x4 s5) f (k : Nat) s = M_empties_J30 1788 s' ∧ (∀ x, 1788 ≤ x → x < 2235 → s' 5 x = 0) ∧ (∀ o x, ¬ (o = 5 ∧ 1788 ≤ x) → s' o x = τ o x) := by
    intro d
    induction d with
    | zero =>
      intro k f s hk hf h1 h2
      obtain ⟨f, rfl⟩ : ∃ x, f = x + 1 := ⟨f - 1, by omega⟩
      exact ⟨s, by rw [M_empties_L8, if_neg (by omega)], fun x a c => h1 x a (by omega), h2⟩
    | succ d ih =>
      intro k f s hk hf h1 h2
      obtain ⟨f, rfl⟩ : ∃ x, f = x + 1 := ⟨f - 1, by omega⟩
      obtain ⟨s', g1, g2, g3⟩ := ih (k + 1) f (up_s s 5 (1788 + k) 0) (by omega) (by omega) (fun x a c => by
        rw [up_v]
        by_cases z : x = 1788 + k
        · rw [if_pos ⟨rfl, z⟩]
        · rw [if_neg (by omega)]; exact h1 x a (by omega)) (fun o x z => by rw [up_v, if_neg (by omega)]; exact h2 o x z)
      refine ⟨s', ?_, g2, g3⟩
      rw [M_empties_L8, if_pos (by omega), w32_i (by omega) (by omega), show 1788 + (k : Int) = ((1788 + k : Nat) : Int) by omega, wr_k (by omega) (by omega), Int.toNat_natCast, nm_k, w32_i (by omega) (by omega), suc]; exact g1
  obtain ⟨s, g1, g2, g3⟩ := key 447 0 fu τ (by omega) (by unfold fu; omega) (fun x a c => by omega) (fun _ _ _ => rfl)
  refine ⟨up_s (up_s s 5 1792 3) 5 1793 1, ?_, fun k a c => ?_, fun o k z => ?_⟩
  · have e : w32 (447 * 4) = 1788 := by decide
    rw [M_empties, nm_k, e]
    refine Eq.trans g1 ?_
    rw [M_empties_J30, show w32 (1788 + 4) = ((1792 : Nat) : Int) by decide, show w32 (1788 + 5) = ((1793 : Nat) : Int) by decide, wr_k (by omega) (by omega), wr_k (by omega) (by omega)]; rfl
  · rw [up_v, up_v]
    by_cases z1 : k = 1792
    · rw [if_neg (by omega), if_pos ⟨rfl, z1⟩, if_pos z1]
    · by_cases z2 : k = 1793
      · rw [if_pos ⟨rfl, z2⟩, if_neg z1, if_pos z2]
      · rw [if_neg (by omega), if_neg (by omega), if_neg z1, if_neg z2]; exact g2 k a c
  · rw [up_v, if_neg (by omega), up_v, if_neg (by omega)]; exact g3 o k z
theorem pr_0 {p : Nat} {σ τ : Sg} (h : ∀ k, 10 ≤ k → k < 20 → k ≠ 14 → k ≠ 15 → σ p k = 0) (ht : ∀ k, k < 9 → k ≠ 4 → k ≠ 5 → τ 5 k = 0) (h14 : σ p 14 = τ 5 4) (b4 : 0 ≤ τ 5 4 ∧ τ 5 4 ≤ 99) (h15 : σ p 15 = τ 5 5) (b5 : 0 ≤ τ 5 5 ∧ τ 5 5 ≤ 16) : PR p σ τ 0 0 0 0 := by
  refine PR.mk (PS.mk (by omega) (by omega) (by omega) (by omega) (h _ (by omega) (by omega) (by omega) (by omega)) (ht _ (by omega) (by omega) (by omega)) (h _ (by omega) (by omega) (by omega) (by omega)) (ht _ (by omega) (by omega) (by omega)) (h _ (by omega) (by omega) (by omega) (by omega)) (ht _ (by omega) (by omega) (by omega)) (h _ (by omega) (by omega) (by omega) (by omega)) (ht _ (by omega) (by omega) (by omega)) h14 b4 h15 b5 ?_ ?_ ?_ ?_ ?_ ?_ ?_ ?_ ?_ ?_ ?_ ?_ ?_ ?_ ?_ ?_ ?_ ?_ ?_) (PD.mk ?_ ?_ ?_ ?_ ?_ ?_ ?_ ?_ ?_ ?_ ?_ ?_ ?_)
  · rw [h _ (by omega) (by omega) (by omega) (by omega)]; rfl
  all_goals first | (intro i hi; omega) | (intro i k hi hk; omega) | (intro i k hi hk hb; exact absurd hi (by omega)) | skip
  · rw [h _ (by omega) (by omega) (by omega) (by omega), ht _ (by omega) (by omega) (by omega)]
  · rw [ht _ (by omega) (by omega) (by omega)]; omega
  · rw [h _ (by omega) (by omega) (by omega) (by omega), ht _ (by omega) (by omega) (by omega)]
  · rw [ht _ (by omega) (by omega) (by omega)]; unfold c32; omega
  · rw [h _ (by omega) (by omega) (by omega) (by omega), ht _ (by omega) (by omega) (by omega)]
  · rw [ht _ (by omega) (by omega) (by omega)]; unfold c32; omega
theorem pq_0 {σ τ : Sg} (h : ∀ k, 10 ≤ k → k < 20 → k ≠ 14 → k ≠ 15 → σ 19 k = 0) (h14 : σ 19 14 = -1) (h15 : σ 19 15 = -1) (ht : ∀ k, 1788 ≤ k → k < 2235 → τ 5 k = if k = 1792 then 3 else if k = 1793 then 1 else 0) (h25 : τ 0 25 = 0) : PQ σ τ 0 0 0 0 := by
  have t4 : τ 5 1792 = 3 := by rw [ht _ (by omega) (by omega), if_pos rfl]
  have t5 : τ 5 1793 = 1 := by rw [ht _ (by omega) (by omega), if_neg (by omega), if_pos rfl]
  refine PQ.mk (pr_0 (fun k a c d e => ?_) (fun k a c d => ?_) ?_ ?_ ?_ ?_) ⟨fun w hw => by omega, fun i hi => by omega⟩ (fun k hk => ?_) ⟨0, 0, by omega, by omega, by rw [h25]; rfl, fun _ => ⟨h14, t4⟩, fun z => by omega, fun _ => ⟨h15, t5⟩, fun z => by omega⟩
  · rw [hos_v, if_neg (by omega), if_neg (by omega)]; exact h k a c d e
  · rw [blk_5, ht _ (by omega) (by omega), if_neg (by omega), if_neg (by omega)]
  · rw [hos_v, if_neg (by omega), if_pos (by omega), blk_5]
  · rw [blk_5, t4]; omega
  · rw [hos_v, if_pos (by omega), blk_5]
  · rw [blk_5, t5]; omega
  · rw [ht _ (by omega) (by omega), if_neg (by omega), if_neg (by omega)]
/-- heard and odds as they are when the text has ended -/
theorem settle_h {σ τ : Sg} {W N D E : Nat} (hq : PQ σ τ W N D E) : PR_readAll_J46 19 σ = some (1, hos σ τ) := by
  obtain ⟨a, c, ha, hc, h25, ha0, ha1, hc0, hc1⟩ := hq.ho
  have hb1 : 0 ≤ τ 5 1792 ∧ τ 5 1792 ≤ 99 := by have := hq.pr.hdb; rw [blk_5] at this; exact this
  have hb2 : 0 ≤ τ 5 1793 ∧ τ 5 1793 ≤ 16 := by have := hq.pr.odb; rw [blk_5] at this; exact this
  have e : ∀ x : Int, x = τ 5 1792 → PR_readAll_J63 19 x σ = some (1, hos σ τ) := fun x hx => by
    have z4 : c = 0 ∨ c = 1 := by omega
    rw [PR_readAll_J63, nm_k, up_k (by omega), hx]
    rcases z4 with z | z
    · rw [(hc0 z).1, if_pos rfl, nm_k]; unfold hos; rw [(hc0 z).2]
    · rw [if_neg (by rw [hc1 z]; have := hb2.1; omega), nm_k]; unfold hos; rw [hc1 z]
  have z3 : a = 0 ∨ a = 1 := by omega
  rw [PR_readAll_J46]
  rcases z3 with z | z
  · rw [(ha0 z).1, if_pos rfl]; exact e 3 (ha0 z).2.symm
  · rw [if_neg (by rw [ha1 z]; have := hb1.1; omega)]; exact e _ (ha1 z)
section
variable {σ τ σ' τ' : Sg} {W N D E : Nat}
/-- a text is done with, and nothing is taken -/
theorem RR.tx (h : RR σ τ W N D E) (hs : ∀ o k, (SbH o k ∨ (8 ≤ o ∧ o ≤ 18)) → o ≠ 5 → ¬ (o = 0 ∧ (k = 3 ∨ k = 4)) → σ' o k = σ o k) (ht : ∀ o k, (SbM o k ∨ (o = 5 ∧ k < 175)) → ¬ (o = 0 ∧ (k = 8 ∨ k = 10 ∨ k = 11)) → τ' o k = τ o k)
    (hk : σ' 0 3 = τ' 0 10) (hp : σ' 0 4 = τ' 0 11) (z : σ' 5 1 = 0) (z' : τ' 0 8 = 0) : RR σ' τ' W N D E := by
  have bW := h.pr.bW
  have bN := h.pr.bN
  have r := h.rb
  unfold SbH at hs
  unfold SbM at ht
  refine RR.mk ?_ ?_ (RB.mk ?_ ?_ hk hp ?_ ⟨0, by omega, z, z', fun k hk => by omega⟩ ?_ ?_ ?_ ?_ ?_ ?_)
  · exact h.pr.cg (fun j k _ _ => hs _ _ (by omega) (by omega) (by omega)) (fun k _ => ht _ _ (by omega) (by omega))
  · exact h.dt.eq (ht _ _ (by omega) (by omega))
  · rw [hs _ _ (by omega) (by omega) (by omega), ht _ _ (by omega) (by omega)]; exact r.tp
  · rw [hs _ _ (by omega) (by omega) (by omega), ht _ _ (by omega) (by omega)]; exact r.bt
  · exact fun t q => (r.tr t q).cg (fun o k _ _ => hs o k (by omega) (by omega) (by omega)) (fun o k _ _ => ht o k (by omega) (by omega))
  · exact r.na.cg bW bN (fun k _ => hs _ _ (by omega) (by omega) (by omega)) (fun k _ => ht _ _ (by omega) (by omega))
  · exact r.ye.cg (fun k _ _ => hs _ _ (by omega) (by omega) (by omega)) (fun j k _ _ _ => hs _ _ (by omega) (by omega) (by omega)) (fun k _ _ => ht _ _ (by omega) (by omega))
  · exact r.lv.cg (fun k _ => hs _ _ (by omega) (by omega) (by omega)) (ht _ _ (by omega) (by omega)) (fun k _ => ht _ _ (by omega) (by omega))
  · exact r.ms.cg (hs _ _ (by omega) (by omega) (by omega)) (ht _ _ (by omega) (by omega)) (fun o k _ _ => hs _ _ (by omega) (by omega) (by omega)) (fun k _ _ => ht _ _ (by omega) (by omega)) (fun k _ _ => ht _ _ (by omega) (by omega))
  · rw [hs _ _ (by omega) (by omega) (by omega)]; exact r.mz
  · intro kk; rw [hs _ _ (by omega) (by omega) (by omega)]; exact r.kc kk
/-- the end of a text with a fault -/
theorem flt_end (h : RR σ τ W N D E) (hf : FLT σ' τ') (hs : ∀ o k, (SbH o k ∨ (8 ≤ o ∧ o ≤ 18)) → o ≠ 5 → σ' o k = σ o k) (ht : ∀ o k, (SbM o k ∨ (o = 5 ∧ k < 175)) → ¬ (o = 0 ∧ k = 8) → τ' o k = τ o k) (h8 : τ' 0 8 = 0) :
    ∃ s τ'', H_closeText 0 σ' = some (0, s) ∧ M_isWell τ' = some (0, τ'') ∧ Rel (up_s s 0 0 10) τ'' := by
  obtain ⟨f, q, f1, f2, f3, f4, f5⟩ := hf
  have e1 : H_closeText 0 σ' = some (0, up_s (up_s (up_s σ' 5 1 0) 0 3 f) 0 4 q) := by
    rw [H_closeText, nm_k, if_pos rfl, H_closeText_J24, nm_k, if_pos rfl, up_k (a := 5) (by omega), f2, up_o (by omega), up_k (by omega), f3, nm_k]
  have e2 : M_isWell τ' = some (0, up_s (up_s (up_s τ' 0 10 f) 0 11 q) 0 0 10) := by
    rw [M_isWell, nm_k, f4, up_k (by omega), f4, if_neg (by omega), up_k (by omega), f5, M_isWell_J24, nm_k, up_k (by omega), up_k (by omega), f4, if_neg (by omega), M_no, nm_k, bd_s, if_pos rfl]
  refine ⟨_, _, e1, e2, ⟨W, N, D, E, h.tx (fun o k a c d => ?_) (fun o k a c => ?_) ?_ ?_ ?_ ?_⟩, by rw [up_e, up_e]⟩
  · rw [up_v, if_neg (by unfold SbH at a; omega), up_v, if_neg (by omega), up_v, if_neg (by omega), up_v, if_neg (by omega)]; exact hs o k a c
  · rw [up_v, if_neg (by unfold SbM at a; omega), up_v, if_neg (by omega), up_v, if_neg (by omega)]; exact ht o k a (by omega)
  · rw [up_k (by omega), up_k (by omega), up_e, up_k (by omega), up_k (by omega), up_e]
  · rw [up_k (by omega), up_e, up_k (by omega), up_e]
  · rw [up_o (by omega), up_o (by omega), up_o (by omega), up_e]
  · rw [up_k (by omega), up_k (by omega), up_k (by omega)]; exact h8
end
